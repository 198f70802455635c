/-! what the code asks, by program: X2_hasRoomFor X2_write X2_writeBinary X2_writePacked X2_writeDigits X2_signedDigit X2_signByte X2_read X2_readBinary X2_readPacked X2_halfByte X2_readDigits X2_readsMinus X4_init X4_add X4_contain X5_init X6_init X6_clear X6_has X6_get X6_put X6_repeat X7_init -/
theorem dX2_hasRoomFor_0 : decode cX2_hasRoomFor 0 = .ok (.lconst 1, 1) := by decide +kernel
theorem dX2_hasRoomFor_1 : decode cX2_hasRoomFor 1 = .ok (.lstore_n 2, 1) := by decide +kernel
theorem dX2_hasRoomFor_2 : decode cX2_hasRoomFor 2 = .ok (.iconst 0, 1) := by decide +kernel
theorem dX2_hasRoomFor_3 : decode cX2_hasRoomFor 3 = .ok (.istore 4, 2) := by decide +kernel
theorem dX2_hasRoomFor_5 : decode cX2_hasRoomFor 5 = .ok (.iload 4, 2) := by decide +kernel
theorem dX2_hasRoomFor_7 : decode cX2_hasRoomFor 7 = .ok (.iload_n 0, 1) := by decide +kernel
theorem dX2_hasRoomFor_8 : decode cX2_hasRoomFor 8 = .ok (.if_icmp .ge 22, 3) := by decide +kernel
theorem dX2_hasRoomFor_11 : decode cX2_hasRoomFor 11 = .ok (.iload 4, 2) := by decide +kernel
theorem dX2_hasRoomFor_13 : decode cX2_hasRoomFor 13 = .ok (.bipush 18, 2) := by decide +kernel
theorem dX2_hasRoomFor_15 : decode cX2_hasRoomFor 15 = .ok (.if_icmp .ge 15, 3) := by decide +kernel
theorem dX2_hasRoomFor_18 : decode cX2_hasRoomFor 18 = .ok (.lload_n 2, 1) := by decide +kernel
theorem dX2_hasRoomFor_19 : decode cX2_hasRoomFor 19 = .ok (.ldc2_w 9, 3) := by decide +kernel
theorem dX2_hasRoomFor_22 : decode cX2_hasRoomFor 22 = .ok (.lmul, 1) := by decide +kernel
theorem dX2_hasRoomFor_23 : decode cX2_hasRoomFor 23 = .ok (.lstore_n 2, 1) := by decide +kernel
theorem dX2_hasRoomFor_24 : decode cX2_hasRoomFor 24 = .ok (.iinc 4 1, 3) := by decide +kernel
theorem dX2_hasRoomFor_27 : decode cX2_hasRoomFor 27 = .ok (.goto (-22), 3) := by decide +kernel
theorem dX2_hasRoomFor_30 : decode cX2_hasRoomFor 30 = .ok (.iload_n 1, 1) := by decide +kernel
theorem dX2_hasRoomFor_31 : decode cX2_hasRoomFor 31 = .ok (.i2l, 1) := by decide +kernel
theorem dX2_hasRoomFor_32 : decode cX2_hasRoomFor 32 = .ok (.lload_n 2, 1) := by decide +kernel
theorem dX2_hasRoomFor_33 : decode cX2_hasRoomFor 33 = .ok (.lcmp, 1) := by decide +kernel
theorem dX2_hasRoomFor_34 : decode cX2_hasRoomFor 34 = .ok (.ifCond .ge 15, 3) := by decide +kernel
theorem dX2_hasRoomFor_37 : decode cX2_hasRoomFor 37 = .ok (.iload_n 1, 1) := by decide +kernel
theorem dX2_hasRoomFor_38 : decode cX2_hasRoomFor 38 = .ok (.i2l, 1) := by decide +kernel
theorem dX2_hasRoomFor_39 : decode cX2_hasRoomFor 39 = .ok (.lload_n 2, 1) := by decide +kernel
theorem dX2_hasRoomFor_40 : decode cX2_hasRoomFor 40 = .ok (.lneg, 1) := by decide +kernel
theorem dX2_hasRoomFor_41 : decode cX2_hasRoomFor 41 = .ok (.lcmp, 1) := by decide +kernel
theorem dX2_hasRoomFor_42 : decode cX2_hasRoomFor 42 = .ok (.ifCond .le 7, 3) := by decide +kernel
theorem dX2_hasRoomFor_45 : decode cX2_hasRoomFor 45 = .ok (.iconst 1, 1) := by decide +kernel
theorem dX2_hasRoomFor_46 : decode cX2_hasRoomFor 46 = .ok (.goto 4, 3) := by decide +kernel
theorem dX2_hasRoomFor_49 : decode cX2_hasRoomFor 49 = .ok (.iconst 0, 1) := by decide +kernel
theorem dX2_hasRoomFor_50 : decode cX2_hasRoomFor 50 = .ok (.ireturn, 1) := by decide +kernel
def VX2_hasRoomFor_30 (g : jg) (x1 : Int32) (x2 : Int64) (h : jh) (k n : Nat) (Q : jq) : Prop := (((x2) ≤ ((x1 : Int32).toInt64) → Q (.inl (some (.inl (0)))) h) ∧ (¬ (x2) ≤ ((x1 : Int32).toInt64) → ((((x1 : Int32).toInt64) ≤ (-(x2)) → Q (.inl (some (.inl (0)))) h) ∧ (¬ ((x1 : Int32).toInt64) ≤ (-(x2)) → Q (.inl (some (.inl (1)))) h))))
set_option maxRecDepth 20000 in
theorem vX2_hasRoomFor_30 {g : jg} {x1 : Int32} {x2 : Int64} {h : jh} {k n : Nat} {Q : jq} (hv : VX2_hasRoomFor_30 g x1 x2 h k n Q) : jG g mX2_hasRoomFor 30 [(1, .inl (x1)), (2, .inr (.inl (x2)))] [] h k n Q := by
  unfold VX2_hasRoomFor_30 at hv
  refine jg_iload_n dX2_hasRoomFor_30 rfl (List.Mem.head _) ?_
  refine jg_i2l dX2_hasRoomFor_31 ?_
  refine jg_lload_n dX2_hasRoomFor_32 rfl (List.Mem.tail _ (List.Mem.head _)) ?_
  refine jg_lcmp_ge (tgt := 49) dX2_hasRoomFor_33 dX2_hasRoomFor_34 (by decide) (fun c1 => ?_) (fun c1 => ?_)
  · replace hv := hv.1 c1
    refine jg_iconst (v := 0) dX2_hasRoomFor_49 (by decide) ?_
    exact jg_bret dX2_hasRoomFor_50 rfl (by decide) hv
  · replace hv := hv.2 c1
    refine jg_iload_n dX2_hasRoomFor_37 rfl (List.Mem.head _) ?_
    refine jg_i2l dX2_hasRoomFor_38 ?_
    refine jg_lload_n dX2_hasRoomFor_39 rfl (List.Mem.tail _ (List.Mem.head _)) ?_
    refine jg_lneg dX2_hasRoomFor_40 ?_
    refine jg_lcmp_le (tgt := 49) dX2_hasRoomFor_41 dX2_hasRoomFor_42 (by decide) (fun c2 => ?_) (fun c2 => ?_)
    · replace hv := hv.1 c2
      refine jg_iconst (v := 0) dX2_hasRoomFor_49 (by decide) ?_
      exact jg_bret dX2_hasRoomFor_50 rfl (by decide) hv
    · replace hv := hv.2 c2
      refine jg_iconst (v := 1) dX2_hasRoomFor_45 (by decide) ?_
      refine jg_goto (tgt := 50) dX2_hasRoomFor_46 (by decide) ?_
      exact jg_bret dX2_hasRoomFor_50 rfl (by decide) hv
def VX2_hasRoomFor_5 (g : jg) (x0 : Int32) (x1 : Int32) (x2 : Int64) (x4 : Int32) (h : jh) (k n : Nat) (Q : jq) : Prop := (((x0) ≤ (x4) → VX2_hasRoomFor_30 g (x1) (x2) h k n Q) ∧ (¬ (x0) ≤ (x4) → (((18 : Int32) ≤ (x4) → VX2_hasRoomFor_30 g (x1) (x2) h k n Q) ∧ (¬ (18 : Int32) ≤ (x4) → jG g mX2_hasRoomFor 5 [(0, .inl (x0)), (1, .inl (x1)), (2, .inr (.inl ((x2) * (10)))), (4, .inl ((x4) + 1))] [] h k n Q))))
set_option maxRecDepth 20000 in
theorem vX2_hasRoomFor_5 {g : jg} {x0 : Int32} {x1 : Int32} {x2 : Int64} {x4 : Int32} {h : jh} {k n : Nat} {Q : jq} (hv : VX2_hasRoomFor_5 g x0 x1 x2 x4 h k n Q) : jG g mX2_hasRoomFor 5 [(0, .inl (x0)), (1, .inl (x1)), (2, .inr (.inl (x2))), (4, .inl (x4))] [] h k n Q := by
  unfold VX2_hasRoomFor_5 at hv
  refine jg_iload dX2_hasRoomFor_5 (List.Mem.tail _ (List.Mem.tail _ (List.Mem.tail _ (List.Mem.head _)))) ?_
  refine jg_iload_n dX2_hasRoomFor_7 rfl (List.Mem.head _) ?_
  refine jg_icmp_ge (tgt := 30) dX2_hasRoomFor_8 (by decide) (fun c3 => ?_) (fun c3 => ?_)
  · replace hv := hv.1 c3
    refine jG.sub (lv' := [(1, .inl (x1)), (2, .inr (.inl (x2)))]) (by simp) ?_
    exact vX2_hasRoomFor_30 hv
  · replace hv := hv.2 c3
    refine jg_iload dX2_hasRoomFor_11 (List.Mem.tail _ (List.Mem.tail _ (List.Mem.tail _ (List.Mem.head _)))) ?_
    refine jg_bipush (v := 18) dX2_hasRoomFor_13 (by decide) ?_
    refine jg_icmp_ge (tgt := 30) dX2_hasRoomFor_15 (by decide) (fun c4 => ?_) (fun c4 => ?_)
    · replace hv := hv.1 c4
      refine jG.sub (lv' := [(1, .inl (x1)), (2, .inr (.inl (x2)))]) (by simp) ?_
      exact vX2_hasRoomFor_30 hv
    · replace hv := hv.2 c4
      refine jg_lload_n dX2_hasRoomFor_18 rfl (List.Mem.tail _ (List.Mem.tail _ (List.Mem.head _))) ?_
      refine jg_ldc2 (v := 10) dX2_hasRoomFor_19 kl_RX2_9 ?_
      refine jg_lmul dX2_hasRoomFor_22 ?_
      refine jg_lstore_n (lv' := [(2, .inr (.inl ((x2) * (10)))), (0, .inl (x0)), (1, .inl (x1)), (4, .inl (x4))]) dX2_hasRoomFor_23 rfl (by decide) rfl ?_
      refine jg_iinc (v := (x4) + 1) (lv' := [(4, .inl ((x4) + 1)), (2, .inr (.inl ((x2) * (10)))), (0, .inl (x0)), (1, .inl (x1))]) dX2_hasRoomFor_24 (List.Mem.tail _ (List.Mem.tail _ (List.Mem.tail _ (List.Mem.head _)))) rfl (by decide) rfl ?_
      refine jg_goto (tgt := 5) dX2_hasRoomFor_27 (by decide) ?_
      refine jG.sub (lv' := [(0, .inl (x0)), (1, .inl (x1)), (2, .inr (.inl ((x2) * (10)))), (4, .inl ((x4) + 1))]) (by simp) ?_
      exact hv
def VX2_hasRoomFor_0 (g : jg) (x0 : Int32) (x1 : Int32) (h : jh) (k n : Nat) (Q : jq) : Prop := jG g mX2_hasRoomFor 5 [(0, .inl (x0)), (1, .inl (x1)), (2, .inr (.inl (1))), (4, .inl (0))] [] h k n Q
set_option maxRecDepth 20000 in
theorem vX2_hasRoomFor_0 {g : jg} {x0 : Int32} {x1 : Int32} {h : jh} {k n : Nat} {Q : jq} (hv : VX2_hasRoomFor_0 g x0 x1 h k n Q) : jG g mX2_hasRoomFor 0 [(0, .inl (x0)), (1, .inl (x1))] [] h k n Q := by
  unfold VX2_hasRoomFor_0 at hv
  refine jg_lconst (v := 1) dX2_hasRoomFor_0 (by decide) ?_
  refine jg_lstore_n (lv' := [(2, .inr (.inl (1))), (0, .inl (x0)), (1, .inl (x1))]) dX2_hasRoomFor_1 rfl (by decide) rfl ?_
  refine jg_iconst (v := 0) dX2_hasRoomFor_2 (by decide) ?_
  refine jg_istore (lv' := [(4, .inl (0)), (2, .inr (.inl (1))), (0, .inl (x0)), (1, .inl (x1))]) dX2_hasRoomFor_3 (by decide) rfl ?_
  refine jG.sub (lv' := [(0, .inl (x0)), (1, .inl (x1)), (2, .inr (.inl (1))), (4, .inl (0))]) (by simp) ?_
  exact hv
theorem eX2_hasRoomFor {g : jg} {x0 : Int32} {x1 : Int32} {h : jh} {mc ms : Nat} {Q : jq} (hv : VX2_hasRoomFor_0 g x0 x1 h mc ms Q) : jM g mX2_hasRoomFor [.inl (x0), .inl (x1)] h mc ms Q := jM.of (by decide) (Nat.le_of_ble_eq_true rfl) (lv := [(0, .inl (x0)), (1, .inl (x1))]) rfl (vX2_hasRoomFor_0 hv)
theorem dX2_write_0 : decode cX2_write 0 = .ok (.aload_n 1, 1) := by decide +kernel
theorem dX2_write_1 : decode cX2_write 1 = .ok (.getfield 11, 3) := by decide +kernel
theorem dX2_write_4 : decode cX2_write 4 = .ok (.getfield 17, 3) := by decide +kernel
theorem dX2_write_7 : decode cX2_write 7 = .ok (.l2i, 1) := by decide +kernel
theorem dX2_write_8 : decode cX2_write 8 = .ok (.istore_n 2, 1) := by decide +kernel
theorem dX2_write_9 : decode cX2_write 9 = .ok (.aload_n 1, 1) := by decide +kernel
theorem dX2_write_10 : decode cX2_write 10 = .ok (.getfield 23, 3) := by decide +kernel
theorem dX2_write_13 : decode cX2_write 13 = .ok (.bipush 8, 2) := by decide +kernel
theorem dX2_write_15 : decode cX2_write 15 = .ok (.if_icmp .ne 20, 3) := by decide +kernel
theorem dX2_write_18 : decode cX2_write 18 = .ok (.aload_n 0, 1) := by decide +kernel
theorem dX2_write_19 : decode cX2_write 19 = .ok (.iload_n 2, 1) := by decide +kernel
theorem dX2_write_20 : decode cX2_write 20 = .ok (.aload_n 1, 1) := by decide +kernel
theorem dX2_write_21 : decode cX2_write 21 = .ok (.getfield 27, 3) := by decide +kernel
theorem dX2_write_24 : decode cX2_write 24 = .ok (.aload_n 1, 1) := by decide +kernel
theorem dX2_write_25 : decode cX2_write 25 = .ok (.getfield 30, 3) := by decide +kernel
theorem dX2_write_28 : decode cX2_write 28 = .ok (.i2l, 1) := by decide +kernel
theorem dX2_write_29 : decode cX2_write 29 = .ok (.invokestatic 33, 3) := by decide +kernel
theorem dX2_write_32 : decode cX2_write 32 = .ok (.goto 35, 3) := by decide +kernel
theorem dX2_write_35 : decode cX2_write 35 = .ok (.aload_n 1, 1) := by decide +kernel
theorem dX2_write_36 : decode cX2_write 36 = .ok (.getfield 23, 3) := by decide +kernel
theorem dX2_write_39 : decode cX2_write 39 = .ok (.bipush 7, 2) := by decide +kernel
theorem dX2_write_41 : decode cX2_write 41 = .ok (.if_icmp .ne 20, 3) := by decide +kernel
theorem dX2_write_44 : decode cX2_write 44 = .ok (.aload_n 0, 1) := by decide +kernel
theorem dX2_write_45 : decode cX2_write 45 = .ok (.iload_n 2, 1) := by decide +kernel
theorem dX2_write_46 : decode cX2_write 46 = .ok (.aload_n 1, 1) := by decide +kernel
theorem dX2_write_47 : decode cX2_write 47 = .ok (.getfield 27, 3) := by decide +kernel
theorem dX2_write_50 : decode cX2_write 50 = .ok (.aload_n 1, 1) := by decide +kernel
theorem dX2_write_51 : decode cX2_write 51 = .ok (.getfield 30, 3) := by decide +kernel
theorem dX2_write_54 : decode cX2_write 54 = .ok (.i2l, 1) := by decide +kernel
theorem dX2_write_55 : decode cX2_write 55 = .ok (.invokestatic 39, 3) := by decide +kernel
theorem dX2_write_58 : decode cX2_write 58 = .ok (.goto 9, 3) := by decide +kernel
theorem dX2_write_61 : decode cX2_write 61 = .ok (.aload_n 0, 1) := by decide +kernel
theorem dX2_write_62 : decode cX2_write 62 = .ok (.iload_n 2, 1) := by decide +kernel
theorem dX2_write_63 : decode cX2_write 63 = .ok (.aload_n 1, 1) := by decide +kernel
theorem dX2_write_64 : decode cX2_write 64 = .ok (.invokestatic 42, 3) := by decide +kernel
theorem dX2_write_67 : decode cX2_write 67 = .ok (.return_, 1) := by decide +kernel
def VX2_write_0 (g : jg) (o0 : Option Nat) (o1 : Option Nat) (h : jh) (k n : Nat) (Q : jq) : Prop := (¬ (o1) = none) ∧ (jt h (jd (o1)) = 1) ∧ (¬ (jr h 7 (jd (o1))) = none) ∧ (jt h (jd (jr h 7 (jd (o1)))) = 4) ∧ ((¬ (ji h 2 (jd (o1))) = (8) → ((¬ (ji h 2 (jd (o1))) = (7) → jM g mX2_writeDigits [.inr (.inr (o0)), .inl ((jl h 192 (jd (jr h 7 (jd (o1)))) : Int64).toInt32), .inr (.inr (o1))] h 0 0 (jkv (fun (h8 : jh) => Q (.inl none) h8) (fun e h9 => Q (.inr e) h9))) ∧ ((ji h 2 (jd (o1))) = (7) → jM g mX2_writePacked [.inr (.inr (o0)), .inl ((jl h 192 (jd (jr h 7 (jd (o1)))) : Int64).toInt32), .inl (ji h 4 (jd (o1))), .inr (.inl ((ji h 13 (jd (o1)) : Int32).toInt64))] h 0 0 (jkv (fun (h10 : jh) => Q (.inl none) h10) (fun e h9 => Q (.inr e) h9))))) ∧ ((ji h 2 (jd (o1))) = (8) → jM g mX2_writeBinary [.inr (.inr (o0)), .inl ((jl h 192 (jd (jr h 7 (jd (o1)))) : Int64).toInt32), .inl (ji h 4 (jd (o1))), .inr (.inl ((ji h 13 (jd (o1)) : Int32).toInt64))] h 0 0 (jkv (fun (h12 : jh) => Q (.inl none) h12) (fun e h9 => Q (.inr e) h9))))
set_option maxRecDepth 20000 in
theorem vX2_write_0 {g : jg} {o0 : Option Nat} {o1 : Option Nat} {h : jh} {k n : Nat} {Q : jq} (hv : VX2_write_0 g o0 o1 h k n Q) : jG g mX2_write 0 [(0, .inr (.inr (o0))), (1, .inr (.inr (o1)))] [] h k n Q := by
  unfold VX2_write_0 at hv
  refine jg_aload_n dX2_write_0 rfl (List.Mem.tail _ (List.Mem.head _)) ?_
  obtain ⟨f1, hv⟩ := hv
  obtain ⟨f2, hv⟩ := hv
  refine jg_getr dX2_write_1 fl_RX2_11 rfl f1 f2 ?_
  obtain ⟨f3, hv⟩ := hv
  obtain ⟨f4, hv⟩ := hv
  refine jg_getl dX2_write_4 fl_RX2_17 rfl f3 f4 ?_
  refine jg_l2i dX2_write_7 ?_
  refine jg_istore_n (lv' := [(2, .inl ((jl h 192 (jd (jr h 7 (jd (o1)))) : Int64).toInt32)), (0, .inr (.inr (o0))), (1, .inr (.inr (o1)))]) dX2_write_8 rfl (by decide) rfl ?_
  refine jg_aload_n dX2_write_9 rfl (List.Mem.tail _ (List.Mem.tail _ (List.Mem.head _))) ?_
  refine jg_geti dX2_write_10 fl_RX2_23 rfl f1 f2 ?_
  refine jg_bipush (v := 8) dX2_write_13 (by decide) ?_
  refine jg_icmp_ne (tgt := 35) dX2_write_15 (by decide) (fun c5 => ?_) (fun c5 => ?_)
  · replace hv := hv.1 c5
    refine jg_aload_n dX2_write_35 rfl (List.Mem.tail _ (List.Mem.tail _ (List.Mem.head _))) ?_
    refine jg_geti dX2_write_36 fl_RX2_23 rfl f1 f2 ?_
    refine jg_bipush (v := 7) dX2_write_39 (by decide) ?_
    refine jg_icmp_ne (tgt := 61) dX2_write_41 (by decide) (fun c6 => ?_) (fun c6 => ?_)
    · replace hv := hv.1 c6
      refine jg_aload_n dX2_write_61 rfl (List.Mem.tail _ (List.Mem.head _)) ?_
      refine jg_iload_n dX2_write_62 rfl (List.Mem.head _) ?_
      refine jg_aload_n dX2_write_63 rfl (List.Mem.tail _ (List.Mem.tail _ (List.Mem.head _))) ?_
      refine jg_callS mX2_writeDigits [.inr (.inr (o0)), .inl ((jl h 192 (jd (jr h 7 (jd (o1)))) : Int64).toInt32), .inr (.inr (o1))] [] dX2_write_64 rfl cl_RX2_42 ⟨⟨by decide, by decide⟩, by decide⟩ (Nat.zero_le _) (Nat.zero_le _) (jM.mono (jkv_k (fun h8 hv => ?_)) hv)
      exact jg_vret dX2_write_67 rfl hv
    · replace hv := hv.2 c6
      refine jg_aload_n dX2_write_44 rfl (List.Mem.tail _ (List.Mem.head _)) ?_
      refine jg_iload_n dX2_write_45 rfl (List.Mem.head _) ?_
      refine jg_aload_n dX2_write_46 rfl (List.Mem.tail _ (List.Mem.tail _ (List.Mem.head _))) ?_
      refine jg_geti dX2_write_47 fl_RX2_27 rfl f1 f2 ?_
      refine jg_aload_n dX2_write_50 rfl (List.Mem.tail _ (List.Mem.tail _ (List.Mem.head _))) ?_
      refine jg_geti dX2_write_51 fl_RX2_30 rfl f1 f2 ?_
      refine jg_i2l dX2_write_54 ?_
      refine jg_callS mX2_writePacked [.inr (.inr (o0)), .inl ((jl h 192 (jd (jr h 7 (jd (o1)))) : Int64).toInt32), .inl (ji h 4 (jd (o1))), .inr (.inl ((ji h 13 (jd (o1)) : Int32).toInt64))] [] dX2_write_55 rfl cl_RX2_39 ⟨⟨by decide, by decide⟩, by decide⟩ (Nat.zero_le _) (Nat.zero_le _) (jM.mono (jkv_k (fun h10 hv => ?_)) hv)
      refine jg_goto (tgt := 67) dX2_write_58 (by decide) ?_
      exact jg_vret dX2_write_67 rfl hv
  · replace hv := hv.2 c5
    refine jg_aload_n dX2_write_18 rfl (List.Mem.tail _ (List.Mem.head _)) ?_
    refine jg_iload_n dX2_write_19 rfl (List.Mem.head _) ?_
    refine jg_aload_n dX2_write_20 rfl (List.Mem.tail _ (List.Mem.tail _ (List.Mem.head _))) ?_
    refine jg_geti dX2_write_21 fl_RX2_27 rfl f1 f2 ?_
    refine jg_aload_n dX2_write_24 rfl (List.Mem.tail _ (List.Mem.tail _ (List.Mem.head _))) ?_
    refine jg_geti dX2_write_25 fl_RX2_30 rfl f1 f2 ?_
    refine jg_i2l dX2_write_28 ?_
    refine jg_callS mX2_writeBinary [.inr (.inr (o0)), .inl ((jl h 192 (jd (jr h 7 (jd (o1)))) : Int64).toInt32), .inl (ji h 4 (jd (o1))), .inr (.inl ((ji h 13 (jd (o1)) : Int32).toInt64))] [] dX2_write_29 rfl cl_RX2_33 ⟨⟨by decide, by decide⟩, by decide⟩ (Nat.zero_le _) (Nat.zero_le _) (jM.mono (jkv_k (fun h12 hv => ?_)) hv)
    refine jg_goto (tgt := 67) dX2_write_32 (by decide) ?_
    exact jg_vret dX2_write_67 rfl hv
theorem eX2_write {g : jg} {o0 : Option Nat} {o1 : Option Nat} {h : jh} {mc ms : Nat} {Q : jq} (hv : VX2_write_0 g o0 o1 h mc ms Q) : jM g mX2_write [.inr (.inr (o0)), .inr (.inr (o1))] h mc ms Q := jM.of (by decide) (Nat.le_of_ble_eq_true rfl) (lv := [(0, .inr (.inr (o0))), (1, .inr (.inr (o1)))]) rfl (vX2_write_0 hv)
theorem dX2_writeBinary_0 : decode cX2_writeBinary 0 = .ok (.lload_n 3, 1) := by decide +kernel
theorem dX2_writeBinary_1 : decode cX2_writeBinary 1 = .ok (.lstore 5, 2) := by decide +kernel
theorem dX2_writeBinary_3 : decode cX2_writeBinary 3 = .ok (.iload_n 2, 1) := by decide +kernel
theorem dX2_writeBinary_4 : decode cX2_writeBinary 4 = .ok (.iconst 1, 1) := by decide +kernel
theorem dX2_writeBinary_5 : decode cX2_writeBinary 5 = .ok (.isub, 1) := by decide +kernel
theorem dX2_writeBinary_6 : decode cX2_writeBinary 6 = .ok (.istore 7, 2) := by decide +kernel
theorem dX2_writeBinary_8 : decode cX2_writeBinary 8 = .ok (.iload 7, 2) := by decide +kernel
theorem dX2_writeBinary_10 : decode cX2_writeBinary 10 = .ok (.ifCond .lt 31, 3) := by decide +kernel
theorem dX2_writeBinary_13 : decode cX2_writeBinary 13 = .ok (.aload_n 0, 1) := by decide +kernel
theorem dX2_writeBinary_14 : decode cX2_writeBinary 14 = .ok (.iload_n 1, 1) := by decide +kernel
theorem dX2_writeBinary_15 : decode cX2_writeBinary 15 = .ok (.iload 7, 2) := by decide +kernel
theorem dX2_writeBinary_17 : decode cX2_writeBinary 17 = .ok (.iadd, 1) := by decide +kernel
theorem dX2_writeBinary_18 : decode cX2_writeBinary 18 = .ok (.lload 5, 2) := by decide +kernel
theorem dX2_writeBinary_20 : decode cX2_writeBinary 20 = .ok (.ldc2_w 46, 3) := by decide +kernel
theorem dX2_writeBinary_23 : decode cX2_writeBinary 23 = .ok (.land, 1) := by decide +kernel
theorem dX2_writeBinary_24 : decode cX2_writeBinary 24 = .ok (.l2i, 1) := by decide +kernel
theorem dX2_writeBinary_25 : decode cX2_writeBinary 25 = .ok (.invokevirtual 48, 3) := by decide +kernel
theorem dX2_writeBinary_28 : decode cX2_writeBinary 28 = .ok (.lload 5, 2) := by decide +kernel
theorem dX2_writeBinary_30 : decode cX2_writeBinary 30 = .ok (.bipush 8, 2) := by decide +kernel
theorem dX2_writeBinary_32 : decode cX2_writeBinary 32 = .ok (.lshr, 1) := by decide +kernel
theorem dX2_writeBinary_33 : decode cX2_writeBinary 33 = .ok (.lstore 5, 2) := by decide +kernel
theorem dX2_writeBinary_35 : decode cX2_writeBinary 35 = .ok (.iinc 7 (-1), 3) := by decide +kernel
theorem dX2_writeBinary_38 : decode cX2_writeBinary 38 = .ok (.goto (-30), 3) := by decide +kernel
theorem dX2_writeBinary_41 : decode cX2_writeBinary 41 = .ok (.return_, 1) := by decide +kernel
def VX2_writeBinary_8 (g : jg) (o0 : Option Nat) (x1 : Int32) (x5 : Int64) (x7 : Int32) (h : jh) (k n : Nat) (Q : jq) : Prop := (((x7) < 0 → Q (.inl none) h) ∧ (¬ (x7) < 0 → (¬ (o0) = none) ∧ (jt h (jd (o0)) = 5) ∧ jM g mX6_put [.inr (.inr (some (jd (o0)))), .inl ((x1) + (x7)), .inl (((x5) &&& (255) : Int64).toInt32)] h 0 0 (jkv (fun (h5 : jh) => jG g mX2_writeBinary 8 [(0, .inr (.inr (o0))), (1, .inl (x1)), (5, .inr (.inl ((x5) >>> ((8 : Int32).toInt64 &&& 63)))), (7, .inl ((x7) + (-1)))] [] h5 k n Q) (fun e h9 => Q (.inr e) h9))))
set_option maxRecDepth 20000 in
theorem vX2_writeBinary_8 {g : jg} {o0 : Option Nat} {x1 : Int32} {x5 : Int64} {x7 : Int32} {h : jh} {k n : Nat} {Q : jq} (hv : VX2_writeBinary_8 g o0 x1 x5 x7 h k n Q) : jG g mX2_writeBinary 8 [(0, .inr (.inr (o0))), (1, .inl (x1)), (5, .inr (.inl (x5))), (7, .inl (x7))] [] h k n Q := by
  unfold VX2_writeBinary_8 at hv
  refine jg_iload dX2_writeBinary_8 (List.Mem.tail _ (List.Mem.tail _ (List.Mem.tail _ (List.Mem.head _)))) ?_
  refine jg_if_lt (tgt := 41) dX2_writeBinary_10 (by decide) (fun c1 => ?_) (fun c1 => ?_)
  · replace hv := hv.1 c1
    exact jg_vret dX2_writeBinary_41 rfl hv
  · replace hv := hv.2 c1
    refine jg_aload_n dX2_writeBinary_13 rfl (List.Mem.head _) ?_
    refine jg_iload_n dX2_writeBinary_14 rfl (List.Mem.tail _ (List.Mem.head _)) ?_
    refine jg_iload dX2_writeBinary_15 (List.Mem.tail _ (List.Mem.tail _ (List.Mem.tail _ (List.Mem.head _)))) ?_
    refine jg_iadd dX2_writeBinary_17 ?_
    refine jg_lload dX2_writeBinary_18 (List.Mem.tail _ (List.Mem.tail _ (List.Mem.head _))) ?_
    refine jg_ldc2 (v := 255) dX2_writeBinary_20 kl_RX2_46 ?_
    refine jg_land dX2_writeBinary_23 ?_
    refine jg_l2i dX2_writeBinary_24 ?_
    obtain ⟨f2, hv⟩ := hv
    obtain ⟨f3, hv⟩ := hv
    refine jp_callV mX6_put [.inl ((x1) + (x7)), .inl (((x5) &&& (255) : Int64).toInt32)] [] dX2_writeBinary_25 rfl cl_RX2_48 ⟨⟨by decide, by decide⟩, by decide⟩ f2 f3 (Nat.zero_le _) (Nat.zero_le _) (jM.mono (jkv_k (fun h5 hv => ?_)) hv)
    refine jg_lload dX2_writeBinary_28 (List.Mem.tail _ (List.Mem.tail _ (List.Mem.head _))) ?_
    refine jg_bipush (v := 8) dX2_writeBinary_30 (by decide) ?_
    refine jg_lshr dX2_writeBinary_32 ?_
    refine jg_lstore (lv' := [(5, .inr (.inl ((x5) >>> ((8 : Int32).toInt64 &&& 63)))), (0, .inr (.inr (o0))), (1, .inl (x1)), (7, .inl (x7))]) dX2_writeBinary_33 (by decide) rfl ?_
    refine jg_iinc (v := (x7) + (-1)) (lv' := [(7, .inl ((x7) + (-1))), (5, .inr (.inl ((x5) >>> ((8 : Int32).toInt64 &&& 63)))), (0, .inr (.inr (o0))), (1, .inl (x1))]) dX2_writeBinary_35 (List.Mem.tail _ (List.Mem.tail _ (List.Mem.tail _ (List.Mem.head _)))) rfl (by decide) rfl ?_
    refine jg_goto (tgt := 8) dX2_writeBinary_38 (by decide) ?_
    refine jG.sub (lv' := [(0, .inr (.inr (o0))), (1, .inl (x1)), (5, .inr (.inl ((x5) >>> ((8 : Int32).toInt64 &&& 63)))), (7, .inl ((x7) + (-1)))]) (by simp) ?_
    exact hv
def VX2_writeBinary_0 (g : jg) (o0 : Option Nat) (x1 : Int32) (x2 : Int32) (x3 : Int64) (h : jh) (k n : Nat) (Q : jq) : Prop := jG g mX2_writeBinary 8 [(0, .inr (.inr (o0))), (1, .inl (x1)), (5, .inr (.inl (x3))), (7, .inl ((x2) - (1)))] [] h k n Q
set_option maxRecDepth 20000 in
theorem vX2_writeBinary_0 {g : jg} {o0 : Option Nat} {x1 : Int32} {x2 : Int32} {x3 : Int64} {h : jh} {k n : Nat} {Q : jq} (hv : VX2_writeBinary_0 g o0 x1 x2 x3 h k n Q) : jG g mX2_writeBinary 0 [(0, .inr (.inr (o0))), (1, .inl (x1)), (2, .inl (x2)), (3, .inr (.inl (x3)))] [] h k n Q := by
  unfold VX2_writeBinary_0 at hv
  refine jg_lload_n dX2_writeBinary_0 rfl (List.Mem.tail _ (List.Mem.tail _ (List.Mem.tail _ (List.Mem.head _)))) ?_
  refine jg_lstore (lv' := [(5, .inr (.inl (x3))), (0, .inr (.inr (o0))), (1, .inl (x1)), (2, .inl (x2)), (3, .inr (.inl (x3)))]) dX2_writeBinary_1 (by decide) rfl ?_
  refine jg_iload_n dX2_writeBinary_3 rfl (List.Mem.tail _ (List.Mem.tail _ (List.Mem.tail _ (List.Mem.head _)))) ?_
  refine jg_iconst (v := 1) dX2_writeBinary_4 (by decide) ?_
  refine jg_isub dX2_writeBinary_5 ?_
  refine jg_istore (lv' := [(7, .inl ((x2) - (1))), (5, .inr (.inl (x3))), (0, .inr (.inr (o0))), (1, .inl (x1)), (2, .inl (x2)), (3, .inr (.inl (x3)))]) dX2_writeBinary_6 (by decide) rfl ?_
  refine jG.sub (lv' := [(0, .inr (.inr (o0))), (1, .inl (x1)), (5, .inr (.inl (x3))), (7, .inl ((x2) - (1)))]) (by simp) ?_
  exact hv
theorem eX2_writeBinary {g : jg} {o0 : Option Nat} {x1 : Int32} {x2 : Int32} {x3 : Int64} {h : jh} {mc ms : Nat} {Q : jq} (hv : VX2_writeBinary_0 g o0 x1 x2 x3 h mc ms Q) : jM g mX2_writeBinary [.inr (.inr (o0)), .inl (x1), .inl (x2), .inr (.inl (x3))] h mc ms Q := jM.of (by decide) (Nat.le_of_ble_eq_true rfl) (lv := [(0, .inr (.inr (o0))), (1, .inl (x1)), (2, .inl (x2)), (3, .inr (.inl (x3)))]) rfl (vX2_writeBinary_0 hv)
theorem dX2_writePacked_0 : decode cX2_writePacked 0 = .ok (.lload_n 3, 1) := by decide +kernel
theorem dX2_writePacked_1 : decode cX2_writePacked 1 = .ok (.invokestatic 54, 3) := by decide +kernel
theorem dX2_writePacked_4 : decode cX2_writePacked 4 = .ok (.lstore 5, 2) := by decide +kernel
theorem dX2_writePacked_6 : decode cX2_writePacked 6 = .ok (.lload_n 3, 1) := by decide +kernel
theorem dX2_writePacked_7 : decode cX2_writePacked 7 = .ok (.lconst 0, 1) := by decide +kernel
theorem dX2_writePacked_8 : decode cX2_writePacked 8 = .ok (.lcmp, 1) := by decide +kernel
theorem dX2_writePacked_9 : decode cX2_writePacked 9 = .ok (.ifCond .ge 8, 3) := by decide +kernel
theorem dX2_writePacked_12 : decode cX2_writePacked 12 = .ok (.bipush 13, 2) := by decide +kernel
theorem dX2_writePacked_14 : decode cX2_writePacked 14 = .ok (.goto 5, 3) := by decide +kernel
theorem dX2_writePacked_17 : decode cX2_writePacked 17 = .ok (.bipush 12, 2) := by decide +kernel
theorem dX2_writePacked_19 : decode cX2_writePacked 19 = .ok (.istore 7, 2) := by decide +kernel
theorem dX2_writePacked_21 : decode cX2_writePacked 21 = .ok (.iload_n 2, 1) := by decide +kernel
theorem dX2_writePacked_22 : decode cX2_writePacked 22 = .ok (.iconst 1, 1) := by decide +kernel
theorem dX2_writePacked_23 : decode cX2_writePacked 23 = .ok (.isub, 1) := by decide +kernel
theorem dX2_writePacked_24 : decode cX2_writePacked 24 = .ok (.istore 8, 2) := by decide +kernel
theorem dX2_writePacked_26 : decode cX2_writePacked 26 = .ok (.iload 8, 2) := by decide +kernel
theorem dX2_writePacked_28 : decode cX2_writePacked 28 = .ok (.ifCond .lt 59, 3) := by decide +kernel
theorem dX2_writePacked_31 : decode cX2_writePacked 31 = .ok (.lload 5, 2) := by decide +kernel
theorem dX2_writePacked_33 : decode cX2_writePacked 33 = .ok (.ldc2_w 9, 3) := by decide +kernel
theorem dX2_writePacked_36 : decode cX2_writePacked 36 = .ok (.lrem, 1) := by decide +kernel
theorem dX2_writePacked_37 : decode cX2_writePacked 37 = .ok (.l2i, 1) := by decide +kernel
theorem dX2_writePacked_38 : decode cX2_writePacked 38 = .ok (.istore 9, 2) := by decide +kernel
theorem dX2_writePacked_40 : decode cX2_writePacked 40 = .ok (.aload_n 0, 1) := by decide +kernel
theorem dX2_writePacked_41 : decode cX2_writePacked 41 = .ok (.iload_n 1, 1) := by decide +kernel
theorem dX2_writePacked_42 : decode cX2_writePacked 42 = .ok (.iload 8, 2) := by decide +kernel
theorem dX2_writePacked_44 : decode cX2_writePacked 44 = .ok (.iadd, 1) := by decide +kernel
theorem dX2_writePacked_45 : decode cX2_writePacked 45 = .ok (.iload 9, 2) := by decide +kernel
theorem dX2_writePacked_47 : decode cX2_writePacked 47 = .ok (.bipush 16, 2) := by decide +kernel
theorem dX2_writePacked_49 : decode cX2_writePacked 49 = .ok (.imul, 1) := by decide +kernel
theorem dX2_writePacked_50 : decode cX2_writePacked 50 = .ok (.iload 7, 2) := by decide +kernel
theorem dX2_writePacked_52 : decode cX2_writePacked 52 = .ok (.iadd, 1) := by decide +kernel
theorem dX2_writePacked_53 : decode cX2_writePacked 53 = .ok (.invokevirtual 48, 3) := by decide +kernel
theorem dX2_writePacked_56 : decode cX2_writePacked 56 = .ok (.lload 5, 2) := by decide +kernel
theorem dX2_writePacked_58 : decode cX2_writePacked 58 = .ok (.ldc2_w 9, 3) := by decide +kernel
theorem dX2_writePacked_61 : decode cX2_writePacked 61 = .ok (.ldiv, 1) := by decide +kernel
theorem dX2_writePacked_62 : decode cX2_writePacked 62 = .ok (.lstore 5, 2) := by decide +kernel
theorem dX2_writePacked_64 : decode cX2_writePacked 64 = .ok (.lload 5, 2) := by decide +kernel
theorem dX2_writePacked_66 : decode cX2_writePacked 66 = .ok (.ldc2_w 9, 3) := by decide +kernel
theorem dX2_writePacked_69 : decode cX2_writePacked 69 = .ok (.lrem, 1) := by decide +kernel
theorem dX2_writePacked_70 : decode cX2_writePacked 70 = .ok (.l2i, 1) := by decide +kernel
theorem dX2_writePacked_71 : decode cX2_writePacked 71 = .ok (.istore 7, 2) := by decide +kernel
theorem dX2_writePacked_73 : decode cX2_writePacked 73 = .ok (.lload 5, 2) := by decide +kernel
theorem dX2_writePacked_75 : decode cX2_writePacked 75 = .ok (.ldc2_w 9, 3) := by decide +kernel
theorem dX2_writePacked_78 : decode cX2_writePacked 78 = .ok (.ldiv, 1) := by decide +kernel
theorem dX2_writePacked_79 : decode cX2_writePacked 79 = .ok (.lstore 5, 2) := by decide +kernel
theorem dX2_writePacked_81 : decode cX2_writePacked 81 = .ok (.iinc 8 (-1), 3) := by decide +kernel
theorem dX2_writePacked_84 : decode cX2_writePacked 84 = .ok (.goto (-58), 3) := by decide +kernel
theorem dX2_writePacked_87 : decode cX2_writePacked 87 = .ok (.return_, 1) := by decide +kernel
def VX2_writePacked_26 (g : jg) (o0 : Option Nat) (x1 : Int32) (x5 : Int64) (x7 : Int32) (x8 : Int32) (h : jh) (k n : Nat) (Q : jq) : Prop := (((x8) < 0 → Q (.inl none) h) ∧ (¬ (x8) < 0 → (¬ (o0) = none) ∧ (jt h (jd (o0)) = 5) ∧ jM g mX6_put [.inr (.inr (some (jd (o0)))), .inl ((x1) + (x8)), .inl (((((x5) - (x5) / (10) * (10) : Int64).toInt32) * (16)) + (x7))] h 0 0 (jkv (fun (h5 : jh) => jG g mX2_writePacked 26 [(0, .inr (.inr (o0))), (1, .inl (x1)), (5, .inr (.inl (((x5) / (10)) / (10)))), (7, .inl ((((x5) / (10)) - ((x5) / (10)) / (10) * (10) : Int64).toInt32)), (8, .inl ((x8) + (-1)))] [] h5 k n Q) (fun e h9 => Q (.inr e) h9))))
set_option maxRecDepth 20000 in
theorem vX2_writePacked_26 {g : jg} {o0 : Option Nat} {x1 : Int32} {x5 : Int64} {x7 : Int32} {x8 : Int32} {h : jh} {k n : Nat} {Q : jq} (hv : VX2_writePacked_26 g o0 x1 x5 x7 x8 h k n Q) : jG g mX2_writePacked 26 [(0, .inr (.inr (o0))), (1, .inl (x1)), (5, .inr (.inl (x5))), (7, .inl (x7)), (8, .inl (x8))] [] h k n Q := by
  unfold VX2_writePacked_26 at hv
  refine jg_iload dX2_writePacked_26 (List.Mem.tail _ (List.Mem.tail _ (List.Mem.tail _ (List.Mem.tail _ (List.Mem.head _))))) ?_
  refine jg_if_lt (tgt := 87) dX2_writePacked_28 (by decide) (fun c1 => ?_) (fun c1 => ?_)
  · replace hv := hv.1 c1
    exact jg_vret dX2_writePacked_87 rfl hv
  · replace hv := hv.2 c1
    refine jg_lload dX2_writePacked_31 (List.Mem.tail _ (List.Mem.tail _ (List.Mem.head _))) ?_
    refine jg_ldc2 (v := 10) dX2_writePacked_33 kl_RX2_9 ?_
    refine jg_lrem dX2_writePacked_36 (by decide) ?_
    refine jg_l2i dX2_writePacked_37 ?_
    refine jg_istore (lv' := [(9, .inl (((x5) - (x5) / (10) * (10) : Int64).toInt32)), (0, .inr (.inr (o0))), (1, .inl (x1)), (5, .inr (.inl (x5))), (7, .inl (x7)), (8, .inl (x8))]) dX2_writePacked_38 (by decide) rfl ?_
    refine jg_aload_n dX2_writePacked_40 rfl (List.Mem.tail _ (List.Mem.head _)) ?_
    refine jg_iload_n dX2_writePacked_41 rfl (List.Mem.tail _ (List.Mem.tail _ (List.Mem.head _))) ?_
    refine jg_iload dX2_writePacked_42 (List.Mem.tail _ (List.Mem.tail _ (List.Mem.tail _ (List.Mem.tail _ (List.Mem.tail _ (List.Mem.head _)))))) ?_
    refine jg_iadd dX2_writePacked_44 ?_
    refine jg_iload dX2_writePacked_45 (List.Mem.head _) ?_
    refine jg_bipush (v := 16) dX2_writePacked_47 (by decide) ?_
    refine jg_imul dX2_writePacked_49 ?_
    refine jg_iload dX2_writePacked_50 (List.Mem.tail _ (List.Mem.tail _ (List.Mem.tail _ (List.Mem.tail _ (List.Mem.head _))))) ?_
    refine jg_iadd dX2_writePacked_52 ?_
    obtain ⟨f2, hv⟩ := hv
    obtain ⟨f3, hv⟩ := hv
    refine jp_callV mX6_put [.inl ((x1) + (x8)), .inl (((((x5) - (x5) / (10) * (10) : Int64).toInt32) * (16)) + (x7))] [] dX2_writePacked_53 rfl cl_RX2_48 ⟨⟨by decide, by decide⟩, by decide⟩ f2 f3 (Nat.zero_le _) (Nat.zero_le _) (jM.mono (jkv_k (fun h5 hv => ?_)) hv)
    refine jg_lload dX2_writePacked_56 (List.Mem.tail _ (List.Mem.tail _ (List.Mem.tail _ (List.Mem.head _)))) ?_
    refine jg_ldc2 (v := 10) dX2_writePacked_58 kl_RX2_9 ?_
    refine jg_ldiv dX2_writePacked_61 (by decide) ?_
    refine jg_lstore (lv' := [(5, .inr (.inl ((x5) / (10)))), (9, .inl (((x5) - (x5) / (10) * (10) : Int64).toInt32)), (0, .inr (.inr (o0))), (1, .inl (x1)), (7, .inl (x7)), (8, .inl (x8))]) dX2_writePacked_62 (by decide) rfl ?_
    refine jg_lload dX2_writePacked_64 (List.Mem.head _) ?_
    refine jg_ldc2 (v := 10) dX2_writePacked_66 kl_RX2_9 ?_
    refine jg_lrem dX2_writePacked_69 (by decide) ?_
    refine jg_l2i dX2_writePacked_70 ?_
    refine jg_istore (lv' := [(7, .inl ((((x5) / (10)) - ((x5) / (10)) / (10) * (10) : Int64).toInt32)), (5, .inr (.inl ((x5) / (10)))), (9, .inl (((x5) - (x5) / (10) * (10) : Int64).toInt32)), (0, .inr (.inr (o0))), (1, .inl (x1)), (8, .inl (x8))]) dX2_writePacked_71 (by decide) rfl ?_
    refine jg_lload dX2_writePacked_73 (List.Mem.tail _ (List.Mem.head _)) ?_
    refine jg_ldc2 (v := 10) dX2_writePacked_75 kl_RX2_9 ?_
    refine jg_ldiv dX2_writePacked_78 (by decide) ?_
    refine jg_lstore (lv' := [(5, .inr (.inl (((x5) / (10)) / (10)))), (7, .inl ((((x5) / (10)) - ((x5) / (10)) / (10) * (10) : Int64).toInt32)), (9, .inl (((x5) - (x5) / (10) * (10) : Int64).toInt32)), (0, .inr (.inr (o0))), (1, .inl (x1)), (8, .inl (x8))]) dX2_writePacked_79 (by decide) rfl ?_
    refine jg_iinc (v := (x8) + (-1)) (lv' := [(8, .inl ((x8) + (-1))), (5, .inr (.inl (((x5) / (10)) / (10)))), (7, .inl ((((x5) / (10)) - ((x5) / (10)) / (10) * (10) : Int64).toInt32)), (9, .inl (((x5) - (x5) / (10) * (10) : Int64).toInt32)), (0, .inr (.inr (o0))), (1, .inl (x1))]) dX2_writePacked_81 (List.Mem.tail _ (List.Mem.tail _ (List.Mem.tail _ (List.Mem.tail _ (List.Mem.tail _ (List.Mem.head _)))))) rfl (by decide) rfl ?_
    refine jg_goto (tgt := 26) dX2_writePacked_84 (by decide) ?_
    refine jG.sub (lv' := [(0, .inr (.inr (o0))), (1, .inl (x1)), (5, .inr (.inl (((x5) / (10)) / (10)))), (7, .inl ((((x5) / (10)) - ((x5) / (10)) / (10) * (10) : Int64).toInt32)), (8, .inl ((x8) + (-1)))]) (by simp) ?_
    exact hv
def VX2_writePacked_0 (g : jg) (o0 : Option Nat) (x1 : Int32) (x2 : Int32) (x3 : Int64) (h : jh) (k n : Nat) (Q : jq) : Prop := (((0 : Int64) ≤ (x3) → jG g mX2_writePacked 26 [(0, .inr (.inr (o0))), (1, .inl (x1)), (5, .inr (.inl (if 0 < (x3) then (x3) else -(x3)))), (7, .inl (12)), (8, .inl ((x2) - (1)))] [] h k n Q) ∧ (¬ (0 : Int64) ≤ (x3) → jG g mX2_writePacked 26 [(0, .inr (.inr (o0))), (1, .inl (x1)), (5, .inr (.inl (if 0 < (x3) then (x3) else -(x3)))), (7, .inl (13)), (8, .inl ((x2) - (1)))] [] h k n Q))
set_option maxRecDepth 20000 in
theorem vX2_writePacked_0 {g : jg} {o0 : Option Nat} {x1 : Int32} {x2 : Int32} {x3 : Int64} {h : jh} {k n : Nat} {Q : jq} (hv : VX2_writePacked_0 g o0 x1 x2 x3 h k n Q) : jG g mX2_writePacked 0 [(0, .inr (.inr (o0))), (1, .inl (x1)), (2, .inl (x2)), (3, .inr (.inl (x3)))] [] h k n Q := by
  unfold VX2_writePacked_0 at hv
  refine jg_lload_n dX2_writePacked_0 rfl (List.Mem.tail _ (List.Mem.tail _ (List.Mem.tail _ (List.Mem.head _)))) ?_
  refine jg_mabsl dX2_writePacked_1 ma_RX2_54 ma_abs1 ma_0 ma_abs2 (by decide) (jcat_le _ (Nat.le_of_ble_eq_true rfl)) (by decide) ?_
  refine jg_lstore (lv' := [(5, .inr (.inl (if 0 < (x3) then (x3) else -(x3)))), (0, .inr (.inr (o0))), (1, .inl (x1)), (2, .inl (x2)), (3, .inr (.inl (x3)))]) dX2_writePacked_4 (by decide) rfl ?_
  refine jg_lload_n dX2_writePacked_6 rfl (List.Mem.tail _ (List.Mem.tail _ (List.Mem.tail _ (List.Mem.tail _ (List.Mem.head _))))) ?_
  refine jg_lconst (v := 0) dX2_writePacked_7 (by decide) ?_
  refine jg_lcmp_ge (tgt := 17) dX2_writePacked_8 dX2_writePacked_9 (by decide) (fun c6 => ?_) (fun c6 => ?_)
  · replace hv := hv.1 c6
    refine jg_bipush (v := 12) dX2_writePacked_17 (by decide) ?_
    refine jg_istore (lv' := [(7, .inl (12)), (5, .inr (.inl (if 0 < (x3) then (x3) else -(x3)))), (0, .inr (.inr (o0))), (1, .inl (x1)), (2, .inl (x2)), (3, .inr (.inl (x3)))]) dX2_writePacked_19 (by decide) rfl ?_
    refine jg_iload_n dX2_writePacked_21 rfl (List.Mem.tail _ (List.Mem.tail _ (List.Mem.tail _ (List.Mem.tail _ (List.Mem.head _))))) ?_
    refine jg_iconst (v := 1) dX2_writePacked_22 (by decide) ?_
    refine jg_isub dX2_writePacked_23 ?_
    refine jg_istore (lv' := [(8, .inl ((x2) - (1))), (7, .inl (12)), (5, .inr (.inl (if 0 < (x3) then (x3) else -(x3)))), (0, .inr (.inr (o0))), (1, .inl (x1)), (2, .inl (x2)), (3, .inr (.inl (x3)))]) dX2_writePacked_24 (by decide) rfl ?_
    refine jG.sub (lv' := [(0, .inr (.inr (o0))), (1, .inl (x1)), (5, .inr (.inl (if 0 < (x3) then (x3) else -(x3)))), (7, .inl (12)), (8, .inl ((x2) - (1)))]) (by simp) ?_
    exact hv
  · replace hv := hv.2 c6
    refine jg_bipush (v := 13) dX2_writePacked_12 (by decide) ?_
    refine jg_goto (tgt := 19) dX2_writePacked_14 (by decide) ?_
    refine jg_istore (lv' := [(7, .inl (13)), (5, .inr (.inl (if 0 < (x3) then (x3) else -(x3)))), (0, .inr (.inr (o0))), (1, .inl (x1)), (2, .inl (x2)), (3, .inr (.inl (x3)))]) dX2_writePacked_19 (by decide) rfl ?_
    refine jg_iload_n dX2_writePacked_21 rfl (List.Mem.tail _ (List.Mem.tail _ (List.Mem.tail _ (List.Mem.tail _ (List.Mem.head _))))) ?_
    refine jg_iconst (v := 1) dX2_writePacked_22 (by decide) ?_
    refine jg_isub dX2_writePacked_23 ?_
    refine jg_istore (lv' := [(8, .inl ((x2) - (1))), (7, .inl (13)), (5, .inr (.inl (if 0 < (x3) then (x3) else -(x3)))), (0, .inr (.inr (o0))), (1, .inl (x1)), (2, .inl (x2)), (3, .inr (.inl (x3)))]) dX2_writePacked_24 (by decide) rfl ?_
    refine jG.sub (lv' := [(0, .inr (.inr (o0))), (1, .inl (x1)), (5, .inr (.inl (if 0 < (x3) then (x3) else -(x3)))), (7, .inl (13)), (8, .inl ((x2) - (1)))]) (by simp) ?_
    exact hv
theorem eX2_writePacked {g : jg} {o0 : Option Nat} {x1 : Int32} {x2 : Int32} {x3 : Int64} {h : jh} {mc ms : Nat} {Q : jq} (hv : VX2_writePacked_0 g o0 x1 x2 x3 h mc ms Q) : jM g mX2_writePacked [.inr (.inr (o0)), .inl (x1), .inl (x2), .inr (.inl (x3))] h mc ms Q := jM.of (by decide) (Nat.le_of_ble_eq_true rfl) (lv := [(0, .inr (.inr (o0))), (1, .inl (x1)), (2, .inl (x2)), (3, .inr (.inl (x3)))]) rfl (vX2_writePacked_0 hv)
theorem dX2_writeDigits_0 : decode cX2_writeDigits 0 = .ok (.aload_n 2, 1) := by decide +kernel
theorem dX2_writeDigits_1 : decode cX2_writeDigits 1 = .ok (.getfield 30, 3) := by decide +kernel
theorem dX2_writeDigits_4 : decode cX2_writeDigits 4 = .ok (.i2l, 1) := by decide +kernel
theorem dX2_writeDigits_5 : decode cX2_writeDigits 5 = .ok (.invokestatic 54, 3) := by decide +kernel
theorem dX2_writeDigits_8 : decode cX2_writeDigits 8 = .ok (.lstore_n 3, 1) := by decide +kernel
theorem dX2_writeDigits_9 : decode cX2_writeDigits 9 = .ok (.aload_n 2, 1) := by decide +kernel
theorem dX2_writeDigits_10 : decode cX2_writeDigits 10 = .ok (.getfield 23, 3) := by decide +kernel
theorem dX2_writeDigits_13 : decode cX2_writeDigits 13 = .ok (.iconst 5, 1) := by decide +kernel
theorem dX2_writeDigits_14 : decode cX2_writeDigits 14 = .ok (.if_icmp .ne 9, 3) := by decide +kernel
theorem dX2_writeDigits_17 : decode cX2_writeDigits 17 = .ok (.iload_n 1, 1) := by decide +kernel
theorem dX2_writeDigits_18 : decode cX2_writeDigits 18 = .ok (.iconst 1, 1) := by decide +kernel
theorem dX2_writeDigits_19 : decode cX2_writeDigits 19 = .ok (.iadd, 1) := by decide +kernel
theorem dX2_writeDigits_20 : decode cX2_writeDigits 20 = .ok (.goto 4, 3) := by decide +kernel
theorem dX2_writeDigits_23 : decode cX2_writeDigits 23 = .ok (.iload_n 1, 1) := by decide +kernel
theorem dX2_writeDigits_24 : decode cX2_writeDigits 24 = .ok (.istore 5, 2) := by decide +kernel
theorem dX2_writeDigits_26 : decode cX2_writeDigits 26 = .ok (.aload_n 2, 1) := by decide +kernel
theorem dX2_writeDigits_27 : decode cX2_writeDigits 27 = .ok (.invokestatic 60, 3) := by decide +kernel
theorem dX2_writeDigits_30 : decode cX2_writeDigits 30 = .ok (.istore 6, 2) := by decide +kernel
theorem dX2_writeDigits_32 : decode cX2_writeDigits 32 = .ok (.aload_n 2, 1) := by decide +kernel
theorem dX2_writeDigits_33 : decode cX2_writeDigits 33 = .ok (.getfield 64, 3) := by decide +kernel
theorem dX2_writeDigits_36 : decode cX2_writeDigits 36 = .ok (.iconst 1, 1) := by decide +kernel
theorem dX2_writeDigits_37 : decode cX2_writeDigits 37 = .ok (.isub, 1) := by decide +kernel
theorem dX2_writeDigits_38 : decode cX2_writeDigits 38 = .ok (.istore 7, 2) := by decide +kernel
theorem dX2_writeDigits_40 : decode cX2_writeDigits 40 = .ok (.iload 7, 2) := by decide +kernel
theorem dX2_writeDigits_42 : decode cX2_writeDigits 42 = .ok (.ifCond .lt 58, 3) := by decide +kernel
theorem dX2_writeDigits_45 : decode cX2_writeDigits 45 = .ok (.iload 7, 2) := by decide +kernel
theorem dX2_writeDigits_47 : decode cX2_writeDigits 47 = .ok (.iload 6, 2) := by decide +kernel
theorem dX2_writeDigits_49 : decode cX2_writeDigits 49 = .ok (.if_icmp .ne 15, 3) := by decide +kernel
theorem dX2_writeDigits_52 : decode cX2_writeDigits 52 = .ok (.aload_n 2, 1) := by decide +kernel
theorem dX2_writeDigits_53 : decode cX2_writeDigits 53 = .ok (.getfield 30, 3) := by decide +kernel
theorem dX2_writeDigits_56 : decode cX2_writeDigits 56 = .ok (.ifCond .ge 8, 3) := by decide +kernel
theorem dX2_writeDigits_59 : decode cX2_writeDigits 59 = .ok (.bipush 64, 2) := by decide +kernel
theorem dX2_writeDigits_61 : decode cX2_writeDigits 61 = .ok (.goto 4, 3) := by decide +kernel
theorem dX2_writeDigits_64 : decode cX2_writeDigits 64 = .ok (.iconst 0, 1) := by decide +kernel
theorem dX2_writeDigits_65 : decode cX2_writeDigits 65 = .ok (.istore 8, 2) := by decide +kernel
theorem dX2_writeDigits_67 : decode cX2_writeDigits 67 = .ok (.aload_n 0, 1) := by decide +kernel
theorem dX2_writeDigits_68 : decode cX2_writeDigits 68 = .ok (.iload 5, 2) := by decide +kernel
theorem dX2_writeDigits_70 : decode cX2_writeDigits 70 = .ok (.iload 7, 2) := by decide +kernel
theorem dX2_writeDigits_72 : decode cX2_writeDigits 72 = .ok (.iadd, 1) := by decide +kernel
theorem dX2_writeDigits_73 : decode cX2_writeDigits 73 = .ok (.bipush 48, 2) := by decide +kernel
theorem dX2_writeDigits_75 : decode cX2_writeDigits 75 = .ok (.lload_n 3, 1) := by decide +kernel
theorem dX2_writeDigits_76 : decode cX2_writeDigits 76 = .ok (.ldc2_w 9, 3) := by decide +kernel
theorem dX2_writeDigits_79 : decode cX2_writeDigits 79 = .ok (.lrem, 1) := by decide +kernel
theorem dX2_writeDigits_80 : decode cX2_writeDigits 80 = .ok (.l2i, 1) := by decide +kernel
theorem dX2_writeDigits_81 : decode cX2_writeDigits 81 = .ok (.iadd, 1) := by decide +kernel
theorem dX2_writeDigits_82 : decode cX2_writeDigits 82 = .ok (.iload 8, 2) := by decide +kernel
theorem dX2_writeDigits_84 : decode cX2_writeDigits 84 = .ok (.iadd, 1) := by decide +kernel
theorem dX2_writeDigits_85 : decode cX2_writeDigits 85 = .ok (.invokevirtual 48, 3) := by decide +kernel
theorem dX2_writeDigits_88 : decode cX2_writeDigits 88 = .ok (.lload_n 3, 1) := by decide +kernel
theorem dX2_writeDigits_89 : decode cX2_writeDigits 89 = .ok (.ldc2_w 9, 3) := by decide +kernel
theorem dX2_writeDigits_92 : decode cX2_writeDigits 92 = .ok (.ldiv, 1) := by decide +kernel
theorem dX2_writeDigits_93 : decode cX2_writeDigits 93 = .ok (.lstore_n 3, 1) := by decide +kernel
theorem dX2_writeDigits_94 : decode cX2_writeDigits 94 = .ok (.iinc 7 (-1), 3) := by decide +kernel
theorem dX2_writeDigits_97 : decode cX2_writeDigits 97 = .ok (.goto (-57), 3) := by decide +kernel
theorem dX2_writeDigits_100 : decode cX2_writeDigits 100 = .ok (.iload 6, 2) := by decide +kernel
theorem dX2_writeDigits_102 : decode cX2_writeDigits 102 = .ok (.iconst (-1), 1) := by decide +kernel
theorem dX2_writeDigits_103 : decode cX2_writeDigits 103 = .ok (.if_icmp .ne 25, 3) := by decide +kernel
theorem dX2_writeDigits_106 : decode cX2_writeDigits 106 = .ok (.aload_n 0, 1) := by decide +kernel
theorem dX2_writeDigits_107 : decode cX2_writeDigits 107 = .ok (.aload_n 2, 1) := by decide +kernel
theorem dX2_writeDigits_108 : decode cX2_writeDigits 108 = .ok (.invokestatic 67, 3) := by decide +kernel
theorem dX2_writeDigits_111 : decode cX2_writeDigits 111 = .ok (.aload_n 2, 1) := by decide +kernel
theorem dX2_writeDigits_112 : decode cX2_writeDigits 112 = .ok (.getfield 30, 3) := by decide +kernel
theorem dX2_writeDigits_115 : decode cX2_writeDigits 115 = .ok (.ifCond .ge 8, 3) := by decide +kernel
theorem dX2_writeDigits_118 : decode cX2_writeDigits 118 = .ok (.bipush 45, 2) := by decide +kernel
theorem dX2_writeDigits_120 : decode cX2_writeDigits 120 = .ok (.goto 5, 3) := by decide +kernel
theorem dX2_writeDigits_123 : decode cX2_writeDigits 123 = .ok (.bipush 43, 2) := by decide +kernel
theorem dX2_writeDigits_125 : decode cX2_writeDigits 125 = .ok (.invokevirtual 48, 3) := by decide +kernel
theorem dX2_writeDigits_128 : decode cX2_writeDigits 128 = .ok (.return_, 1) := by decide +kernel
def VX2_writeDigits_65 (g : jg) (o0 : Option Nat) (o2 : Option Nat) (x3 : Int64) (x5 : Int32) (x6 : Int32) (x7 : Int32) (s0 : Int32) (h : jh) (k n : Nat) (Q : jq) : Prop := (¬ (o0) = none) ∧ (jt h (jd (o0)) = 5) ∧ jM g mX6_put [.inr (.inr (some (jd (o0)))), .inl ((x5) + (x7)), .inl (((48) + (((x3) - (x3) / (10) * (10) : Int64).toInt32)) + (s0))] h 0 0 (jkv (fun (h4 : jh) => jG g mX2_writeDigits 40 [(0, .inr (.inr (o0))), (2, .inr (.inr (o2))), (3, .inr (.inl ((x3) / (10)))), (5, .inl (x5)), (6, .inl (x6)), (7, .inl ((x7) + (-1)))] [] h4 k n Q) (fun e h9 => Q (.inr e) h9))
set_option maxRecDepth 20000 in
theorem vX2_writeDigits_65 {g : jg} {o0 : Option Nat} {o2 : Option Nat} {x3 : Int64} {x5 : Int32} {x6 : Int32} {x7 : Int32} {s0 : Int32} {h : jh} {k n : Nat} {Q : jq} (hv : VX2_writeDigits_65 g o0 o2 x3 x5 x6 x7 s0 h k n Q) : jG g mX2_writeDigits 65 [(0, .inr (.inr (o0))), (2, .inr (.inr (o2))), (3, .inr (.inl (x3))), (5, .inl (x5)), (6, .inl (x6)), (7, .inl (x7))] [.inl (s0)] h k n Q := by
  unfold VX2_writeDigits_65 at hv
  refine jg_istore (lv' := [(8, .inl (s0)), (0, .inr (.inr (o0))), (2, .inr (.inr (o2))), (3, .inr (.inl (x3))), (5, .inl (x5)), (6, .inl (x6)), (7, .inl (x7))]) dX2_writeDigits_65 (by decide) rfl ?_
  refine jg_aload_n dX2_writeDigits_67 rfl (List.Mem.tail _ (List.Mem.head _)) ?_
  refine jg_iload dX2_writeDigits_68 (List.Mem.tail _ (List.Mem.tail _ (List.Mem.tail _ (List.Mem.tail _ (List.Mem.head _))))) ?_
  refine jg_iload dX2_writeDigits_70 (List.Mem.tail _ (List.Mem.tail _ (List.Mem.tail _ (List.Mem.tail _ (List.Mem.tail _ (List.Mem.tail _ (List.Mem.head _))))))) ?_
  refine jg_iadd dX2_writeDigits_72 ?_
  refine jg_bipush (v := 48) dX2_writeDigits_73 (by decide) ?_
  refine jg_lload_n dX2_writeDigits_75 rfl (List.Mem.tail _ (List.Mem.tail _ (List.Mem.tail _ (List.Mem.head _)))) ?_
  refine jg_ldc2 (v := 10) dX2_writeDigits_76 kl_RX2_9 ?_
  refine jg_lrem dX2_writeDigits_79 (by decide) ?_
  refine jg_l2i dX2_writeDigits_80 ?_
  refine jg_iadd dX2_writeDigits_81 ?_
  refine jg_iload dX2_writeDigits_82 (List.Mem.head _) ?_
  refine jg_iadd dX2_writeDigits_84 ?_
  obtain ⟨f1, hv⟩ := hv
  obtain ⟨f2, hv⟩ := hv
  refine jp_callV mX6_put [.inl ((x5) + (x7)), .inl (((48) + (((x3) - (x3) / (10) * (10) : Int64).toInt32)) + (s0))] [] dX2_writeDigits_85 rfl cl_RX2_48 ⟨⟨by decide, by decide⟩, by decide⟩ f1 f2 (Nat.zero_le _) (Nat.zero_le _) (jM.mono (jkv_k (fun h4 hv => ?_)) hv)
  refine jg_lload_n dX2_writeDigits_88 rfl (List.Mem.tail _ (List.Mem.tail _ (List.Mem.tail _ (List.Mem.head _)))) ?_
  refine jg_ldc2 (v := 10) dX2_writeDigits_89 kl_RX2_9 ?_
  refine jg_ldiv dX2_writeDigits_92 (by decide) ?_
  refine jg_lstore_n (lv' := [(3, .inr (.inl ((x3) / (10)))), (8, .inl (s0)), (0, .inr (.inr (o0))), (2, .inr (.inr (o2))), (5, .inl (x5)), (6, .inl (x6)), (7, .inl (x7))]) dX2_writeDigits_93 rfl (by decide) rfl ?_
  refine jg_iinc (v := (x7) + (-1)) (lv' := [(7, .inl ((x7) + (-1))), (3, .inr (.inl ((x3) / (10)))), (8, .inl (s0)), (0, .inr (.inr (o0))), (2, .inr (.inr (o2))), (5, .inl (x5)), (6, .inl (x6))]) dX2_writeDigits_94 (List.Mem.tail _ (List.Mem.tail _ (List.Mem.tail _ (List.Mem.tail _ (List.Mem.tail _ (List.Mem.tail _ (List.Mem.head _))))))) rfl (by decide) rfl ?_
  refine jg_goto (tgt := 40) dX2_writeDigits_97 (by decide) ?_
  refine jG.sub (lv' := [(0, .inr (.inr (o0))), (2, .inr (.inr (o2))), (3, .inr (.inl ((x3) / (10)))), (5, .inl (x5)), (6, .inl (x6)), (7, .inl ((x7) + (-1)))]) (by simp) ?_
  exact hv
def VX2_writeDigits_40 (g : jg) (o0 : Option Nat) (o2 : Option Nat) (x3 : Int64) (x5 : Int32) (x6 : Int32) (x7 : Int32) (h : jh) (k n : Nat) (Q : jq) : Prop := (((x7) < 0 → ((¬ (x6) = ((-1)) → Q (.inl none) h) ∧ ((x6) = ((-1)) → jM g mX2_signByte [.inr (.inr (o2))] h 0 0 (jki (fun (r7 : Int32) (h8 : jh) => (¬ (o2) = none) ∧ (jt h8 (jd (o2)) = 1) ∧ ((0 ≤ (ji h8 13 (jd (o2))) → (¬ (o0) = none) ∧ (jt h8 (jd (o0)) = 5) ∧ jM g mX6_put [.inr (.inr (some (jd (o0)))), .inl (r7), .inl (43)] h8 0 0 (jkv (fun (h15 : jh) => Q (.inl none) h15) (fun e h9 => Q (.inr e) h9))) ∧ (¬ 0 ≤ (ji h8 13 (jd (o2))) → (¬ (o0) = none) ∧ (jt h8 (jd (o0)) = 5) ∧ jM g mX6_put [.inr (.inr (some (jd (o0)))), .inl (r7), .inl (45)] h8 0 0 (jkv (fun (h19 : jh) => Q (.inl none) h19) (fun e h9 => Q (.inr e) h9))))) (fun e h9 => Q (.inr e) h9))))) ∧ (¬ (x7) < 0 → ((¬ (x7) = (x6) → VX2_writeDigits_65 g (o0) (o2) (x3) (x5) (x6) (x7) (0) h k n Q) ∧ ((x7) = (x6) → (¬ (o2) = none) ∧ (jt h (jd (o2)) = 1) ∧ ((0 ≤ (ji h 13 (jd (o2))) → VX2_writeDigits_65 g (o0) (o2) (x3) (x5) (x6) (x7) (0) h k n Q) ∧ (¬ 0 ≤ (ji h 13 (jd (o2))) → VX2_writeDigits_65 g (o0) (o2) (x3) (x5) (x6) (x7) (64) h k n Q))))))
set_option maxRecDepth 20000 in
theorem vX2_writeDigits_40 {g : jg} {o0 : Option Nat} {o2 : Option Nat} {x3 : Int64} {x5 : Int32} {x6 : Int32} {x7 : Int32} {h : jh} {k n : Nat} {Q : jq} (hv : VX2_writeDigits_40 g o0 o2 x3 x5 x6 x7 h k n Q) : jG g mX2_writeDigits 40 [(0, .inr (.inr (o0))), (2, .inr (.inr (o2))), (3, .inr (.inl (x3))), (5, .inl (x5)), (6, .inl (x6)), (7, .inl (x7))] [] h k n Q := by
  unfold VX2_writeDigits_40 at hv
  refine jg_iload dX2_writeDigits_40 (List.Mem.tail _ (List.Mem.tail _ (List.Mem.tail _ (List.Mem.tail _ (List.Mem.tail _ (List.Mem.head _)))))) ?_
  refine jg_if_lt (tgt := 100) dX2_writeDigits_42 (by decide) (fun c5 => ?_) (fun c5 => ?_)
  · replace hv := hv.1 c5
    refine jg_iload dX2_writeDigits_100 (List.Mem.tail _ (List.Mem.tail _ (List.Mem.tail _ (List.Mem.tail _ (List.Mem.head _))))) ?_
    refine jg_iconst (v := (-1)) dX2_writeDigits_102 (by decide) ?_
    refine jg_icmp_ne (tgt := 128) dX2_writeDigits_103 (by decide) (fun c6 => ?_) (fun c6 => ?_)
    · replace hv := hv.1 c6
      exact jg_vret dX2_writeDigits_128 rfl hv
    · replace hv := hv.2 c6
      refine jg_aload_n dX2_writeDigits_106 rfl (List.Mem.head _) ?_
      refine jg_aload_n dX2_writeDigits_107 rfl (List.Mem.tail _ (List.Mem.head _)) ?_
      refine jg_callS mX2_signByte [.inr (.inr (o2))] [.inr (.inr (o0))] dX2_writeDigits_108 rfl cl_RX2_67 ⟨⟨by decide, by decide⟩, jcat_le _ (Nat.le_of_ble_eq_true rfl)⟩ (Nat.zero_le _) (Nat.zero_le _) (jM.mono (jki_k (fun r7 h8 hv => ?_)) hv)
      refine jg_aload_n dX2_writeDigits_111 rfl (List.Mem.tail _ (List.Mem.head _)) ?_
      obtain ⟨f9, hv⟩ := hv
      obtain ⟨f10, hv⟩ := hv
      refine jg_geti dX2_writeDigits_112 fl_RX2_30 rfl f9 f10 ?_
      refine jg_if_ge (tgt := 123) dX2_writeDigits_115 (by decide) (fun c11 => ?_) (fun c11 => ?_)
      · replace hv := hv.1 c11
        refine jg_bipush (v := 43) dX2_writeDigits_123 (by decide) ?_
        obtain ⟨f12, hv⟩ := hv
        obtain ⟨f13, hv⟩ := hv
        refine jp_callV mX6_put [.inl (r7), .inl (43)] [] dX2_writeDigits_125 rfl cl_RX2_48 ⟨⟨by decide, by decide⟩, by decide⟩ f12 f13 (Nat.zero_le _) (Nat.zero_le _) (jM.mono (jkv_k (fun h15 hv => ?_)) hv)
        exact jg_vret dX2_writeDigits_128 rfl hv
      · replace hv := hv.2 c11
        refine jg_bipush (v := 45) dX2_writeDigits_118 (by decide) ?_
        refine jg_goto (tgt := 125) dX2_writeDigits_120 (by decide) ?_
        obtain ⟨f16, hv⟩ := hv
        obtain ⟨f17, hv⟩ := hv
        refine jp_callV mX6_put [.inl (r7), .inl (45)] [] dX2_writeDigits_125 rfl cl_RX2_48 ⟨⟨by decide, by decide⟩, by decide⟩ f16 f17 (Nat.zero_le _) (Nat.zero_le _) (jM.mono (jkv_k (fun h19 hv => ?_)) hv)
        exact jg_vret dX2_writeDigits_128 rfl hv
  · replace hv := hv.2 c5
    refine jg_iload dX2_writeDigits_45 (List.Mem.tail _ (List.Mem.tail _ (List.Mem.tail _ (List.Mem.tail _ (List.Mem.tail _ (List.Mem.head _)))))) ?_
    refine jg_iload dX2_writeDigits_47 (List.Mem.tail _ (List.Mem.tail _ (List.Mem.tail _ (List.Mem.tail _ (List.Mem.head _))))) ?_
    refine jg_icmp_ne (tgt := 64) dX2_writeDigits_49 (by decide) (fun c20 => ?_) (fun c20 => ?_)
    · replace hv := hv.1 c20
      refine jg_iconst (v := 0) dX2_writeDigits_64 (by decide) ?_
      exact vX2_writeDigits_65 hv
    · replace hv := hv.2 c20
      refine jg_aload_n dX2_writeDigits_52 rfl (List.Mem.tail _ (List.Mem.head _)) ?_
      obtain ⟨f21, hv⟩ := hv
      obtain ⟨f22, hv⟩ := hv
      refine jg_geti dX2_writeDigits_53 fl_RX2_30 rfl f21 f22 ?_
      refine jg_if_ge (tgt := 64) dX2_writeDigits_56 (by decide) (fun c23 => ?_) (fun c23 => ?_)
      · replace hv := hv.1 c23
        refine jg_iconst (v := 0) dX2_writeDigits_64 (by decide) ?_
        exact vX2_writeDigits_65 hv
      · replace hv := hv.2 c23
        refine jg_bipush (v := 64) dX2_writeDigits_59 (by decide) ?_
        refine jg_goto (tgt := 65) dX2_writeDigits_61 (by decide) ?_
        exact vX2_writeDigits_65 hv
def VX2_writeDigits_24 (g : jg) (o0 : Option Nat) (o2 : Option Nat) (x3 : Int64) (s0 : Int32) (h : jh) (k n : Nat) (Q : jq) : Prop := jM g mX2_signedDigit [.inr (.inr (o2))] h 0 0 (jki (fun (r24 : Int32) (h25 : jh) => (¬ (o2) = none) ∧ (jt h25 (jd (o2)) = 1) ∧ jG g mX2_writeDigits 40 [(0, .inr (.inr (o0))), (2, .inr (.inr (o2))), (3, .inr (.inl (x3))), (5, .inl (s0)), (6, .inl (r24)), (7, .inl ((ji h25 3 (jd (o2))) - (1)))] [] h25 k n Q) (fun e h9 => Q (.inr e) h9))
set_option maxRecDepth 20000 in
theorem vX2_writeDigits_24 {g : jg} {o0 : Option Nat} {o2 : Option Nat} {x3 : Int64} {s0 : Int32} {h : jh} {k n : Nat} {Q : jq} (hv : VX2_writeDigits_24 g o0 o2 x3 s0 h k n Q) : jG g mX2_writeDigits 24 [(0, .inr (.inr (o0))), (2, .inr (.inr (o2))), (3, .inr (.inl (x3)))] [.inl (s0)] h k n Q := by
  unfold VX2_writeDigits_24 at hv
  refine jg_istore (lv' := [(5, .inl (s0)), (0, .inr (.inr (o0))), (2, .inr (.inr (o2))), (3, .inr (.inl (x3)))]) dX2_writeDigits_24 (by decide) rfl ?_
  refine jg_aload_n dX2_writeDigits_26 rfl (List.Mem.tail _ (List.Mem.tail _ (List.Mem.head _))) ?_
  refine jg_callS mX2_signedDigit [.inr (.inr (o2))] [] dX2_writeDigits_27 rfl cl_RX2_60 ⟨⟨by decide, by decide⟩, by decide⟩ (Nat.zero_le _) (Nat.zero_le _) (jM.mono (jki_k (fun r24 h25 hv => ?_)) hv)
  refine jg_istore (lv' := [(6, .inl (r24)), (5, .inl (s0)), (0, .inr (.inr (o0))), (2, .inr (.inr (o2))), (3, .inr (.inl (x3)))]) dX2_writeDigits_30 (by decide) rfl ?_
  refine jg_aload_n dX2_writeDigits_32 rfl (List.Mem.tail _ (List.Mem.tail _ (List.Mem.tail _ (List.Mem.head _)))) ?_
  obtain ⟨f26, hv⟩ := hv
  obtain ⟨f27, hv⟩ := hv
  refine jg_geti dX2_writeDigits_33 fl_RX2_64 rfl f26 f27 ?_
  refine jg_iconst (v := 1) dX2_writeDigits_36 (by decide) ?_
  refine jg_isub dX2_writeDigits_37 ?_
  refine jg_istore (lv' := [(7, .inl ((ji h25 3 (jd (o2))) - (1))), (6, .inl (r24)), (5, .inl (s0)), (0, .inr (.inr (o0))), (2, .inr (.inr (o2))), (3, .inr (.inl (x3)))]) dX2_writeDigits_38 (by decide) rfl ?_
  refine jG.sub (lv' := [(0, .inr (.inr (o0))), (2, .inr (.inr (o2))), (3, .inr (.inl (x3))), (5, .inl (s0)), (6, .inl (r24)), (7, .inl ((ji h25 3 (jd (o2))) - (1)))]) (by simp) ?_
  exact hv
def VX2_writeDigits_0 (g : jg) (o0 : Option Nat) (x1 : Int32) (o2 : Option Nat) (h : jh) (k n : Nat) (Q : jq) : Prop := (¬ (o2) = none) ∧ (jt h (jd (o2)) = 1) ∧ ((¬ (ji h 2 (jd (o2))) = (5) → VX2_writeDigits_24 g (o0) (o2) (if 0 < ((ji h 13 (jd (o2)) : Int32).toInt64) then ((ji h 13 (jd (o2)) : Int32).toInt64) else -((ji h 13 (jd (o2)) : Int32).toInt64)) (x1) h k n Q) ∧ ((ji h 2 (jd (o2))) = (5) → VX2_writeDigits_24 g (o0) (o2) (if 0 < ((ji h 13 (jd (o2)) : Int32).toInt64) then ((ji h 13 (jd (o2)) : Int32).toInt64) else -((ji h 13 (jd (o2)) : Int32).toInt64)) ((x1) + (1)) h k n Q))
set_option maxRecDepth 20000 in
theorem vX2_writeDigits_0 {g : jg} {o0 : Option Nat} {x1 : Int32} {o2 : Option Nat} {h : jh} {k n : Nat} {Q : jq} (hv : VX2_writeDigits_0 g o0 x1 o2 h k n Q) : jG g mX2_writeDigits 0 [(0, .inr (.inr (o0))), (1, .inl (x1)), (2, .inr (.inr (o2)))] [] h k n Q := by
  unfold VX2_writeDigits_0 at hv
  refine jg_aload_n dX2_writeDigits_0 rfl (List.Mem.tail _ (List.Mem.tail _ (List.Mem.head _))) ?_
  obtain ⟨f28, hv⟩ := hv
  obtain ⟨f29, hv⟩ := hv
  refine jg_geti dX2_writeDigits_1 fl_RX2_30 rfl f28 f29 ?_
  refine jg_i2l dX2_writeDigits_4 ?_
  refine jg_mabsl dX2_writeDigits_5 ma_RX2_54 ma_abs1 ma_0 ma_abs2 (by decide) (jcat_le _ (Nat.le_of_ble_eq_true rfl)) (by decide) ?_
  refine jg_lstore_n (lv' := [(3, .inr (.inl (if 0 < ((ji h 13 (jd (o2)) : Int32).toInt64) then ((ji h 13 (jd (o2)) : Int32).toInt64) else -((ji h 13 (jd (o2)) : Int32).toInt64)))), (0, .inr (.inr (o0))), (1, .inl (x1)), (2, .inr (.inr (o2)))]) dX2_writeDigits_8 rfl (by decide) rfl ?_
  refine jg_aload_n dX2_writeDigits_9 rfl (List.Mem.tail _ (List.Mem.tail _ (List.Mem.tail _ (List.Mem.head _)))) ?_
  refine jg_geti dX2_writeDigits_10 fl_RX2_23 rfl f28 f29 ?_
  refine jg_iconst (v := 5) dX2_writeDigits_13 (by decide) ?_
  refine jg_icmp_ne (tgt := 23) dX2_writeDigits_14 (by decide) (fun c30 => ?_) (fun c30 => ?_)
  · replace hv := hv.1 c30
    refine jg_iload_n dX2_writeDigits_23 rfl (List.Mem.tail _ (List.Mem.tail _ (List.Mem.head _))) ?_
    refine jG.sub (lv' := [(0, .inr (.inr (o0))), (2, .inr (.inr (o2))), (3, .inr (.inl (if 0 < ((ji h 13 (jd (o2)) : Int32).toInt64) then ((ji h 13 (jd (o2)) : Int32).toInt64) else -((ji h 13 (jd (o2)) : Int32).toInt64))))]) (by simp) ?_
    exact vX2_writeDigits_24 hv
  · replace hv := hv.2 c30
    refine jg_iload_n dX2_writeDigits_17 rfl (List.Mem.tail _ (List.Mem.tail _ (List.Mem.head _))) ?_
    refine jg_iconst (v := 1) dX2_writeDigits_18 (by decide) ?_
    refine jg_iadd dX2_writeDigits_19 ?_
    refine jg_goto (tgt := 24) dX2_writeDigits_20 (by decide) ?_
    refine jG.sub (lv' := [(0, .inr (.inr (o0))), (2, .inr (.inr (o2))), (3, .inr (.inl (if 0 < ((ji h 13 (jd (o2)) : Int32).toInt64) then ((ji h 13 (jd (o2)) : Int32).toInt64) else -((ji h 13 (jd (o2)) : Int32).toInt64))))]) (by simp) ?_
    exact vX2_writeDigits_24 hv
theorem eX2_writeDigits {g : jg} {o0 : Option Nat} {x1 : Int32} {o2 : Option Nat} {h : jh} {mc ms : Nat} {Q : jq} (hv : VX2_writeDigits_0 g o0 x1 o2 h mc ms Q) : jM g mX2_writeDigits [.inr (.inr (o0)), .inl (x1), .inr (.inr (o2))] h mc ms Q := jM.of (by decide) (Nat.le_of_ble_eq_true rfl) (lv := [(0, .inr (.inr (o0))), (1, .inl (x1)), (2, .inr (.inr (o2)))]) rfl (vX2_writeDigits_0 hv)
theorem dX2_signedDigit_0 : decode cX2_signedDigit 0 = .ok (.aload_n 0, 1) := by decide +kernel
theorem dX2_signedDigit_1 : decode cX2_signedDigit 1 = .ok (.getfield 23, 3) := by decide +kernel
theorem dX2_signedDigit_4 : decode cX2_signedDigit 4 = .ok (.iconst 3, 1) := by decide +kernel
theorem dX2_signedDigit_5 : decode cX2_signedDigit 5 = .ok (.if_icmp .ne 12, 3) := by decide +kernel
theorem dX2_signedDigit_8 : decode cX2_signedDigit 8 = .ok (.aload_n 0, 1) := by decide +kernel
theorem dX2_signedDigit_9 : decode cX2_signedDigit 9 = .ok (.getfield 64, 3) := by decide +kernel
theorem dX2_signedDigit_12 : decode cX2_signedDigit 12 = .ok (.iconst 1, 1) := by decide +kernel
theorem dX2_signedDigit_13 : decode cX2_signedDigit 13 = .ok (.isub, 1) := by decide +kernel
theorem dX2_signedDigit_14 : decode cX2_signedDigit 14 = .ok (.goto 16, 3) := by decide +kernel
theorem dX2_signedDigit_17 : decode cX2_signedDigit 17 = .ok (.aload_n 0, 1) := by decide +kernel
theorem dX2_signedDigit_18 : decode cX2_signedDigit 18 = .ok (.getfield 23, 3) := by decide +kernel
theorem dX2_signedDigit_21 : decode cX2_signedDigit 21 = .ok (.iconst 4, 1) := by decide +kernel
theorem dX2_signedDigit_22 : decode cX2_signedDigit 22 = .ok (.if_icmp .ne 7, 3) := by decide +kernel
theorem dX2_signedDigit_25 : decode cX2_signedDigit 25 = .ok (.iconst 0, 1) := by decide +kernel
theorem dX2_signedDigit_26 : decode cX2_signedDigit 26 = .ok (.goto 4, 3) := by decide +kernel
theorem dX2_signedDigit_29 : decode cX2_signedDigit 29 = .ok (.iconst (-1), 1) := by decide +kernel
theorem dX2_signedDigit_30 : decode cX2_signedDigit 30 = .ok (.ireturn, 1) := by decide +kernel
def VX2_signedDigit_0 (g : jg) (o0 : Option Nat) (h : jh) (k n : Nat) (Q : jq) : Prop := (¬ (o0) = none) ∧ (jt h (jd (o0)) = 1) ∧ ((¬ (ji h 2 (jd (o0))) = (3) → ((¬ (ji h 2 (jd (o0))) = (4) → Q (.inl (some (.inl ((-1))))) h) ∧ ((ji h 2 (jd (o0))) = (4) → Q (.inl (some (.inl (0)))) h))) ∧ ((ji h 2 (jd (o0))) = (3) → Q (.inl (some (.inl ((ji h 3 (jd (o0))) - (1))))) h))
set_option maxRecDepth 20000 in
theorem vX2_signedDigit_0 {g : jg} {o0 : Option Nat} {h : jh} {k n : Nat} {Q : jq} (hv : VX2_signedDigit_0 g o0 h k n Q) : jG g mX2_signedDigit 0 [(0, .inr (.inr (o0)))] [] h k n Q := by
  unfold VX2_signedDigit_0 at hv
  refine jg_aload_n dX2_signedDigit_0 rfl (List.Mem.head _) ?_
  obtain ⟨f1, hv⟩ := hv
  obtain ⟨f2, hv⟩ := hv
  refine jg_geti dX2_signedDigit_1 fl_RX2_23 rfl f1 f2 ?_
  refine jg_iconst (v := 3) dX2_signedDigit_4 (by decide) ?_
  refine jg_icmp_ne (tgt := 17) dX2_signedDigit_5 (by decide) (fun c3 => ?_) (fun c3 => ?_)
  · replace hv := hv.1 c3
    refine jg_aload_n dX2_signedDigit_17 rfl (List.Mem.head _) ?_
    refine jg_geti dX2_signedDigit_18 fl_RX2_23 rfl f1 f2 ?_
    refine jg_iconst (v := 4) dX2_signedDigit_21 (by decide) ?_
    refine jg_icmp_ne (tgt := 29) dX2_signedDigit_22 (by decide) (fun c4 => ?_) (fun c4 => ?_)
    · replace hv := hv.1 c4
      refine jg_iconst (v := (-1)) dX2_signedDigit_29 (by decide) ?_
      exact jg_iret dX2_signedDigit_30 rfl hv
    · replace hv := hv.2 c4
      refine jg_iconst (v := 0) dX2_signedDigit_25 (by decide) ?_
      refine jg_goto (tgt := 30) dX2_signedDigit_26 (by decide) ?_
      exact jg_iret dX2_signedDigit_30 rfl hv
  · replace hv := hv.2 c3
    refine jg_aload_n dX2_signedDigit_8 rfl (List.Mem.head _) ?_
    refine jg_geti dX2_signedDigit_9 fl_RX2_64 rfl f1 f2 ?_
    refine jg_iconst (v := 1) dX2_signedDigit_12 (by decide) ?_
    refine jg_isub dX2_signedDigit_13 ?_
    refine jg_goto (tgt := 30) dX2_signedDigit_14 (by decide) ?_
    exact jg_iret dX2_signedDigit_30 rfl hv
theorem eX2_signedDigit {g : jg} {o0 : Option Nat} {h : jh} {mc ms : Nat} {Q : jq} (hv : VX2_signedDigit_0 g o0 h mc ms Q) : jM g mX2_signedDigit [.inr (.inr (o0))] h mc ms Q := jM.of (by decide) (Nat.le_of_ble_eq_true rfl) (lv := [(0, .inr (.inr (o0)))]) rfl (vX2_signedDigit_0 hv)
theorem dX2_signByte_0 : decode cX2_signByte 0 = .ok (.aload_n 0, 1) := by decide +kernel
theorem dX2_signByte_1 : decode cX2_signByte 1 = .ok (.getfield 11, 3) := by decide +kernel
theorem dX2_signByte_4 : decode cX2_signByte 4 = .ok (.getfield 17, 3) := by decide +kernel
theorem dX2_signByte_7 : decode cX2_signByte 7 = .ok (.l2i, 1) := by decide +kernel
theorem dX2_signByte_8 : decode cX2_signByte 8 = .ok (.istore_n 1, 1) := by decide +kernel
theorem dX2_signByte_9 : decode cX2_signByte 9 = .ok (.aload_n 0, 1) := by decide +kernel
theorem dX2_signByte_10 : decode cX2_signByte 10 = .ok (.getfield 23, 3) := by decide +kernel
theorem dX2_signByte_13 : decode cX2_signByte 13 = .ok (.iconst 5, 1) := by decide +kernel
theorem dX2_signByte_14 : decode cX2_signByte 14 = .ok (.if_icmp .ne 7, 3) := by decide +kernel
theorem dX2_signByte_17 : decode cX2_signByte 17 = .ok (.iload_n 1, 1) := by decide +kernel
theorem dX2_signByte_18 : decode cX2_signByte 18 = .ok (.goto 9, 3) := by decide +kernel
theorem dX2_signByte_21 : decode cX2_signByte 21 = .ok (.iload_n 1, 1) := by decide +kernel
theorem dX2_signByte_22 : decode cX2_signByte 22 = .ok (.aload_n 0, 1) := by decide +kernel
theorem dX2_signByte_23 : decode cX2_signByte 23 = .ok (.getfield 64, 3) := by decide +kernel
theorem dX2_signByte_26 : decode cX2_signByte 26 = .ok (.iadd, 1) := by decide +kernel
theorem dX2_signByte_27 : decode cX2_signByte 27 = .ok (.ireturn, 1) := by decide +kernel
def VX2_signByte_0 (g : jg) (o0 : Option Nat) (h : jh) (k n : Nat) (Q : jq) : Prop := (¬ (o0) = none) ∧ (jt h (jd (o0)) = 1) ∧ (¬ (jr h 7 (jd (o0))) = none) ∧ (jt h (jd (jr h 7 (jd (o0)))) = 4) ∧ ((¬ (ji h 2 (jd (o0))) = (5) → Q (.inl (some (.inl (((jl h 192 (jd (jr h 7 (jd (o0)))) : Int64).toInt32) + (ji h 3 (jd (o0))))))) h) ∧ ((ji h 2 (jd (o0))) = (5) → Q (.inl (some (.inl ((jl h 192 (jd (jr h 7 (jd (o0)))) : Int64).toInt32)))) h))
set_option maxRecDepth 20000 in
theorem vX2_signByte_0 {g : jg} {o0 : Option Nat} {h : jh} {k n : Nat} {Q : jq} (hv : VX2_signByte_0 g o0 h k n Q) : jG g mX2_signByte 0 [(0, .inr (.inr (o0)))] [] h k n Q := by
  unfold VX2_signByte_0 at hv
  refine jg_aload_n dX2_signByte_0 rfl (List.Mem.head _) ?_
  obtain ⟨f1, hv⟩ := hv
  obtain ⟨f2, hv⟩ := hv
  refine jg_getr dX2_signByte_1 fl_RX2_11 rfl f1 f2 ?_
  obtain ⟨f3, hv⟩ := hv
  obtain ⟨f4, hv⟩ := hv
  refine jg_getl dX2_signByte_4 fl_RX2_17 rfl f3 f4 ?_
  refine jg_l2i dX2_signByte_7 ?_
  refine jg_istore_n (lv' := [(1, .inl ((jl h 192 (jd (jr h 7 (jd (o0)))) : Int64).toInt32)), (0, .inr (.inr (o0)))]) dX2_signByte_8 rfl (by decide) rfl ?_
  refine jg_aload_n dX2_signByte_9 rfl (List.Mem.tail _ (List.Mem.head _)) ?_
  refine jg_geti dX2_signByte_10 fl_RX2_23 rfl f1 f2 ?_
  refine jg_iconst (v := 5) dX2_signByte_13 (by decide) ?_
  refine jg_icmp_ne (tgt := 21) dX2_signByte_14 (by decide) (fun c5 => ?_) (fun c5 => ?_)
  · replace hv := hv.1 c5
    refine jg_iload_n dX2_signByte_21 rfl (List.Mem.head _) ?_
    refine jg_aload_n dX2_signByte_22 rfl (List.Mem.tail _ (List.Mem.head _)) ?_
    refine jg_geti dX2_signByte_23 fl_RX2_64 rfl f1 f2 ?_
    refine jg_iadd dX2_signByte_26 ?_
    exact jg_iret dX2_signByte_27 rfl hv
  · replace hv := hv.2 c5
    refine jg_iload_n dX2_signByte_17 rfl (List.Mem.head _) ?_
    refine jg_goto (tgt := 27) dX2_signByte_18 (by decide) ?_
    exact jg_iret dX2_signByte_27 rfl hv
theorem eX2_signByte {g : jg} {o0 : Option Nat} {h : jh} {mc ms : Nat} {Q : jq} (hv : VX2_signByte_0 g o0 h mc ms Q) : jM g mX2_signByte [.inr (.inr (o0))] h mc ms Q := jM.of (by decide) (Nat.le_of_ble_eq_true rfl) (lv := [(0, .inr (.inr (o0)))]) rfl (vX2_signByte_0 hv)
theorem dX2_read_0 : decode cX2_read 0 = .ok (.aload_n 1, 1) := by decide +kernel
theorem dX2_read_1 : decode cX2_read 1 = .ok (.getfield 11, 3) := by decide +kernel
theorem dX2_read_4 : decode cX2_read 4 = .ok (.getfield 17, 3) := by decide +kernel
theorem dX2_read_7 : decode cX2_read 7 = .ok (.l2i, 1) := by decide +kernel
theorem dX2_read_8 : decode cX2_read 8 = .ok (.istore_n 2, 1) := by decide +kernel
theorem dX2_read_9 : decode cX2_read 9 = .ok (.aload_n 1, 1) := by decide +kernel
theorem dX2_read_10 : decode cX2_read 10 = .ok (.getfield 23, 3) := by decide +kernel
theorem dX2_read_13 : decode cX2_read 13 = .ok (.bipush 8, 2) := by decide +kernel
theorem dX2_read_15 : decode cX2_read 15 = .ok (.if_icmp .ne 13, 3) := by decide +kernel
theorem dX2_read_18 : decode cX2_read 18 = .ok (.aload_n 0, 1) := by decide +kernel
theorem dX2_read_19 : decode cX2_read 19 = .ok (.iload_n 2, 1) := by decide +kernel
theorem dX2_read_20 : decode cX2_read 20 = .ok (.aload_n 1, 1) := by decide +kernel
theorem dX2_read_21 : decode cX2_read 21 = .ok (.getfield 27, 3) := by decide +kernel
theorem dX2_read_24 : decode cX2_read 24 = .ok (.invokestatic 70, 3) := by decide +kernel
theorem dX2_read_27 : decode cX2_read 27 = .ok (.lreturn, 1) := by decide +kernel
theorem dX2_read_28 : decode cX2_read 28 = .ok (.aload_n 1, 1) := by decide +kernel
theorem dX2_read_29 : decode cX2_read 29 = .ok (.getfield 23, 3) := by decide +kernel
theorem dX2_read_32 : decode cX2_read 32 = .ok (.bipush 7, 2) := by decide +kernel
theorem dX2_read_34 : decode cX2_read 34 = .ok (.if_icmp .ne 10, 3) := by decide +kernel
theorem dX2_read_37 : decode cX2_read 37 = .ok (.aload_n 0, 1) := by decide +kernel
theorem dX2_read_38 : decode cX2_read 38 = .ok (.iload_n 2, 1) := by decide +kernel
theorem dX2_read_39 : decode cX2_read 39 = .ok (.aload_n 1, 1) := by decide +kernel
theorem dX2_read_40 : decode cX2_read 40 = .ok (.invokestatic 74, 3) := by decide +kernel
theorem dX2_read_43 : decode cX2_read 43 = .ok (.lreturn, 1) := by decide +kernel
theorem dX2_read_44 : decode cX2_read 44 = .ok (.aload_n 0, 1) := by decide +kernel
theorem dX2_read_45 : decode cX2_read 45 = .ok (.iload_n 2, 1) := by decide +kernel
theorem dX2_read_46 : decode cX2_read 46 = .ok (.aload_n 1, 1) := by decide +kernel
theorem dX2_read_47 : decode cX2_read 47 = .ok (.invokestatic 78, 3) := by decide +kernel
theorem dX2_read_50 : decode cX2_read 50 = .ok (.lreturn, 1) := by decide +kernel
def VX2_read_0 (g : jg) (o0 : Option Nat) (o1 : Option Nat) (h : jh) (k n : Nat) (Q : jq) : Prop := (¬ (o1) = none) ∧ (jt h (jd (o1)) = 1) ∧ (¬ (jr h 7 (jd (o1))) = none) ∧ (jt h (jd (jr h 7 (jd (o1)))) = 4) ∧ ((¬ (ji h 2 (jd (o1))) = (8) → ((¬ (ji h 2 (jd (o1))) = (7) → ∃ mc9 ms10 : Nat, mc9 ≤ k ∧ ms10 ≤ n ∧ jM g mX2_readDigits [.inr (.inr (o0)), .inl ((jl h 192 (jd (jr h 7 (jd (o1)))) : Int64).toInt32), .inr (.inr (o1))] h mc9 ms10 (jkl (fun (r7 : Int64) (h8 : jh) => Q (.inl (some (.inr (.inl (r7))))) h8) (fun e h9 => Q (.inr e) h9))) ∧ ((ji h 2 (jd (o1))) = (7) → ∃ mc15 ms16 : Nat, mc15 ≤ k ∧ ms16 ≤ n ∧ jM g mX2_readPacked [.inr (.inr (o0)), .inl ((jl h 192 (jd (jr h 7 (jd (o1)))) : Int64).toInt32), .inr (.inr (o1))] h mc15 ms16 (jkl (fun (r13 : Int64) (h14 : jh) => Q (.inl (some (.inr (.inl (r13))))) h14) (fun e h9 => Q (.inr e) h9))))) ∧ ((ji h 2 (jd (o1))) = (8) → jM g mX2_readBinary [.inr (.inr (o0)), .inl ((jl h 192 (jd (jr h 7 (jd (o1)))) : Int64).toInt32), .inl (ji h 4 (jd (o1)))] h 0 0 (jkl (fun (r19 : Int64) (h20 : jh) => Q (.inl (some (.inr (.inl (r19))))) h20) (fun e h9 => Q (.inr e) h9))))
set_option maxRecDepth 20000 in
theorem vX2_read_0 {g : jg} {o0 : Option Nat} {o1 : Option Nat} {h : jh} {k n : Nat} {Q : jq} (hv : VX2_read_0 g o0 o1 h k n Q) : jG g mX2_read 0 [(0, .inr (.inr (o0))), (1, .inr (.inr (o1)))] [] h k n Q := by
  unfold VX2_read_0 at hv
  refine jg_aload_n dX2_read_0 rfl (List.Mem.tail _ (List.Mem.head _)) ?_
  obtain ⟨f1, hv⟩ := hv
  obtain ⟨f2, hv⟩ := hv
  refine jg_getr dX2_read_1 fl_RX2_11 rfl f1 f2 ?_
  obtain ⟨f3, hv⟩ := hv
  obtain ⟨f4, hv⟩ := hv
  refine jg_getl dX2_read_4 fl_RX2_17 rfl f3 f4 ?_
  refine jg_l2i dX2_read_7 ?_
  refine jg_istore_n (lv' := [(2, .inl ((jl h 192 (jd (jr h 7 (jd (o1)))) : Int64).toInt32)), (0, .inr (.inr (o0))), (1, .inr (.inr (o1)))]) dX2_read_8 rfl (by decide) rfl ?_
  refine jg_aload_n dX2_read_9 rfl (List.Mem.tail _ (List.Mem.tail _ (List.Mem.head _))) ?_
  refine jg_geti dX2_read_10 fl_RX2_23 rfl f1 f2 ?_
  refine jg_bipush (v := 8) dX2_read_13 (by decide) ?_
  refine jg_icmp_ne (tgt := 28) dX2_read_15 (by decide) (fun c5 => ?_) (fun c5 => ?_)
  · replace hv := hv.1 c5
    refine jg_aload_n dX2_read_28 rfl (List.Mem.tail _ (List.Mem.tail _ (List.Mem.head _))) ?_
    refine jg_geti dX2_read_29 fl_RX2_23 rfl f1 f2 ?_
    refine jg_bipush (v := 7) dX2_read_32 (by decide) ?_
    refine jg_icmp_ne (tgt := 44) dX2_read_34 (by decide) (fun c6 => ?_) (fun c6 => ?_)
    · replace hv := hv.1 c6
      refine jg_aload_n dX2_read_44 rfl (List.Mem.tail _ (List.Mem.head _)) ?_
      refine jg_iload_n dX2_read_45 rfl (List.Mem.head _) ?_
      refine jg_aload_n dX2_read_46 rfl (List.Mem.tail _ (List.Mem.tail _ (List.Mem.head _))) ?_
      obtain ⟨mc9, ms10, f11, f12, hv⟩ := hv
      refine jg_callS mX2_readDigits [.inr (.inr (o0)), .inl ((jl h 192 (jd (jr h 7 (jd (o1)))) : Int64).toInt32), .inr (.inr (o1))] [] dX2_read_47 rfl cl_RX2_78 ⟨⟨by decide, by decide⟩, by decide⟩ f11 f12 (jM.mono (jkl_k (fun r7 h8 hv => ?_)) hv)
      exact jg_lret dX2_read_50 rfl hv
    · replace hv := hv.2 c6
      refine jg_aload_n dX2_read_37 rfl (List.Mem.tail _ (List.Mem.head _)) ?_
      refine jg_iload_n dX2_read_38 rfl (List.Mem.head _) ?_
      refine jg_aload_n dX2_read_39 rfl (List.Mem.tail _ (List.Mem.tail _ (List.Mem.head _))) ?_
      obtain ⟨mc15, ms16, f17, f18, hv⟩ := hv
      refine jg_callS mX2_readPacked [.inr (.inr (o0)), .inl ((jl h 192 (jd (jr h 7 (jd (o1)))) : Int64).toInt32), .inr (.inr (o1))] [] dX2_read_40 rfl cl_RX2_74 ⟨⟨by decide, by decide⟩, by decide⟩ f17 f18 (jM.mono (jkl_k (fun r13 h14 hv => ?_)) hv)
      exact jg_lret dX2_read_43 rfl hv
  · replace hv := hv.2 c5
    refine jg_aload_n dX2_read_18 rfl (List.Mem.tail _ (List.Mem.head _)) ?_
    refine jg_iload_n dX2_read_19 rfl (List.Mem.head _) ?_
    refine jg_aload_n dX2_read_20 rfl (List.Mem.tail _ (List.Mem.tail _ (List.Mem.head _))) ?_
    refine jg_geti dX2_read_21 fl_RX2_27 rfl f1 f2 ?_
    refine jg_callS mX2_readBinary [.inr (.inr (o0)), .inl ((jl h 192 (jd (jr h 7 (jd (o1)))) : Int64).toInt32), .inl (ji h 4 (jd (o1)))] [] dX2_read_24 rfl cl_RX2_70 ⟨⟨by decide, by decide⟩, by decide⟩ (Nat.zero_le _) (Nat.zero_le _) (jM.mono (jkl_k (fun r19 h20 hv => ?_)) hv)
    exact jg_lret dX2_read_27 rfl hv
theorem eX2_read {g : jg} {o0 : Option Nat} {o1 : Option Nat} {h : jh} {mc ms : Nat} {Q : jq} (hv : VX2_read_0 g o0 o1 h mc ms Q) : jM g mX2_read [.inr (.inr (o0)), .inr (.inr (o1))] h mc ms Q := jM.of (by decide) (Nat.le_of_ble_eq_true rfl) (lv := [(0, .inr (.inr (o0))), (1, .inr (.inr (o1)))]) rfl (vX2_read_0 hv)
theorem dX2_readBinary_0 : decode cX2_readBinary 0 = .ok (.aload_n 0, 1) := by decide +kernel
theorem dX2_readBinary_1 : decode cX2_readBinary 1 = .ok (.iload_n 1, 1) := by decide +kernel
theorem dX2_readBinary_2 : decode cX2_readBinary 2 = .ok (.invokevirtual 81, 3) := by decide +kernel
theorem dX2_readBinary_5 : decode cX2_readBinary 5 = .ok (.i2b, 1) := by decide +kernel
theorem dX2_readBinary_6 : decode cX2_readBinary 6 = .ok (.i2l, 1) := by decide +kernel
theorem dX2_readBinary_7 : decode cX2_readBinary 7 = .ok (.lstore_n 3, 1) := by decide +kernel
theorem dX2_readBinary_8 : decode cX2_readBinary 8 = .ok (.iconst 1, 1) := by decide +kernel
theorem dX2_readBinary_9 : decode cX2_readBinary 9 = .ok (.istore 5, 2) := by decide +kernel
theorem dX2_readBinary_11 : decode cX2_readBinary 11 = .ok (.iload 5, 2) := by decide +kernel
theorem dX2_readBinary_13 : decode cX2_readBinary 13 = .ok (.iload_n 2, 1) := by decide +kernel
theorem dX2_readBinary_14 : decode cX2_readBinary 14 = .ok (.if_icmp .ge 25, 3) := by decide +kernel
theorem dX2_readBinary_17 : decode cX2_readBinary 17 = .ok (.lload_n 3, 1) := by decide +kernel
theorem dX2_readBinary_18 : decode cX2_readBinary 18 = .ok (.ldc2_w 85, 3) := by decide +kernel
theorem dX2_readBinary_21 : decode cX2_readBinary 21 = .ok (.lmul, 1) := by decide +kernel
theorem dX2_readBinary_22 : decode cX2_readBinary 22 = .ok (.aload_n 0, 1) := by decide +kernel
theorem dX2_readBinary_23 : decode cX2_readBinary 23 = .ok (.iload_n 1, 1) := by decide +kernel
theorem dX2_readBinary_24 : decode cX2_readBinary 24 = .ok (.iload 5, 2) := by decide +kernel
theorem dX2_readBinary_26 : decode cX2_readBinary 26 = .ok (.iadd, 1) := by decide +kernel
theorem dX2_readBinary_27 : decode cX2_readBinary 27 = .ok (.invokevirtual 81, 3) := by decide +kernel
theorem dX2_readBinary_30 : decode cX2_readBinary 30 = .ok (.i2l, 1) := by decide +kernel
theorem dX2_readBinary_31 : decode cX2_readBinary 31 = .ok (.ladd, 1) := by decide +kernel
theorem dX2_readBinary_32 : decode cX2_readBinary 32 = .ok (.lstore_n 3, 1) := by decide +kernel
theorem dX2_readBinary_33 : decode cX2_readBinary 33 = .ok (.iinc 5 1, 3) := by decide +kernel
theorem dX2_readBinary_36 : decode cX2_readBinary 36 = .ok (.goto (-25), 3) := by decide +kernel
theorem dX2_readBinary_39 : decode cX2_readBinary 39 = .ok (.lload_n 3, 1) := by decide +kernel
theorem dX2_readBinary_40 : decode cX2_readBinary 40 = .ok (.lreturn, 1) := by decide +kernel
def VX2_readBinary_11 (g : jg) (o0 : Option Nat) (x1 : Int32) (x2 : Int32) (x3 : Int64) (x5 : Int32) (h : jh) (k n : Nat) (Q : jq) : Prop := (((x2) ≤ (x5) → Q (.inl (some (.inr (.inl (x3))))) h) ∧ (¬ (x2) ≤ (x5) → (¬ (o0) = none) ∧ (jt h (jd (o0)) = 5) ∧ jM g mX6_get [.inr (.inr (some (jd (o0)))), .inl ((x1) + (x5))] h 0 0 (jki (fun (r4 : Int32) (h5 : jh) => jG g mX2_readBinary 11 [(0, .inr (.inr (o0))), (1, .inl (x1)), (2, .inl (x2)), (3, .inr (.inl (((x3) * (256)) + ((r4 : Int32).toInt64)))), (5, .inl ((x5) + 1))] [] h5 k n Q) (fun e h9 => Q (.inr e) h9))))
set_option maxRecDepth 20000 in
theorem vX2_readBinary_11 {g : jg} {o0 : Option Nat} {x1 : Int32} {x2 : Int32} {x3 : Int64} {x5 : Int32} {h : jh} {k n : Nat} {Q : jq} (hv : VX2_readBinary_11 g o0 x1 x2 x3 x5 h k n Q) : jG g mX2_readBinary 11 [(0, .inr (.inr (o0))), (1, .inl (x1)), (2, .inl (x2)), (3, .inr (.inl (x3))), (5, .inl (x5))] [] h k n Q := by
  unfold VX2_readBinary_11 at hv
  refine jg_iload dX2_readBinary_11 (List.Mem.tail _ (List.Mem.tail _ (List.Mem.tail _ (List.Mem.tail _ (List.Mem.head _))))) ?_
  refine jg_iload_n dX2_readBinary_13 rfl (List.Mem.tail _ (List.Mem.tail _ (List.Mem.head _))) ?_
  refine jg_icmp_ge (tgt := 39) dX2_readBinary_14 (by decide) (fun c1 => ?_) (fun c1 => ?_)
  · replace hv := hv.1 c1
    refine jg_lload_n dX2_readBinary_39 rfl (List.Mem.tail _ (List.Mem.tail _ (List.Mem.tail _ (List.Mem.head _)))) ?_
    exact jg_lret dX2_readBinary_40 rfl hv
  · replace hv := hv.2 c1
    refine jg_lload_n dX2_readBinary_17 rfl (List.Mem.tail _ (List.Mem.tail _ (List.Mem.tail _ (List.Mem.head _)))) ?_
    refine jg_ldc2 (v := 256) dX2_readBinary_18 kl_RX2_85 ?_
    refine jg_lmul dX2_readBinary_21 ?_
    refine jg_aload_n dX2_readBinary_22 rfl (List.Mem.head _) ?_
    refine jg_iload_n dX2_readBinary_23 rfl (List.Mem.tail _ (List.Mem.head _)) ?_
    refine jg_iload dX2_readBinary_24 (List.Mem.tail _ (List.Mem.tail _ (List.Mem.tail _ (List.Mem.tail _ (List.Mem.head _))))) ?_
    refine jg_iadd dX2_readBinary_26 ?_
    obtain ⟨f2, hv⟩ := hv
    obtain ⟨f3, hv⟩ := hv
    refine jp_callV mX6_get [.inl ((x1) + (x5))] [.inr (.inl ((x3) * (256)))] dX2_readBinary_27 rfl cl_RX2_81 ⟨⟨by decide, by decide⟩, jcat_le _ (Nat.le_of_ble_eq_true rfl)⟩ f2 f3 (Nat.zero_le _) (Nat.zero_le _) (jM.mono (jki_k (fun r4 h5 hv => ?_)) hv)
    refine jg_i2l dX2_readBinary_30 ?_
    refine jg_ladd dX2_readBinary_31 ?_
    refine jg_lstore_n (lv' := [(3, .inr (.inl (((x3) * (256)) + ((r4 : Int32).toInt64)))), (0, .inr (.inr (o0))), (1, .inl (x1)), (2, .inl (x2)), (5, .inl (x5))]) dX2_readBinary_32 rfl (by decide) rfl ?_
    refine jg_iinc (v := (x5) + 1) (lv' := [(5, .inl ((x5) + 1)), (3, .inr (.inl (((x3) * (256)) + ((r4 : Int32).toInt64)))), (0, .inr (.inr (o0))), (1, .inl (x1)), (2, .inl (x2))]) dX2_readBinary_33 (List.Mem.tail _ (List.Mem.tail _ (List.Mem.tail _ (List.Mem.tail _ (List.Mem.head _))))) rfl (by decide) rfl ?_
    refine jg_goto (tgt := 11) dX2_readBinary_36 (by decide) ?_
    refine jG.sub (lv' := [(0, .inr (.inr (o0))), (1, .inl (x1)), (2, .inl (x2)), (3, .inr (.inl (((x3) * (256)) + ((r4 : Int32).toInt64)))), (5, .inl ((x5) + 1))]) (by simp) ?_
    exact hv
def VX2_readBinary_0 (g : jg) (o0 : Option Nat) (x1 : Int32) (x2 : Int32) (h : jh) (k n : Nat) (Q : jq) : Prop := (¬ (o0) = none) ∧ (jt h (jd (o0)) = 5) ∧ jM g mX6_get [.inr (.inr (some (jd (o0)))), .inl (x1)] h 0 0 (jki (fun (r8 : Int32) (h9 : jh) => jG g mX2_readBinary 11 [(0, .inr (.inr (o0))), (1, .inl (x1)), (2, .inl (x2)), (3, .inr (.inl (((r8 : Int32).toInt8.toInt32 : Int32).toInt64))), (5, .inl (1))] [] h9 k n Q) (fun e h9 => Q (.inr e) h9))
set_option maxRecDepth 20000 in
theorem vX2_readBinary_0 {g : jg} {o0 : Option Nat} {x1 : Int32} {x2 : Int32} {h : jh} {k n : Nat} {Q : jq} (hv : VX2_readBinary_0 g o0 x1 x2 h k n Q) : jG g mX2_readBinary 0 [(0, .inr (.inr (o0))), (1, .inl (x1)), (2, .inl (x2))] [] h k n Q := by
  unfold VX2_readBinary_0 at hv
  refine jg_aload_n dX2_readBinary_0 rfl (List.Mem.head _) ?_
  refine jg_iload_n dX2_readBinary_1 rfl (List.Mem.tail _ (List.Mem.head _)) ?_
  obtain ⟨f6, hv⟩ := hv
  obtain ⟨f7, hv⟩ := hv
  refine jp_callV mX6_get [.inl (x1)] [] dX2_readBinary_2 rfl cl_RX2_81 ⟨⟨by decide, by decide⟩, by decide⟩ f6 f7 (Nat.zero_le _) (Nat.zero_le _) (jM.mono (jki_k (fun r8 h9 hv => ?_)) hv)
  refine jg_i2b dX2_readBinary_5 ?_
  refine jg_i2l dX2_readBinary_6 ?_
  refine jg_lstore_n (lv' := [(3, .inr (.inl (((r8 : Int32).toInt8.toInt32 : Int32).toInt64))), (0, .inr (.inr (o0))), (1, .inl (x1)), (2, .inl (x2))]) dX2_readBinary_7 rfl (by decide) rfl ?_
  refine jg_iconst (v := 1) dX2_readBinary_8 (by decide) ?_
  refine jg_istore (lv' := [(5, .inl (1)), (3, .inr (.inl (((r8 : Int32).toInt8.toInt32 : Int32).toInt64))), (0, .inr (.inr (o0))), (1, .inl (x1)), (2, .inl (x2))]) dX2_readBinary_9 (by decide) rfl ?_
  refine jG.sub (lv' := [(0, .inr (.inr (o0))), (1, .inl (x1)), (2, .inl (x2)), (3, .inr (.inl (((r8 : Int32).toInt8.toInt32 : Int32).toInt64))), (5, .inl (1))]) (by simp) ?_
  exact hv
theorem eX2_readBinary {g : jg} {o0 : Option Nat} {x1 : Int32} {x2 : Int32} {h : jh} {mc ms : Nat} {Q : jq} (hv : VX2_readBinary_0 g o0 x1 x2 h mc ms Q) : jM g mX2_readBinary [.inr (.inr (o0)), .inl (x1), .inl (x2)] h mc ms Q := jM.of (by decide) (Nat.le_of_ble_eq_true rfl) (lv := [(0, .inr (.inr (o0))), (1, .inl (x1)), (2, .inl (x2))]) rfl (vX2_readBinary_0 hv)
theorem dX2_readPacked_0 : decode cX2_readPacked 0 = .ok (.iconst 2, 1) := by decide +kernel
theorem dX2_readPacked_1 : decode cX2_readPacked 1 = .ok (.aload_n 2, 1) := by decide +kernel
theorem dX2_readPacked_2 : decode cX2_readPacked 2 = .ok (.getfield 27, 3) := by decide +kernel
theorem dX2_readPacked_5 : decode cX2_readPacked 5 = .ok (.imul, 1) := by decide +kernel
theorem dX2_readPacked_6 : decode cX2_readPacked 6 = .ok (.istore_n 3, 1) := by decide +kernel
theorem dX2_readPacked_7 : decode cX2_readPacked 7 = .ok (.lconst 0, 1) := by decide +kernel
theorem dX2_readPacked_8 : decode cX2_readPacked 8 = .ok (.lstore 4, 2) := by decide +kernel
theorem dX2_readPacked_10 : decode cX2_readPacked 10 = .ok (.iload_n 3, 1) := by decide +kernel
theorem dX2_readPacked_11 : decode cX2_readPacked 11 = .ok (.iconst 1, 1) := by decide +kernel
theorem dX2_readPacked_12 : decode cX2_readPacked 12 = .ok (.isub, 1) := by decide +kernel
theorem dX2_readPacked_13 : decode cX2_readPacked 13 = .ok (.aload_n 2, 1) := by decide +kernel
theorem dX2_readPacked_14 : decode cX2_readPacked 14 = .ok (.getfield 64, 3) := by decide +kernel
theorem dX2_readPacked_17 : decode cX2_readPacked 17 = .ok (.isub, 1) := by decide +kernel
theorem dX2_readPacked_18 : decode cX2_readPacked 18 = .ok (.istore 6, 2) := by decide +kernel
theorem dX2_readPacked_20 : decode cX2_readPacked 20 = .ok (.iload 6, 2) := by decide +kernel
theorem dX2_readPacked_22 : decode cX2_readPacked 22 = .ok (.iload_n 3, 1) := by decide +kernel
theorem dX2_readPacked_23 : decode cX2_readPacked 23 = .ok (.iconst 1, 1) := by decide +kernel
theorem dX2_readPacked_24 : decode cX2_readPacked 24 = .ok (.isub, 1) := by decide +kernel
theorem dX2_readPacked_25 : decode cX2_readPacked 25 = .ok (.if_icmp .ge 47, 3) := by decide +kernel
theorem dX2_readPacked_28 : decode cX2_readPacked 28 = .ok (.aload_n 0, 1) := by decide +kernel
theorem dX2_readPacked_29 : decode cX2_readPacked 29 = .ok (.iload_n 1, 1) := by decide +kernel
theorem dX2_readPacked_30 : decode cX2_readPacked 30 = .ok (.iload 6, 2) := by decide +kernel
theorem dX2_readPacked_32 : decode cX2_readPacked 32 = .ok (.invokestatic 87, 3) := by decide +kernel
theorem dX2_readPacked_35 : decode cX2_readPacked 35 = .ok (.istore 7, 2) := by decide +kernel
theorem dX2_readPacked_37 : decode cX2_readPacked 37 = .ok (.iload 7, 2) := by decide +kernel
theorem dX2_readPacked_39 : decode cX2_readPacked 39 = .ok (.bipush 9, 2) := by decide +kernel
theorem dX2_readPacked_41 : decode cX2_readPacked 41 = .ok (.if_icmp .le 13, 3) := by decide +kernel
theorem dX2_readPacked_44 : decode cX2_readPacked 44 = .ok (.new 91, 3) := by decide +kernel
theorem dX2_readPacked_47 : decode cX2_readPacked 47 = .ok (.dup, 1) := by decide +kernel
theorem dX2_readPacked_48 : decode cX2_readPacked 48 = .ok (.ldc 93, 2) := by decide +kernel
theorem dX2_readPacked_50 : decode cX2_readPacked 50 = .ok (.invokespecial 95, 3) := by decide +kernel
theorem dX2_readPacked_53 : decode cX2_readPacked 53 = .ok (.athrow, 1) := by decide +kernel
theorem dX2_readPacked_54 : decode cX2_readPacked 54 = .ok (.lload 4, 2) := by decide +kernel
theorem dX2_readPacked_56 : decode cX2_readPacked 56 = .ok (.ldc2_w 9, 3) := by decide +kernel
theorem dX2_readPacked_59 : decode cX2_readPacked 59 = .ok (.lmul, 1) := by decide +kernel
theorem dX2_readPacked_60 : decode cX2_readPacked 60 = .ok (.iload 7, 2) := by decide +kernel
theorem dX2_readPacked_62 : decode cX2_readPacked 62 = .ok (.i2l, 1) := by decide +kernel
theorem dX2_readPacked_63 : decode cX2_readPacked 63 = .ok (.ladd, 1) := by decide +kernel
theorem dX2_readPacked_64 : decode cX2_readPacked 64 = .ok (.lstore 4, 2) := by decide +kernel
theorem dX2_readPacked_66 : decode cX2_readPacked 66 = .ok (.iinc 6 1, 3) := by decide +kernel
theorem dX2_readPacked_69 : decode cX2_readPacked 69 = .ok (.goto (-49), 3) := by decide +kernel
theorem dX2_readPacked_72 : decode cX2_readPacked 72 = .ok (.aload_n 0, 1) := by decide +kernel
theorem dX2_readPacked_73 : decode cX2_readPacked 73 = .ok (.iload_n 1, 1) := by decide +kernel
theorem dX2_readPacked_74 : decode cX2_readPacked 74 = .ok (.iload_n 3, 1) := by decide +kernel
theorem dX2_readPacked_75 : decode cX2_readPacked 75 = .ok (.iconst 1, 1) := by decide +kernel
theorem dX2_readPacked_76 : decode cX2_readPacked 76 = .ok (.isub, 1) := by decide +kernel
theorem dX2_readPacked_77 : decode cX2_readPacked 77 = .ok (.invokestatic 87, 3) := by decide +kernel
theorem dX2_readPacked_80 : decode cX2_readPacked 80 = .ok (.istore 6, 2) := by decide +kernel
theorem dX2_readPacked_82 : decode cX2_readPacked 82 = .ok (.iload 6, 2) := by decide +kernel
theorem dX2_readPacked_84 : decode cX2_readPacked 84 = .ok (.bipush 12, 2) := by decide +kernel
theorem dX2_readPacked_86 : decode cX2_readPacked 86 = .ok (.if_icmp .eq 27, 3) := by decide +kernel
theorem dX2_readPacked_89 : decode cX2_readPacked 89 = .ok (.iload 6, 2) := by decide +kernel
theorem dX2_readPacked_91 : decode cX2_readPacked 91 = .ok (.bipush 13, 2) := by decide +kernel
theorem dX2_readPacked_93 : decode cX2_readPacked 93 = .ok (.if_icmp .eq 20, 3) := by decide +kernel
theorem dX2_readPacked_96 : decode cX2_readPacked 96 = .ok (.iload 6, 2) := by decide +kernel
theorem dX2_readPacked_98 : decode cX2_readPacked 98 = .ok (.bipush 15, 2) := by decide +kernel
theorem dX2_readPacked_100 : decode cX2_readPacked 100 = .ok (.if_icmp .eq 13, 3) := by decide +kernel
theorem dX2_readPacked_103 : decode cX2_readPacked 103 = .ok (.new 91, 3) := by decide +kernel
theorem dX2_readPacked_106 : decode cX2_readPacked 106 = .ok (.dup, 1) := by decide +kernel
theorem dX2_readPacked_107 : decode cX2_readPacked 107 = .ok (.ldc 98, 2) := by decide +kernel
theorem dX2_readPacked_109 : decode cX2_readPacked 109 = .ok (.invokespecial 95, 3) := by decide +kernel
theorem dX2_readPacked_112 : decode cX2_readPacked 112 = .ok (.athrow, 1) := by decide +kernel
theorem dX2_readPacked_113 : decode cX2_readPacked 113 = .ok (.iload 6, 2) := by decide +kernel
theorem dX2_readPacked_115 : decode cX2_readPacked 115 = .ok (.bipush 13, 2) := by decide +kernel
theorem dX2_readPacked_117 : decode cX2_readPacked 117 = .ok (.if_icmp .ne 9, 3) := by decide +kernel
theorem dX2_readPacked_120 : decode cX2_readPacked 120 = .ok (.lload 4, 2) := by decide +kernel
theorem dX2_readPacked_122 : decode cX2_readPacked 122 = .ok (.lneg, 1) := by decide +kernel
theorem dX2_readPacked_123 : decode cX2_readPacked 123 = .ok (.goto 5, 3) := by decide +kernel
theorem dX2_readPacked_126 : decode cX2_readPacked 126 = .ok (.lload 4, 2) := by decide +kernel
theorem dX2_readPacked_128 : decode cX2_readPacked 128 = .ok (.lreturn, 1) := by decide +kernel
def VX2_readPacked_113 (g : jg) (x4 : Int64) (x6 : Int32) (h : jh) (k n : Nat) (Q : jq) : Prop := ((¬ (x6) = (13) → Q (.inl (some (.inr (.inl (x4))))) h) ∧ ((x6) = (13) → Q (.inl (some (.inr (.inl (-(x4)))))) h))
set_option maxRecDepth 20000 in
theorem vX2_readPacked_113 {g : jg} {x4 : Int64} {x6 : Int32} {h : jh} {k n : Nat} {Q : jq} (hv : VX2_readPacked_113 g x4 x6 h k n Q) : jG g mX2_readPacked 113 [(4, .inr (.inl (x4))), (6, .inl (x6))] [] h k n Q := by
  unfold VX2_readPacked_113 at hv
  refine jg_iload dX2_readPacked_113 (List.Mem.tail _ (List.Mem.head _)) ?_
  refine jg_bipush (v := 13) dX2_readPacked_115 (by decide) ?_
  refine jg_icmp_ne (tgt := 126) dX2_readPacked_117 (by decide) (fun c1 => ?_) (fun c1 => ?_)
  · replace hv := hv.1 c1
    refine jg_lload dX2_readPacked_126 (List.Mem.head _) ?_
    exact jg_lret dX2_readPacked_128 rfl hv
  · replace hv := hv.2 c1
    refine jg_lload dX2_readPacked_120 (List.Mem.head _) ?_
    refine jg_lneg dX2_readPacked_122 ?_
    refine jg_goto (tgt := 128) dX2_readPacked_123 (by decide) ?_
    exact jg_lret dX2_readPacked_128 rfl hv
def VX2_readPacked_20 (g : jg) (o0 : Option Nat) (x1 : Int32) (x3 : Int32) (x4 : Int64) (x6 : Int32) (h : jh) (k n : Nat) (Q : jq) : Prop := ((((x3) - (1)) ≤ (x6) → jM g mX2_halfByte [.inr (.inr (o0)), .inl (x1), .inl ((x3) - (1))] h 0 0 (jki (fun (r3 : Int32) (h4 : jh) => (((r3) = (12) → VX2_readPacked_113 g (x4) (r3) h4 k n Q) ∧ (¬ (r3) = (12) → (((r3) = (13) → VX2_readPacked_113 g (x4) (r3) h4 k n Q) ∧ (¬ (r3) = (13) → (((r3) = (15) → VX2_readPacked_113 g (x4) (r3) h4 k n Q) ∧ (¬ (r3) = (15) → (1 ≤ k) ∧ (6 ≤ n) ∧ (∀ z : Nat, jz h4 ≤ z → Q (.inr 2) (jgr h4 z))))))))) (fun e h9 => Q (.inr e) h9))) ∧ (¬ ((x3) - (1)) ≤ (x6) → jM g mX2_halfByte [.inr (.inr (o0)), .inl (x1), .inl (x6)] h 0 0 (jki (fun (r10 : Int32) (h11 : jh) => (((r10) ≤ (9) → jG g mX2_readPacked 20 [(0, .inr (.inr (o0))), (1, .inl (x1)), (3, .inl (x3)), (4, .inr (.inl (((x4) * (10)) + ((r10 : Int32).toInt64)))), (6, .inl ((x6) + 1))] [] h11 k n Q) ∧ (¬ (r10) ≤ (9) → (1 ≤ k) ∧ (6 ≤ n) ∧ (∀ z : Nat, jz h11 ≤ z → Q (.inr 2) (jgr h11 z))))) (fun e h9 => Q (.inr e) h9))))
set_option maxRecDepth 20000 in
theorem vX2_readPacked_20 {g : jg} {o0 : Option Nat} {x1 : Int32} {x3 : Int32} {x4 : Int64} {x6 : Int32} {h : jh} {k n : Nat} {Q : jq} (hv : VX2_readPacked_20 g o0 x1 x3 x4 x6 h k n Q) : jG g mX2_readPacked 20 [(0, .inr (.inr (o0))), (1, .inl (x1)), (3, .inl (x3)), (4, .inr (.inl (x4))), (6, .inl (x6))] [] h k n Q := by
  unfold VX2_readPacked_20 at hv
  refine jg_iload dX2_readPacked_20 (List.Mem.tail _ (List.Mem.tail _ (List.Mem.tail _ (List.Mem.tail _ (List.Mem.head _))))) ?_
  refine jg_iload_n dX2_readPacked_22 rfl (List.Mem.tail _ (List.Mem.tail _ (List.Mem.head _))) ?_
  refine jg_iconst (v := 1) dX2_readPacked_23 (by decide) ?_
  refine jg_isub dX2_readPacked_24 ?_
  refine jg_icmp_ge (tgt := 72) dX2_readPacked_25 (by decide) (fun c2 => ?_) (fun c2 => ?_)
  · replace hv := hv.1 c2
    refine jg_aload_n dX2_readPacked_72 rfl (List.Mem.head _) ?_
    refine jg_iload_n dX2_readPacked_73 rfl (List.Mem.tail _ (List.Mem.head _)) ?_
    refine jg_iload_n dX2_readPacked_74 rfl (List.Mem.tail _ (List.Mem.tail _ (List.Mem.head _))) ?_
    refine jg_iconst (v := 1) dX2_readPacked_75 (by decide) ?_
    refine jg_isub dX2_readPacked_76 ?_
    refine jg_callS mX2_halfByte [.inr (.inr (o0)), .inl (x1), .inl ((x3) - (1))] [] dX2_readPacked_77 rfl cl_RX2_87 ⟨⟨by decide, by decide⟩, by decide⟩ (Nat.zero_le _) (Nat.zero_le _) (jM.mono (jki_k (fun r3 h4 hv => ?_)) hv)
    refine jg_istore (lv' := [(6, .inl (r3)), (0, .inr (.inr (o0))), (1, .inl (x1)), (3, .inl (x3)), (4, .inr (.inl (x4)))]) dX2_readPacked_80 (by decide) rfl ?_
    refine jg_iload dX2_readPacked_82 (List.Mem.head _) ?_
    refine jg_bipush (v := 12) dX2_readPacked_84 (by decide) ?_
    refine jg_icmp_eq (tgt := 113) dX2_readPacked_86 (by decide) (fun c5 => ?_) (fun c5 => ?_)
    · replace hv := hv.1 c5
      refine jG.sub (lv' := [(4, .inr (.inl (x4))), (6, .inl (r3))]) (by simp) ?_
      exact vX2_readPacked_113 hv
    · replace hv := hv.2 c5
      refine jg_iload dX2_readPacked_89 (List.Mem.head _) ?_
      refine jg_bipush (v := 13) dX2_readPacked_91 (by decide) ?_
      refine jg_icmp_eq (tgt := 113) dX2_readPacked_93 (by decide) (fun c6 => ?_) (fun c6 => ?_)
      · replace hv := hv.1 c6
        refine jG.sub (lv' := [(4, .inr (.inl (x4))), (6, .inl (r3))]) (by simp) ?_
        exact vX2_readPacked_113 hv
      · replace hv := hv.2 c6
        refine jg_iload dX2_readPacked_96 (List.Mem.head _) ?_
        refine jg_bipush (v := 15) dX2_readPacked_98 (by decide) ?_
        refine jg_icmp_eq (tgt := 113) dX2_readPacked_100 (by decide) (fun c7 => ?_) (fun c7 => ?_)
        · replace hv := hv.1 c7
          refine jG.sub (lv' := [(4, .inr (.inl (x4))), (6, .inl (r3))]) (by simp) ?_
          exact vX2_readPacked_113 hv
        · replace hv := hv.2 c7
          obtain ⟨f8, hv⟩ := hv
          obtain ⟨f9, hv⟩ := hv
          exact jg_throw 2 ["java/lang/RuntimeException", "java/lang/Exception"] "the last half byte is no sign" dX2_readPacked_103 dX2_readPacked_106 dX2_readPacked_107 dX2_readPacked_109 dX2_readPacked_112 tl_RX2_91_98 (by decide) (by decide) f8 f9 hv
  · replace hv := hv.2 c2
    refine jg_aload_n dX2_readPacked_28 rfl (List.Mem.head _) ?_
    refine jg_iload_n dX2_readPacked_29 rfl (List.Mem.tail _ (List.Mem.head _)) ?_
    refine jg_iload dX2_readPacked_30 (List.Mem.tail _ (List.Mem.tail _ (List.Mem.tail _ (List.Mem.tail _ (List.Mem.head _))))) ?_
    refine jg_callS mX2_halfByte [.inr (.inr (o0)), .inl (x1), .inl (x6)] [] dX2_readPacked_32 rfl cl_RX2_87 ⟨⟨by decide, by decide⟩, by decide⟩ (Nat.zero_le _) (Nat.zero_le _) (jM.mono (jki_k (fun r10 h11 hv => ?_)) hv)
    refine jg_istore (lv' := [(7, .inl (r10)), (0, .inr (.inr (o0))), (1, .inl (x1)), (3, .inl (x3)), (4, .inr (.inl (x4))), (6, .inl (x6))]) dX2_readPacked_35 (by decide) rfl ?_
    refine jg_iload dX2_readPacked_37 (List.Mem.head _) ?_
    refine jg_bipush (v := 9) dX2_readPacked_39 (by decide) ?_
    refine jg_icmp_le (tgt := 54) dX2_readPacked_41 (by decide) (fun c12 => ?_) (fun c12 => ?_)
    · replace hv := hv.1 c12
      refine jg_lload dX2_readPacked_54 (List.Mem.tail _ (List.Mem.tail _ (List.Mem.tail _ (List.Mem.tail _ (List.Mem.head _))))) ?_
      refine jg_ldc2 (v := 10) dX2_readPacked_56 kl_RX2_9 ?_
      refine jg_lmul dX2_readPacked_59 ?_
      refine jg_iload dX2_readPacked_60 (List.Mem.head _) ?_
      refine jg_i2l dX2_readPacked_62 ?_
      refine jg_ladd dX2_readPacked_63 ?_
      refine jg_lstore (lv' := [(4, .inr (.inl (((x4) * (10)) + ((r10 : Int32).toInt64)))), (7, .inl (r10)), (0, .inr (.inr (o0))), (1, .inl (x1)), (3, .inl (x3)), (6, .inl (x6))]) dX2_readPacked_64 (by decide) rfl ?_
      refine jg_iinc (v := (x6) + 1) (lv' := [(6, .inl ((x6) + 1)), (4, .inr (.inl (((x4) * (10)) + ((r10 : Int32).toInt64)))), (7, .inl (r10)), (0, .inr (.inr (o0))), (1, .inl (x1)), (3, .inl (x3))]) dX2_readPacked_66 (List.Mem.tail _ (List.Mem.tail _ (List.Mem.tail _ (List.Mem.tail _ (List.Mem.tail _ (List.Mem.head _)))))) rfl (by decide) rfl ?_
      refine jg_goto (tgt := 20) dX2_readPacked_69 (by decide) ?_
      refine jG.sub (lv' := [(0, .inr (.inr (o0))), (1, .inl (x1)), (3, .inl (x3)), (4, .inr (.inl (((x4) * (10)) + ((r10 : Int32).toInt64)))), (6, .inl ((x6) + 1))]) (by simp) ?_
      exact hv
    · replace hv := hv.2 c12
      obtain ⟨f13, hv⟩ := hv
      obtain ⟨f14, hv⟩ := hv
      exact jg_throw 2 ["java/lang/RuntimeException", "java/lang/Exception"] "a half byte is no digit" dX2_readPacked_44 dX2_readPacked_47 dX2_readPacked_48 dX2_readPacked_50 dX2_readPacked_53 tl_RX2_91_93 (by decide) (by decide) f13 f14 hv
def VX2_readPacked_0 (g : jg) (o0 : Option Nat) (x1 : Int32) (o2 : Option Nat) (h : jh) (k n : Nat) (Q : jq) : Prop := (¬ (o2) = none) ∧ (jt h (jd (o2)) = 1) ∧ jG g mX2_readPacked 20 [(0, .inr (.inr (o0))), (1, .inl (x1)), (3, .inl ((2) * (ji h 4 (jd (o2))))), (4, .inr (.inl (0))), (6, .inl ((((2) * (ji h 4 (jd (o2)))) - (1)) - (ji h 3 (jd (o2)))))] [] h k n Q
set_option maxRecDepth 20000 in
theorem vX2_readPacked_0 {g : jg} {o0 : Option Nat} {x1 : Int32} {o2 : Option Nat} {h : jh} {k n : Nat} {Q : jq} (hv : VX2_readPacked_0 g o0 x1 o2 h k n Q) : jG g mX2_readPacked 0 [(0, .inr (.inr (o0))), (1, .inl (x1)), (2, .inr (.inr (o2)))] [] h k n Q := by
  unfold VX2_readPacked_0 at hv
  refine jg_iconst (v := 2) dX2_readPacked_0 (by decide) ?_
  refine jg_aload_n dX2_readPacked_1 rfl (List.Mem.tail _ (List.Mem.tail _ (List.Mem.head _))) ?_
  obtain ⟨f15, hv⟩ := hv
  obtain ⟨f16, hv⟩ := hv
  refine jg_geti dX2_readPacked_2 fl_RX2_27 rfl f15 f16 ?_
  refine jg_imul dX2_readPacked_5 ?_
  refine jg_istore_n (lv' := [(3, .inl ((2) * (ji h 4 (jd (o2))))), (0, .inr (.inr (o0))), (1, .inl (x1)), (2, .inr (.inr (o2)))]) dX2_readPacked_6 rfl (by decide) rfl ?_
  refine jg_lconst (v := 0) dX2_readPacked_7 (by decide) ?_
  refine jg_lstore (lv' := [(4, .inr (.inl (0))), (3, .inl ((2) * (ji h 4 (jd (o2))))), (0, .inr (.inr (o0))), (1, .inl (x1)), (2, .inr (.inr (o2)))]) dX2_readPacked_8 (by decide) rfl ?_
  refine jg_iload_n dX2_readPacked_10 rfl (List.Mem.tail _ (List.Mem.head _)) ?_
  refine jg_iconst (v := 1) dX2_readPacked_11 (by decide) ?_
  refine jg_isub dX2_readPacked_12 ?_
  refine jg_aload_n dX2_readPacked_13 rfl (List.Mem.tail _ (List.Mem.tail _ (List.Mem.tail _ (List.Mem.tail _ (List.Mem.head _))))) ?_
  refine jg_geti dX2_readPacked_14 fl_RX2_64 rfl f15 f16 ?_
  refine jg_isub dX2_readPacked_17 ?_
  refine jg_istore (lv' := [(6, .inl ((((2) * (ji h 4 (jd (o2)))) - (1)) - (ji h 3 (jd (o2))))), (4, .inr (.inl (0))), (3, .inl ((2) * (ji h 4 (jd (o2))))), (0, .inr (.inr (o0))), (1, .inl (x1)), (2, .inr (.inr (o2)))]) dX2_readPacked_18 (by decide) rfl ?_
  refine jG.sub (lv' := [(0, .inr (.inr (o0))), (1, .inl (x1)), (3, .inl ((2) * (ji h 4 (jd (o2))))), (4, .inr (.inl (0))), (6, .inl ((((2) * (ji h 4 (jd (o2)))) - (1)) - (ji h 3 (jd (o2)))))]) (by simp) ?_
  exact hv
theorem eX2_readPacked {g : jg} {o0 : Option Nat} {x1 : Int32} {o2 : Option Nat} {h : jh} {mc ms : Nat} {Q : jq} (hv : VX2_readPacked_0 g o0 x1 o2 h mc ms Q) : jM g mX2_readPacked [.inr (.inr (o0)), .inl (x1), .inr (.inr (o2))] h mc ms Q := jM.of (by decide) (Nat.le_of_ble_eq_true rfl) (lv := [(0, .inr (.inr (o0))), (1, .inl (x1)), (2, .inr (.inr (o2)))]) rfl (vX2_readPacked_0 hv)
theorem dX2_halfByte_0 : decode cX2_halfByte 0 = .ok (.aload_n 0, 1) := by decide +kernel
theorem dX2_halfByte_1 : decode cX2_halfByte 1 = .ok (.iload_n 1, 1) := by decide +kernel
theorem dX2_halfByte_2 : decode cX2_halfByte 2 = .ok (.iload_n 2, 1) := by decide +kernel
theorem dX2_halfByte_3 : decode cX2_halfByte 3 = .ok (.iconst 1, 1) := by decide +kernel
theorem dX2_halfByte_4 : decode cX2_halfByte 4 = .ok (.ishr, 1) := by decide +kernel
theorem dX2_halfByte_5 : decode cX2_halfByte 5 = .ok (.iadd, 1) := by decide +kernel
theorem dX2_halfByte_6 : decode cX2_halfByte 6 = .ok (.invokevirtual 81, 3) := by decide +kernel
theorem dX2_halfByte_9 : decode cX2_halfByte 9 = .ok (.istore_n 3, 1) := by decide +kernel
theorem dX2_halfByte_10 : decode cX2_halfByte 10 = .ok (.iload_n 2, 1) := by decide +kernel
theorem dX2_halfByte_11 : decode cX2_halfByte 11 = .ok (.iconst 1, 1) := by decide +kernel
theorem dX2_halfByte_12 : decode cX2_halfByte 12 = .ok (.iand, 1) := by decide +kernel
theorem dX2_halfByte_13 : decode cX2_halfByte 13 = .ok (.ifCond .ne 9, 3) := by decide +kernel
theorem dX2_halfByte_16 : decode cX2_halfByte 16 = .ok (.iload_n 3, 1) := by decide +kernel
theorem dX2_halfByte_17 : decode cX2_halfByte 17 = .ok (.iconst 4, 1) := by decide +kernel
theorem dX2_halfByte_18 : decode cX2_halfByte 18 = .ok (.ishr, 1) := by decide +kernel
theorem dX2_halfByte_19 : decode cX2_halfByte 19 = .ok (.goto 7, 3) := by decide +kernel
theorem dX2_halfByte_22 : decode cX2_halfByte 22 = .ok (.iload_n 3, 1) := by decide +kernel
theorem dX2_halfByte_23 : decode cX2_halfByte 23 = .ok (.bipush 15, 2) := by decide +kernel
theorem dX2_halfByte_25 : decode cX2_halfByte 25 = .ok (.iand, 1) := by decide +kernel
theorem dX2_halfByte_26 : decode cX2_halfByte 26 = .ok (.ireturn, 1) := by decide +kernel
def VX2_halfByte_0 (g : jg) (o0 : Option Nat) (x1 : Int32) (x2 : Int32) (h : jh) (k n : Nat) (Q : jq) : Prop := (¬ (o0) = none) ∧ (jt h (jd (o0)) = 5) ∧ jM g mX6_get [.inr (.inr (some (jd (o0)))), .inl ((x1) + ((x2) >>> ((1 : Int32) &&& 31)))] h 0 0 (jki (fun (r3 : Int32) (h4 : jh) => ((¬ ((x2) &&& (1)) = 0 → Q (.inl (some (.inl ((r3) &&& (15))))) h4) ∧ (((x2) &&& (1)) = 0 → Q (.inl (some (.inl ((r3) >>> ((4 : Int32) &&& 31))))) h4))) (fun e h9 => Q (.inr e) h9))
set_option maxRecDepth 20000 in
theorem vX2_halfByte_0 {g : jg} {o0 : Option Nat} {x1 : Int32} {x2 : Int32} {h : jh} {k n : Nat} {Q : jq} (hv : VX2_halfByte_0 g o0 x1 x2 h k n Q) : jG g mX2_halfByte 0 [(0, .inr (.inr (o0))), (1, .inl (x1)), (2, .inl (x2))] [] h k n Q := by
  unfold VX2_halfByte_0 at hv
  refine jg_aload_n dX2_halfByte_0 rfl (List.Mem.head _) ?_
  refine jg_iload_n dX2_halfByte_1 rfl (List.Mem.tail _ (List.Mem.head _)) ?_
  refine jg_iload_n dX2_halfByte_2 rfl (List.Mem.tail _ (List.Mem.tail _ (List.Mem.head _))) ?_
  refine jg_iconst (v := 1) dX2_halfByte_3 (by decide) ?_
  refine jg_ishr dX2_halfByte_4 ?_
  refine jg_iadd dX2_halfByte_5 ?_
  obtain ⟨f1, hv⟩ := hv
  obtain ⟨f2, hv⟩ := hv
  refine jp_callV mX6_get [.inl ((x1) + ((x2) >>> ((1 : Int32) &&& 31)))] [] dX2_halfByte_6 rfl cl_RX2_81 ⟨⟨by decide, by decide⟩, by decide⟩ f1 f2 (Nat.zero_le _) (Nat.zero_le _) (jM.mono (jki_k (fun r3 h4 hv => ?_)) hv)
  refine jg_istore_n (lv' := [(3, .inl (r3)), (0, .inr (.inr (o0))), (1, .inl (x1)), (2, .inl (x2))]) dX2_halfByte_9 rfl (by decide) rfl ?_
  refine jg_iload_n dX2_halfByte_10 rfl (List.Mem.tail _ (List.Mem.tail _ (List.Mem.tail _ (List.Mem.head _)))) ?_
  refine jg_iconst (v := 1) dX2_halfByte_11 (by decide) ?_
  refine jg_iand dX2_halfByte_12 ?_
  refine jg_if_ne (tgt := 22) dX2_halfByte_13 (by decide) (fun c5 => ?_) (fun c5 => ?_)
  · replace hv := hv.1 c5
    refine jg_iload_n dX2_halfByte_22 rfl (List.Mem.head _) ?_
    refine jg_bipush (v := 15) dX2_halfByte_23 (by decide) ?_
    refine jg_iand dX2_halfByte_25 ?_
    exact jg_iret dX2_halfByte_26 rfl hv
  · replace hv := hv.2 c5
    refine jg_iload_n dX2_halfByte_16 rfl (List.Mem.head _) ?_
    refine jg_iconst (v := 4) dX2_halfByte_17 (by decide) ?_
    refine jg_ishr dX2_halfByte_18 ?_
    refine jg_goto (tgt := 26) dX2_halfByte_19 (by decide) ?_
    exact jg_iret dX2_halfByte_26 rfl hv
theorem eX2_halfByte {g : jg} {o0 : Option Nat} {x1 : Int32} {x2 : Int32} {h : jh} {mc ms : Nat} {Q : jq} (hv : VX2_halfByte_0 g o0 x1 x2 h mc ms Q) : jM g mX2_halfByte [.inr (.inr (o0)), .inl (x1), .inl (x2)] h mc ms Q := jM.of (by decide) (Nat.le_of_ble_eq_true rfl) (lv := [(0, .inr (.inr (o0))), (1, .inl (x1)), (2, .inl (x2))]) rfl (vX2_halfByte_0 hv)
theorem dX2_readDigits_0 : decode cX2_readDigits 0 = .ok (.aload_n 2, 1) := by decide +kernel
theorem dX2_readDigits_1 : decode cX2_readDigits 1 = .ok (.getfield 23, 3) := by decide +kernel
theorem dX2_readDigits_4 : decode cX2_readDigits 4 = .ok (.iconst 5, 1) := by decide +kernel
theorem dX2_readDigits_5 : decode cX2_readDigits 5 = .ok (.if_icmp .ne 9, 3) := by decide +kernel
theorem dX2_readDigits_8 : decode cX2_readDigits 8 = .ok (.iload_n 1, 1) := by decide +kernel
theorem dX2_readDigits_9 : decode cX2_readDigits 9 = .ok (.iconst 1, 1) := by decide +kernel
theorem dX2_readDigits_10 : decode cX2_readDigits 10 = .ok (.iadd, 1) := by decide +kernel
theorem dX2_readDigits_11 : decode cX2_readDigits 11 = .ok (.goto 4, 3) := by decide +kernel
theorem dX2_readDigits_14 : decode cX2_readDigits 14 = .ok (.iload_n 1, 1) := by decide +kernel
theorem dX2_readDigits_15 : decode cX2_readDigits 15 = .ok (.istore_n 3, 1) := by decide +kernel
theorem dX2_readDigits_16 : decode cX2_readDigits 16 = .ok (.aload_n 2, 1) := by decide +kernel
theorem dX2_readDigits_17 : decode cX2_readDigits 17 = .ok (.invokestatic 60, 3) := by decide +kernel
theorem dX2_readDigits_20 : decode cX2_readDigits 20 = .ok (.istore 4, 2) := by decide +kernel
theorem dX2_readDigits_22 : decode cX2_readDigits 22 = .ok (.iload 4, 2) := by decide +kernel
theorem dX2_readDigits_24 : decode cX2_readDigits 24 = .ok (.iconst (-1), 1) := by decide +kernel
theorem dX2_readDigits_25 : decode cX2_readDigits 25 = .ok (.if_icmp .ne 21, 3) := by decide +kernel
theorem dX2_readDigits_28 : decode cX2_readDigits 28 = .ok (.aload_n 0, 1) := by decide +kernel
theorem dX2_readDigits_29 : decode cX2_readDigits 29 = .ok (.aload_n 2, 1) := by decide +kernel
theorem dX2_readDigits_30 : decode cX2_readDigits 30 = .ok (.invokestatic 67, 3) := by decide +kernel
theorem dX2_readDigits_33 : decode cX2_readDigits 33 = .ok (.invokevirtual 81, 3) := by decide +kernel
theorem dX2_readDigits_36 : decode cX2_readDigits 36 = .ok (.invokestatic 100, 3) := by decide +kernel
theorem dX2_readDigits_39 : decode cX2_readDigits 39 = .ok (.ifCond .eq 7, 3) := by decide +kernel
theorem dX2_readDigits_42 : decode cX2_readDigits 42 = .ok (.iconst 1, 1) := by decide +kernel
theorem dX2_readDigits_43 : decode cX2_readDigits 43 = .ok (.goto 4, 3) := by decide +kernel
theorem dX2_readDigits_46 : decode cX2_readDigits 46 = .ok (.iconst 0, 1) := by decide +kernel
theorem dX2_readDigits_47 : decode cX2_readDigits 47 = .ok (.istore 5, 2) := by decide +kernel
theorem dX2_readDigits_49 : decode cX2_readDigits 49 = .ok (.lconst 0, 1) := by decide +kernel
theorem dX2_readDigits_50 : decode cX2_readDigits 50 = .ok (.lstore 6, 2) := by decide +kernel
theorem dX2_readDigits_52 : decode cX2_readDigits 52 = .ok (.iconst 0, 1) := by decide +kernel
theorem dX2_readDigits_53 : decode cX2_readDigits 53 = .ok (.istore 8, 2) := by decide +kernel
theorem dX2_readDigits_55 : decode cX2_readDigits 55 = .ok (.iload 8, 2) := by decide +kernel
theorem dX2_readDigits_57 : decode cX2_readDigits 57 = .ok (.aload_n 2, 1) := by decide +kernel
theorem dX2_readDigits_58 : decode cX2_readDigits 58 = .ok (.getfield 64, 3) := by decide +kernel
theorem dX2_readDigits_61 : decode cX2_readDigits 61 = .ok (.if_icmp .ge 79, 3) := by decide +kernel
theorem dX2_readDigits_64 : decode cX2_readDigits 64 = .ok (.aload_n 0, 1) := by decide +kernel
theorem dX2_readDigits_65 : decode cX2_readDigits 65 = .ok (.iload_n 3, 1) := by decide +kernel
theorem dX2_readDigits_66 : decode cX2_readDigits 66 = .ok (.iload 8, 2) := by decide +kernel
theorem dX2_readDigits_68 : decode cX2_readDigits 68 = .ok (.iadd, 1) := by decide +kernel
theorem dX2_readDigits_69 : decode cX2_readDigits 69 = .ok (.invokevirtual 81, 3) := by decide +kernel
theorem dX2_readDigits_72 : decode cX2_readDigits 72 = .ok (.istore 9, 2) := by decide +kernel
theorem dX2_readDigits_74 : decode cX2_readDigits 74 = .ok (.iload 8, 2) := by decide +kernel
theorem dX2_readDigits_76 : decode cX2_readDigits 76 = .ok (.iload 4, 2) := by decide +kernel
theorem dX2_readDigits_78 : decode cX2_readDigits 78 = .ok (.if_icmp .ne 16, 3) := by decide +kernel
theorem dX2_readDigits_81 : decode cX2_readDigits 81 = .ok (.iload 9, 2) := by decide +kernel
theorem dX2_readDigits_83 : decode cX2_readDigits 83 = .ok (.bipush 57, 2) := by decide +kernel
theorem dX2_readDigits_85 : decode cX2_readDigits 85 = .ok (.if_icmp .le 9, 3) := by decide +kernel
theorem dX2_readDigits_88 : decode cX2_readDigits 88 = .ok (.iinc 9 (-64), 3) := by decide +kernel
theorem dX2_readDigits_91 : decode cX2_readDigits 91 = .ok (.iconst 1, 1) := by decide +kernel
theorem dX2_readDigits_92 : decode cX2_readDigits 92 = .ok (.istore 5, 2) := by decide +kernel
theorem dX2_readDigits_94 : decode cX2_readDigits 94 = .ok (.iload 9, 2) := by decide +kernel
theorem dX2_readDigits_96 : decode cX2_readDigits 96 = .ok (.bipush 48, 2) := by decide +kernel
theorem dX2_readDigits_98 : decode cX2_readDigits 98 = .ok (.if_icmp .lt 10, 3) := by decide +kernel
theorem dX2_readDigits_101 : decode cX2_readDigits 101 = .ok (.iload 9, 2) := by decide +kernel
theorem dX2_readDigits_103 : decode cX2_readDigits 103 = .ok (.bipush 57, 2) := by decide +kernel
theorem dX2_readDigits_105 : decode cX2_readDigits 105 = .ok (.if_icmp .le 13, 3) := by decide +kernel
theorem dX2_readDigits_108 : decode cX2_readDigits 108 = .ok (.new 91, 3) := by decide +kernel
theorem dX2_readDigits_111 : decode cX2_readDigits 111 = .ok (.dup, 1) := by decide +kernel
theorem dX2_readDigits_112 : decode cX2_readDigits 112 = .ok (.ldc 104, 2) := by decide +kernel
theorem dX2_readDigits_114 : decode cX2_readDigits 114 = .ok (.invokespecial 95, 3) := by decide +kernel
theorem dX2_readDigits_117 : decode cX2_readDigits 117 = .ok (.athrow, 1) := by decide +kernel
theorem dX2_readDigits_118 : decode cX2_readDigits 118 = .ok (.lload 6, 2) := by decide +kernel
theorem dX2_readDigits_120 : decode cX2_readDigits 120 = .ok (.ldc2_w 9, 3) := by decide +kernel
theorem dX2_readDigits_123 : decode cX2_readDigits 123 = .ok (.lmul, 1) := by decide +kernel
theorem dX2_readDigits_124 : decode cX2_readDigits 124 = .ok (.iload 9, 2) := by decide +kernel
theorem dX2_readDigits_126 : decode cX2_readDigits 126 = .ok (.i2l, 1) := by decide +kernel
theorem dX2_readDigits_127 : decode cX2_readDigits 127 = .ok (.ladd, 1) := by decide +kernel
theorem dX2_readDigits_128 : decode cX2_readDigits 128 = .ok (.ldc2_w 106, 3) := by decide +kernel
theorem dX2_readDigits_131 : decode cX2_readDigits 131 = .ok (.lsub, 1) := by decide +kernel
theorem dX2_readDigits_132 : decode cX2_readDigits 132 = .ok (.lstore 6, 2) := by decide +kernel
theorem dX2_readDigits_134 : decode cX2_readDigits 134 = .ok (.iinc 8 1, 3) := by decide +kernel
theorem dX2_readDigits_137 : decode cX2_readDigits 137 = .ok (.goto (-82), 3) := by decide +kernel
theorem dX2_readDigits_140 : decode cX2_readDigits 140 = .ok (.iload 5, 2) := by decide +kernel
theorem dX2_readDigits_142 : decode cX2_readDigits 142 = .ok (.ifCond .eq 9, 3) := by decide +kernel
theorem dX2_readDigits_145 : decode cX2_readDigits 145 = .ok (.lload 6, 2) := by decide +kernel
theorem dX2_readDigits_147 : decode cX2_readDigits 147 = .ok (.lneg, 1) := by decide +kernel
theorem dX2_readDigits_148 : decode cX2_readDigits 148 = .ok (.goto 5, 3) := by decide +kernel
theorem dX2_readDigits_151 : decode cX2_readDigits 151 = .ok (.lload 6, 2) := by decide +kernel
theorem dX2_readDigits_153 : decode cX2_readDigits 153 = .ok (.lreturn, 1) := by decide +kernel
def VX2_readDigits_94 (g : jg) (o0 : Option Nat) (o2 : Option Nat) (x3 : Int32) (x4 : Int32) (x5 : Int32) (x6 : Int64) (x8 : Int32) (x9 : Int32) (h : jh) (k n : Nat) (Q : jq) : Prop := (((x9) < (48) → (1 ≤ k) ∧ (6 ≤ n) ∧ (∀ z : Nat, jz h ≤ z → Q (.inr 2) (jgr h z))) ∧ (¬ (x9) < (48) → (((x9) ≤ (57) → jG g mX2_readDigits 55 [(0, .inr (.inr (o0))), (2, .inr (.inr (o2))), (3, .inl (x3)), (4, .inl (x4)), (5, .inl (x5)), (6, .inr (.inl ((((x6) * (10)) + ((x9 : Int32).toInt64)) - (48)))), (8, .inl ((x8) + 1))] [] h k n Q) ∧ (¬ (x9) ≤ (57) → (1 ≤ k) ∧ (6 ≤ n) ∧ (∀ z : Nat, jz h ≤ z → Q (.inr 2) (jgr h z))))))
set_option maxRecDepth 20000 in
theorem vX2_readDigits_94 {g : jg} {o0 : Option Nat} {o2 : Option Nat} {x3 : Int32} {x4 : Int32} {x5 : Int32} {x6 : Int64} {x8 : Int32} {x9 : Int32} {h : jh} {k n : Nat} {Q : jq} (hv : VX2_readDigits_94 g o0 o2 x3 x4 x5 x6 x8 x9 h k n Q) : jG g mX2_readDigits 94 [(0, .inr (.inr (o0))), (2, .inr (.inr (o2))), (3, .inl (x3)), (4, .inl (x4)), (5, .inl (x5)), (6, .inr (.inl (x6))), (8, .inl (x8)), (9, .inl (x9))] [] h k n Q := by
  unfold VX2_readDigits_94 at hv
  refine jg_iload dX2_readDigits_94 (List.Mem.tail _ (List.Mem.tail _ (List.Mem.tail _ (List.Mem.tail _ (List.Mem.tail _ (List.Mem.tail _ (List.Mem.tail _ (List.Mem.head _)))))))) ?_
  refine jg_bipush (v := 48) dX2_readDigits_96 (by decide) ?_
  refine jg_icmp_lt (tgt := 108) dX2_readDigits_98 (by decide) (fun c1 => ?_) (fun c1 => ?_)
  · replace hv := hv.1 c1
    obtain ⟨f2, hv⟩ := hv
    obtain ⟨f3, hv⟩ := hv
    exact jg_throw 2 ["java/lang/RuntimeException", "java/lang/Exception"] "a byte is no digit" dX2_readDigits_108 dX2_readDigits_111 dX2_readDigits_112 dX2_readDigits_114 dX2_readDigits_117 tl_RX2_91_104 (by decide) (by decide) f2 f3 hv
  · replace hv := hv.2 c1
    refine jg_iload dX2_readDigits_101 (List.Mem.tail _ (List.Mem.tail _ (List.Mem.tail _ (List.Mem.tail _ (List.Mem.tail _ (List.Mem.tail _ (List.Mem.tail _ (List.Mem.head _)))))))) ?_
    refine jg_bipush (v := 57) dX2_readDigits_103 (by decide) ?_
    refine jg_icmp_le (tgt := 118) dX2_readDigits_105 (by decide) (fun c4 => ?_) (fun c4 => ?_)
    · replace hv := hv.1 c4
      refine jg_lload dX2_readDigits_118 (List.Mem.tail _ (List.Mem.tail _ (List.Mem.tail _ (List.Mem.tail _ (List.Mem.tail _ (List.Mem.head _)))))) ?_
      refine jg_ldc2 (v := 10) dX2_readDigits_120 kl_RX2_9 ?_
      refine jg_lmul dX2_readDigits_123 ?_
      refine jg_iload dX2_readDigits_124 (List.Mem.tail _ (List.Mem.tail _ (List.Mem.tail _ (List.Mem.tail _ (List.Mem.tail _ (List.Mem.tail _ (List.Mem.tail _ (List.Mem.head _)))))))) ?_
      refine jg_i2l dX2_readDigits_126 ?_
      refine jg_ladd dX2_readDigits_127 ?_
      refine jg_ldc2 (v := 48) dX2_readDigits_128 kl_RX2_106 ?_
      refine jg_lsub dX2_readDigits_131 ?_
      refine jg_lstore (lv' := [(6, .inr (.inl ((((x6) * (10)) + ((x9 : Int32).toInt64)) - (48)))), (0, .inr (.inr (o0))), (2, .inr (.inr (o2))), (3, .inl (x3)), (4, .inl (x4)), (5, .inl (x5)), (8, .inl (x8)), (9, .inl (x9))]) dX2_readDigits_132 (by decide) rfl ?_
      refine jg_iinc (v := (x8) + 1) (lv' := [(8, .inl ((x8) + 1)), (6, .inr (.inl ((((x6) * (10)) + ((x9 : Int32).toInt64)) - (48)))), (0, .inr (.inr (o0))), (2, .inr (.inr (o2))), (3, .inl (x3)), (4, .inl (x4)), (5, .inl (x5)), (9, .inl (x9))]) dX2_readDigits_134 (List.Mem.tail _ (List.Mem.tail _ (List.Mem.tail _ (List.Mem.tail _ (List.Mem.tail _ (List.Mem.tail _ (List.Mem.head _))))))) rfl (by decide) rfl ?_
      refine jg_goto (tgt := 55) dX2_readDigits_137 (by decide) ?_
      refine jG.sub (lv' := [(0, .inr (.inr (o0))), (2, .inr (.inr (o2))), (3, .inl (x3)), (4, .inl (x4)), (5, .inl (x5)), (6, .inr (.inl ((((x6) * (10)) + ((x9 : Int32).toInt64)) - (48)))), (8, .inl ((x8) + 1))]) (by simp) ?_
      exact hv
    · replace hv := hv.2 c4
      obtain ⟨f5, hv⟩ := hv
      obtain ⟨f6, hv⟩ := hv
      exact jg_throw 2 ["java/lang/RuntimeException", "java/lang/Exception"] "a byte is no digit" dX2_readDigits_108 dX2_readDigits_111 dX2_readDigits_112 dX2_readDigits_114 dX2_readDigits_117 tl_RX2_91_104 (by decide) (by decide) f5 f6 hv
def VX2_readDigits_55 (g : jg) (o0 : Option Nat) (o2 : Option Nat) (x3 : Int32) (x4 : Int32) (x5 : Int32) (x6 : Int64) (x8 : Int32) (h : jh) (k n : Nat) (Q : jq) : Prop := (¬ (o2) = none) ∧ (jt h (jd (o2)) = 1) ∧ (((ji h 3 (jd (o2))) ≤ (x8) → (((x5) = 0 → Q (.inl (some (.inr (.inl (x6))))) h) ∧ (¬ (x5) = 0 → Q (.inl (some (.inr (.inl (-(x6)))))) h))) ∧ (¬ (ji h 3 (jd (o2))) ≤ (x8) → (¬ (o0) = none) ∧ (jt h (jd (o0)) = 5) ∧ jM g mX6_get [.inr (.inr (some (jd (o0)))), .inl ((x3) + (x8))] h 0 0 (jki (fun (r13 : Int32) (h14 : jh) => ((¬ (x8) = (x4) → VX2_readDigits_94 g (o0) (o2) (x3) (x4) (x5) (x6) (x8) (r13) h14 k n Q) ∧ ((x8) = (x4) → (((r13) ≤ (57) → VX2_readDigits_94 g (o0) (o2) (x3) (x4) (x5) (x6) (x8) (r13) h14 k n Q) ∧ (¬ (r13) ≤ (57) → VX2_readDigits_94 g (o0) (o2) (x3) (x4) (1) (x6) (x8) ((r13) + (-64)) h14 k n Q))))) (fun e h9 => Q (.inr e) h9))))
set_option maxRecDepth 20000 in
theorem vX2_readDigits_55 {g : jg} {o0 : Option Nat} {o2 : Option Nat} {x3 : Int32} {x4 : Int32} {x5 : Int32} {x6 : Int64} {x8 : Int32} {h : jh} {k n : Nat} {Q : jq} (hv : VX2_readDigits_55 g o0 o2 x3 x4 x5 x6 x8 h k n Q) : jG g mX2_readDigits 55 [(0, .inr (.inr (o0))), (2, .inr (.inr (o2))), (3, .inl (x3)), (4, .inl (x4)), (5, .inl (x5)), (6, .inr (.inl (x6))), (8, .inl (x8))] [] h k n Q := by
  unfold VX2_readDigits_55 at hv
  refine jg_iload dX2_readDigits_55 (List.Mem.tail _ (List.Mem.tail _ (List.Mem.tail _ (List.Mem.tail _ (List.Mem.tail _ (List.Mem.tail _ (List.Mem.head _))))))) ?_
  refine jg_aload_n dX2_readDigits_57 rfl (List.Mem.tail _ (List.Mem.head _)) ?_
  obtain ⟨f7, hv⟩ := hv
  obtain ⟨f8, hv⟩ := hv
  refine jg_geti dX2_readDigits_58 fl_RX2_64 rfl f7 f8 ?_
  refine jg_icmp_ge (tgt := 140) dX2_readDigits_61 (by decide) (fun c9 => ?_) (fun c9 => ?_)
  · replace hv := hv.1 c9
    refine jg_iload dX2_readDigits_140 (List.Mem.tail _ (List.Mem.tail _ (List.Mem.tail _ (List.Mem.tail _ (List.Mem.head _))))) ?_
    refine jg_if_eq (tgt := 151) dX2_readDigits_142 (by decide) (fun c10 => ?_) (fun c10 => ?_)
    · replace hv := hv.1 c10
      refine jg_lload dX2_readDigits_151 (List.Mem.tail _ (List.Mem.tail _ (List.Mem.tail _ (List.Mem.tail _ (List.Mem.tail _ (List.Mem.head _)))))) ?_
      exact jg_lret dX2_readDigits_153 rfl hv
    · replace hv := hv.2 c10
      refine jg_lload dX2_readDigits_145 (List.Mem.tail _ (List.Mem.tail _ (List.Mem.tail _ (List.Mem.tail _ (List.Mem.tail _ (List.Mem.head _)))))) ?_
      refine jg_lneg dX2_readDigits_147 ?_
      refine jg_goto (tgt := 153) dX2_readDigits_148 (by decide) ?_
      exact jg_lret dX2_readDigits_153 rfl hv
  · replace hv := hv.2 c9
    refine jg_aload_n dX2_readDigits_64 rfl (List.Mem.head _) ?_
    refine jg_iload_n dX2_readDigits_65 rfl (List.Mem.tail _ (List.Mem.tail _ (List.Mem.head _))) ?_
    refine jg_iload dX2_readDigits_66 (List.Mem.tail _ (List.Mem.tail _ (List.Mem.tail _ (List.Mem.tail _ (List.Mem.tail _ (List.Mem.tail _ (List.Mem.head _))))))) ?_
    refine jg_iadd dX2_readDigits_68 ?_
    obtain ⟨f11, hv⟩ := hv
    obtain ⟨f12, hv⟩ := hv
    refine jp_callV mX6_get [.inl ((x3) + (x8))] [] dX2_readDigits_69 rfl cl_RX2_81 ⟨⟨by decide, by decide⟩, by decide⟩ f11 f12 (Nat.zero_le _) (Nat.zero_le _) (jM.mono (jki_k (fun r13 h14 hv => ?_)) hv)
    refine jg_istore (lv' := [(9, .inl (r13)), (0, .inr (.inr (o0))), (2, .inr (.inr (o2))), (3, .inl (x3)), (4, .inl (x4)), (5, .inl (x5)), (6, .inr (.inl (x6))), (8, .inl (x8))]) dX2_readDigits_72 (by decide) rfl ?_
    refine jg_iload dX2_readDigits_74 (List.Mem.tail _ (List.Mem.tail _ (List.Mem.tail _ (List.Mem.tail _ (List.Mem.tail _ (List.Mem.tail _ (List.Mem.tail _ (List.Mem.head _)))))))) ?_
    refine jg_iload dX2_readDigits_76 (List.Mem.tail _ (List.Mem.tail _ (List.Mem.tail _ (List.Mem.tail _ (List.Mem.head _))))) ?_
    refine jg_icmp_ne (tgt := 94) dX2_readDigits_78 (by decide) (fun c15 => ?_) (fun c15 => ?_)
    · replace hv := hv.1 c15
      refine jG.sub (lv' := [(0, .inr (.inr (o0))), (2, .inr (.inr (o2))), (3, .inl (x3)), (4, .inl (x4)), (5, .inl (x5)), (6, .inr (.inl (x6))), (8, .inl (x8)), (9, .inl (r13))]) (by simp) ?_
      exact vX2_readDigits_94 hv
    · replace hv := hv.2 c15
      refine jg_iload dX2_readDigits_81 (List.Mem.head _) ?_
      refine jg_bipush (v := 57) dX2_readDigits_83 (by decide) ?_
      refine jg_icmp_le (tgt := 94) dX2_readDigits_85 (by decide) (fun c16 => ?_) (fun c16 => ?_)
      · replace hv := hv.1 c16
        refine jG.sub (lv' := [(0, .inr (.inr (o0))), (2, .inr (.inr (o2))), (3, .inl (x3)), (4, .inl (x4)), (5, .inl (x5)), (6, .inr (.inl (x6))), (8, .inl (x8)), (9, .inl (r13))]) (by simp) ?_
        exact vX2_readDigits_94 hv
      · replace hv := hv.2 c16
        refine jg_iinc (v := (r13) + (-64)) (lv' := [(9, .inl ((r13) + (-64))), (0, .inr (.inr (o0))), (2, .inr (.inr (o2))), (3, .inl (x3)), (4, .inl (x4)), (5, .inl (x5)), (6, .inr (.inl (x6))), (8, .inl (x8))]) dX2_readDigits_88 (List.Mem.head _) rfl (by decide) rfl ?_
        refine jg_iconst (v := 1) dX2_readDigits_91 (by decide) ?_
        refine jg_istore (lv' := [(5, .inl (1)), (9, .inl ((r13) + (-64))), (0, .inr (.inr (o0))), (2, .inr (.inr (o2))), (3, .inl (x3)), (4, .inl (x4)), (6, .inr (.inl (x6))), (8, .inl (x8))]) dX2_readDigits_92 (by decide) rfl ?_
        refine jG.sub (lv' := [(0, .inr (.inr (o0))), (2, .inr (.inr (o2))), (3, .inl (x3)), (4, .inl (x4)), (5, .inl (1)), (6, .inr (.inl (x6))), (8, .inl (x8)), (9, .inl ((r13) + (-64)))]) (by simp) ?_
        exact vX2_readDigits_94 hv
def VX2_readDigits_15 (g : jg) (o0 : Option Nat) (o2 : Option Nat) (s0 : Int32) (h : jh) (k n : Nat) (Q : jq) : Prop := jM g mX2_signedDigit [.inr (.inr (o2))] h 0 0 (jki (fun (r17 : Int32) (h18 : jh) => ((¬ (r17) = ((-1)) → jG g mX2_readDigits 55 [(0, .inr (.inr (o0))), (2, .inr (.inr (o2))), (3, .inl (s0)), (4, .inl (r17)), (5, .inl (0)), (6, .inr (.inl (0))), (8, .inl (0))] [] h18 k n Q) ∧ ((r17) = ((-1)) → jM g mX2_signByte [.inr (.inr (o2))] h18 0 0 (jki (fun (r20 : Int32) (h21 : jh) => (¬ (o0) = none) ∧ (jt h21 (jd (o0)) = 5) ∧ jM g mX6_get [.inr (.inr (some (jd (o0)))), .inl (r20)] h21 0 0 (jki (fun (r24 : Int32) (h25 : jh) => ∃ mc28 ms29 : Nat, mc28 ≤ k ∧ ms29 ≤ n ∧ jM g mX2_readsMinus [.inl (r24)] h25 mc28 ms29 (jki (fun (r26 : Int32) (h27 : jh) => (((r26) = 0 → jG g mX2_readDigits 55 [(0, .inr (.inr (o0))), (2, .inr (.inr (o2))), (3, .inl (s0)), (4, .inl (r17)), (5, .inl (0)), (6, .inr (.inl (0))), (8, .inl (0))] [] h27 (k - mc28) (n - ms29) Q) ∧ (¬ (r26) = 0 → jG g mX2_readDigits 55 [(0, .inr (.inr (o0))), (2, .inr (.inr (o2))), (3, .inl (s0)), (4, .inl (r17)), (5, .inl (1)), (6, .inr (.inl (0))), (8, .inl (0))] [] h27 (k - mc28) (n - ms29) Q))) (fun e h9 => Q (.inr e) h9))) (fun e h9 => Q (.inr e) h9))) (fun e h9 => Q (.inr e) h9))))) (fun e h9 => Q (.inr e) h9))
set_option maxRecDepth 20000 in
theorem vX2_readDigits_15 {g : jg} {o0 : Option Nat} {o2 : Option Nat} {s0 : Int32} {h : jh} {k n : Nat} {Q : jq} (hv : VX2_readDigits_15 g o0 o2 s0 h k n Q) : jG g mX2_readDigits 15 [(0, .inr (.inr (o0))), (2, .inr (.inr (o2)))] [.inl (s0)] h k n Q := by
  unfold VX2_readDigits_15 at hv
  refine jg_istore_n (lv' := [(3, .inl (s0)), (0, .inr (.inr (o0))), (2, .inr (.inr (o2)))]) dX2_readDigits_15 rfl (by decide) rfl ?_
  refine jg_aload_n dX2_readDigits_16 rfl (List.Mem.tail _ (List.Mem.tail _ (List.Mem.head _))) ?_
  refine jg_callS mX2_signedDigit [.inr (.inr (o2))] [] dX2_readDigits_17 rfl cl_RX2_60 ⟨⟨by decide, by decide⟩, by decide⟩ (Nat.zero_le _) (Nat.zero_le _) (jM.mono (jki_k (fun r17 h18 hv => ?_)) hv)
  refine jg_istore (lv' := [(4, .inl (r17)), (3, .inl (s0)), (0, .inr (.inr (o0))), (2, .inr (.inr (o2)))]) dX2_readDigits_20 (by decide) rfl ?_
  refine jg_iload dX2_readDigits_22 (List.Mem.head _) ?_
  refine jg_iconst (v := (-1)) dX2_readDigits_24 (by decide) ?_
  refine jg_icmp_ne (tgt := 46) dX2_readDigits_25 (by decide) (fun c19 => ?_) (fun c19 => ?_)
  · replace hv := hv.1 c19
    refine jg_iconst (v := 0) dX2_readDigits_46 (by decide) ?_
    refine jg_istore (lv' := [(5, .inl (0)), (4, .inl (r17)), (3, .inl (s0)), (0, .inr (.inr (o0))), (2, .inr (.inr (o2)))]) dX2_readDigits_47 (by decide) rfl ?_
    refine jg_lconst (v := 0) dX2_readDigits_49 (by decide) ?_
    refine jg_lstore (lv' := [(6, .inr (.inl (0))), (5, .inl (0)), (4, .inl (r17)), (3, .inl (s0)), (0, .inr (.inr (o0))), (2, .inr (.inr (o2)))]) dX2_readDigits_50 (by decide) rfl ?_
    refine jg_iconst (v := 0) dX2_readDigits_52 (by decide) ?_
    refine jg_istore (lv' := [(8, .inl (0)), (6, .inr (.inl (0))), (5, .inl (0)), (4, .inl (r17)), (3, .inl (s0)), (0, .inr (.inr (o0))), (2, .inr (.inr (o2)))]) dX2_readDigits_53 (by decide) rfl ?_
    refine jG.sub (lv' := [(0, .inr (.inr (o0))), (2, .inr (.inr (o2))), (3, .inl (s0)), (4, .inl (r17)), (5, .inl (0)), (6, .inr (.inl (0))), (8, .inl (0))]) (by simp) ?_
    exact hv
  · replace hv := hv.2 c19
    refine jg_aload_n dX2_readDigits_28 rfl (List.Mem.tail _ (List.Mem.tail _ (List.Mem.head _))) ?_
    refine jg_aload_n dX2_readDigits_29 rfl (List.Mem.tail _ (List.Mem.tail _ (List.Mem.tail _ (List.Mem.head _)))) ?_
    refine jg_callS mX2_signByte [.inr (.inr (o2))] [.inr (.inr (o0))] dX2_readDigits_30 rfl cl_RX2_67 ⟨⟨by decide, by decide⟩, jcat_le _ (Nat.le_of_ble_eq_true rfl)⟩ (Nat.zero_le _) (Nat.zero_le _) (jM.mono (jki_k (fun r20 h21 hv => ?_)) hv)
    obtain ⟨f22, hv⟩ := hv
    obtain ⟨f23, hv⟩ := hv
    refine jp_callV mX6_get [.inl (r20)] [] dX2_readDigits_33 rfl cl_RX2_81 ⟨⟨by decide, by decide⟩, by decide⟩ f22 f23 (Nat.zero_le _) (Nat.zero_le _) (jM.mono (jki_k (fun r24 h25 hv => ?_)) hv)
    obtain ⟨mc28, ms29, f30, f31, hv⟩ := hv
    refine jg_callS mX2_readsMinus [.inl (r24)] [] dX2_readDigits_36 rfl cl_RX2_100 ⟨⟨by decide, by decide⟩, by decide⟩ f30 f31 (jM.mono (jki_k (fun r26 h27 hv => ?_)) hv)
    refine jg_if_eq (tgt := 46) dX2_readDigits_39 (by decide) (fun c32 => ?_) (fun c32 => ?_)
    · replace hv := hv.1 c32
      refine jg_iconst (v := 0) dX2_readDigits_46 (by decide) ?_
      refine jg_istore (lv' := [(5, .inl (0)), (4, .inl (r17)), (3, .inl (s0)), (0, .inr (.inr (o0))), (2, .inr (.inr (o2)))]) dX2_readDigits_47 (by decide) rfl ?_
      refine jg_lconst (v := 0) dX2_readDigits_49 (by decide) ?_
      refine jg_lstore (lv' := [(6, .inr (.inl (0))), (5, .inl (0)), (4, .inl (r17)), (3, .inl (s0)), (0, .inr (.inr (o0))), (2, .inr (.inr (o2)))]) dX2_readDigits_50 (by decide) rfl ?_
      refine jg_iconst (v := 0) dX2_readDigits_52 (by decide) ?_
      refine jg_istore (lv' := [(8, .inl (0)), (6, .inr (.inl (0))), (5, .inl (0)), (4, .inl (r17)), (3, .inl (s0)), (0, .inr (.inr (o0))), (2, .inr (.inr (o2)))]) dX2_readDigits_53 (by decide) rfl ?_
      refine jG.sub (lv' := [(0, .inr (.inr (o0))), (2, .inr (.inr (o2))), (3, .inl (s0)), (4, .inl (r17)), (5, .inl (0)), (6, .inr (.inl (0))), (8, .inl (0))]) (by simp) ?_
      exact hv
    · replace hv := hv.2 c32
      refine jg_iconst (v := 1) dX2_readDigits_42 (by decide) ?_
      refine jg_goto (tgt := 47) dX2_readDigits_43 (by decide) ?_
      refine jg_istore (lv' := [(5, .inl (1)), (4, .inl (r17)), (3, .inl (s0)), (0, .inr (.inr (o0))), (2, .inr (.inr (o2)))]) dX2_readDigits_47 (by decide) rfl ?_
      refine jg_lconst (v := 0) dX2_readDigits_49 (by decide) ?_
      refine jg_lstore (lv' := [(6, .inr (.inl (0))), (5, .inl (1)), (4, .inl (r17)), (3, .inl (s0)), (0, .inr (.inr (o0))), (2, .inr (.inr (o2)))]) dX2_readDigits_50 (by decide) rfl ?_
      refine jg_iconst (v := 0) dX2_readDigits_52 (by decide) ?_
      refine jg_istore (lv' := [(8, .inl (0)), (6, .inr (.inl (0))), (5, .inl (1)), (4, .inl (r17)), (3, .inl (s0)), (0, .inr (.inr (o0))), (2, .inr (.inr (o2)))]) dX2_readDigits_53 (by decide) rfl ?_
      refine jG.sub (lv' := [(0, .inr (.inr (o0))), (2, .inr (.inr (o2))), (3, .inl (s0)), (4, .inl (r17)), (5, .inl (1)), (6, .inr (.inl (0))), (8, .inl (0))]) (by simp) ?_
      exact hv
def VX2_readDigits_0 (g : jg) (o0 : Option Nat) (x1 : Int32) (o2 : Option Nat) (h : jh) (k n : Nat) (Q : jq) : Prop := (¬ (o2) = none) ∧ (jt h (jd (o2)) = 1) ∧ ((¬ (ji h 2 (jd (o2))) = (5) → VX2_readDigits_15 g (o0) (o2) (x1) h k n Q) ∧ ((ji h 2 (jd (o2))) = (5) → VX2_readDigits_15 g (o0) (o2) ((x1) + (1)) h k n Q))
set_option maxRecDepth 20000 in
theorem vX2_readDigits_0 {g : jg} {o0 : Option Nat} {x1 : Int32} {o2 : Option Nat} {h : jh} {k n : Nat} {Q : jq} (hv : VX2_readDigits_0 g o0 x1 o2 h k n Q) : jG g mX2_readDigits 0 [(0, .inr (.inr (o0))), (1, .inl (x1)), (2, .inr (.inr (o2)))] [] h k n Q := by
  unfold VX2_readDigits_0 at hv
  refine jg_aload_n dX2_readDigits_0 rfl (List.Mem.tail _ (List.Mem.tail _ (List.Mem.head _))) ?_
  obtain ⟨f33, hv⟩ := hv
  obtain ⟨f34, hv⟩ := hv
  refine jg_geti dX2_readDigits_1 fl_RX2_23 rfl f33 f34 ?_
  refine jg_iconst (v := 5) dX2_readDigits_4 (by decide) ?_
  refine jg_icmp_ne (tgt := 14) dX2_readDigits_5 (by decide) (fun c35 => ?_) (fun c35 => ?_)
  · replace hv := hv.1 c35
    refine jg_iload_n dX2_readDigits_14 rfl (List.Mem.tail _ (List.Mem.head _)) ?_
    refine jG.sub (lv' := [(0, .inr (.inr (o0))), (2, .inr (.inr (o2)))]) (by simp) ?_
    exact vX2_readDigits_15 hv
  · replace hv := hv.2 c35
    refine jg_iload_n dX2_readDigits_8 rfl (List.Mem.tail _ (List.Mem.head _)) ?_
    refine jg_iconst (v := 1) dX2_readDigits_9 (by decide) ?_
    refine jg_iadd dX2_readDigits_10 ?_
    refine jg_goto (tgt := 15) dX2_readDigits_11 (by decide) ?_
    refine jG.sub (lv' := [(0, .inr (.inr (o0))), (2, .inr (.inr (o2)))]) (by simp) ?_
    exact vX2_readDigits_15 hv
theorem eX2_readDigits {g : jg} {o0 : Option Nat} {x1 : Int32} {o2 : Option Nat} {h : jh} {mc ms : Nat} {Q : jq} (hv : VX2_readDigits_0 g o0 x1 o2 h mc ms Q) : jM g mX2_readDigits [.inr (.inr (o0)), .inl (x1), .inr (.inr (o2))] h mc ms Q := jM.of (by decide) (Nat.le_of_ble_eq_true rfl) (lv := [(0, .inr (.inr (o0))), (1, .inl (x1)), (2, .inr (.inr (o2)))]) rfl (vX2_readDigits_0 hv)
theorem dX2_readsMinus_0 : decode cX2_readsMinus 0 = .ok (.iload_n 0, 1) := by decide +kernel
theorem dX2_readsMinus_1 : decode cX2_readsMinus 1 = .ok (.bipush 43, 2) := by decide +kernel
theorem dX2_readsMinus_3 : decode cX2_readsMinus 3 = .ok (.if_icmp .eq 19, 3) := by decide +kernel
theorem dX2_readsMinus_6 : decode cX2_readsMinus 6 = .ok (.iload_n 0, 1) := by decide +kernel
theorem dX2_readsMinus_7 : decode cX2_readsMinus 7 = .ok (.bipush 45, 2) := by decide +kernel
theorem dX2_readsMinus_9 : decode cX2_readsMinus 9 = .ok (.if_icmp .eq 13, 3) := by decide +kernel
theorem dX2_readsMinus_12 : decode cX2_readsMinus 12 = .ok (.new 91, 3) := by decide +kernel
theorem dX2_readsMinus_15 : decode cX2_readsMinus 15 = .ok (.dup, 1) := by decide +kernel
theorem dX2_readsMinus_16 : decode cX2_readsMinus 16 = .ok (.ldc 108, 2) := by decide +kernel
theorem dX2_readsMinus_18 : decode cX2_readsMinus 18 = .ok (.invokespecial 95, 3) := by decide +kernel
theorem dX2_readsMinus_21 : decode cX2_readsMinus 21 = .ok (.athrow, 1) := by decide +kernel
theorem dX2_readsMinus_22 : decode cX2_readsMinus 22 = .ok (.iload_n 0, 1) := by decide +kernel
theorem dX2_readsMinus_23 : decode cX2_readsMinus 23 = .ok (.bipush 45, 2) := by decide +kernel
theorem dX2_readsMinus_25 : decode cX2_readsMinus 25 = .ok (.if_icmp .ne 7, 3) := by decide +kernel
theorem dX2_readsMinus_28 : decode cX2_readsMinus 28 = .ok (.iconst 1, 1) := by decide +kernel
theorem dX2_readsMinus_29 : decode cX2_readsMinus 29 = .ok (.goto 4, 3) := by decide +kernel
theorem dX2_readsMinus_32 : decode cX2_readsMinus 32 = .ok (.iconst 0, 1) := by decide +kernel
theorem dX2_readsMinus_33 : decode cX2_readsMinus 33 = .ok (.ireturn, 1) := by decide +kernel
def VX2_readsMinus_0 (g : jg) (x0 : Int32) (h : jh) (k n : Nat) (Q : jq) : Prop := (((x0) = (43) → ((¬ (x0) = (45) → Q (.inl (some (.inl (0)))) h) ∧ ((x0) = (45) → Q (.inl (some (.inl (1)))) h))) ∧ (¬ (x0) = (43) → (((x0) = (45) → ((¬ (x0) = (45) → Q (.inl (some (.inl (0)))) h) ∧ ((x0) = (45) → Q (.inl (some (.inl (1)))) h))) ∧ (¬ (x0) = (45) → (1 ≤ k) ∧ (6 ≤ n) ∧ (∀ z : Nat, jz h ≤ z → Q (.inr 2) (jgr h z))))))
set_option maxRecDepth 20000 in
theorem vX2_readsMinus_0 {g : jg} {x0 : Int32} {h : jh} {k n : Nat} {Q : jq} (hv : VX2_readsMinus_0 g x0 h k n Q) : jG g mX2_readsMinus 0 [(0, .inl (x0))] [] h k n Q := by
  unfold VX2_readsMinus_0 at hv
  refine jg_iload_n dX2_readsMinus_0 rfl (List.Mem.head _) ?_
  refine jg_bipush (v := 43) dX2_readsMinus_1 (by decide) ?_
  refine jg_icmp_eq (tgt := 22) dX2_readsMinus_3 (by decide) (fun c1 => ?_) (fun c1 => ?_)
  · replace hv := hv.1 c1
    refine jg_iload_n dX2_readsMinus_22 rfl (List.Mem.head _) ?_
    refine jg_bipush (v := 45) dX2_readsMinus_23 (by decide) ?_
    refine jg_icmp_ne (tgt := 32) dX2_readsMinus_25 (by decide) (fun c2 => ?_) (fun c2 => ?_)
    · replace hv := hv.1 c2
      refine jg_iconst (v := 0) dX2_readsMinus_32 (by decide) ?_
      exact jg_bret dX2_readsMinus_33 rfl (by decide) hv
    · replace hv := hv.2 c2
      refine jg_iconst (v := 1) dX2_readsMinus_28 (by decide) ?_
      refine jg_goto (tgt := 33) dX2_readsMinus_29 (by decide) ?_
      exact jg_bret dX2_readsMinus_33 rfl (by decide) hv
  · replace hv := hv.2 c1
    refine jg_iload_n dX2_readsMinus_6 rfl (List.Mem.head _) ?_
    refine jg_bipush (v := 45) dX2_readsMinus_7 (by decide) ?_
    refine jg_icmp_eq (tgt := 22) dX2_readsMinus_9 (by decide) (fun c3 => ?_) (fun c3 => ?_)
    · replace hv := hv.1 c3
      refine jg_iload_n dX2_readsMinus_22 rfl (List.Mem.head _) ?_
      refine jg_bipush (v := 45) dX2_readsMinus_23 (by decide) ?_
      refine jg_icmp_ne (tgt := 32) dX2_readsMinus_25 (by decide) (fun c4 => ?_) (fun c4 => ?_)
      · replace hv := hv.1 c4
        refine jg_iconst (v := 0) dX2_readsMinus_32 (by decide) ?_
        exact jg_bret dX2_readsMinus_33 rfl (by decide) hv
      · replace hv := hv.2 c4
        refine jg_iconst (v := 1) dX2_readsMinus_28 (by decide) ?_
        refine jg_goto (tgt := 33) dX2_readsMinus_29 (by decide) ?_
        exact jg_bret dX2_readsMinus_33 rfl (by decide) hv
    · replace hv := hv.2 c3
      obtain ⟨f5, hv⟩ := hv
      obtain ⟨f6, hv⟩ := hv
      exact jg_throw 2 ["java/lang/RuntimeException", "java/lang/Exception"] "a byte is no sign" dX2_readsMinus_12 dX2_readsMinus_15 dX2_readsMinus_16 dX2_readsMinus_18 dX2_readsMinus_21 tl_RX2_91_108 (by decide) (by decide) f5 f6 hv
theorem eX2_readsMinus {g : jg} {x0 : Int32} {h : jh} {mc ms : Nat} {Q : jq} (hv : VX2_readsMinus_0 g x0 h mc ms Q) : jM g mX2_readsMinus [.inl (x0)] h mc ms Q := jM.of (by decide) (Nat.le_of_ble_eq_true rfl) (lv := [(0, .inl (x0))]) rfl (vX2_readsMinus_0 hv)
theorem dX4_init_0 : decode cX4_init 0 = .ok (.aload_n 0, 1) := by decide +kernel
theorem dX4_init_1 : decode cX4_init 1 = .ok (.invokespecial 3, 3) := by decide +kernel
theorem dX4_init_4 : decode cX4_init 4 = .ok (.aload_n 0, 1) := by decide +kernel
theorem dX4_init_5 : decode cX4_init 5 = .ok (.bipush 8, 2) := by decide +kernel
theorem dX4_init_7 : decode cX4_init 7 = .ok (.newarray .int, 2) := by decide +kernel
theorem dX4_init_9 : decode cX4_init 9 = .ok (.putfield 9, 3) := by decide +kernel
theorem dX4_init_12 : decode cX4_init 12 = .ok (.aload_n 0, 1) := by decide +kernel
theorem dX4_init_13 : decode cX4_init 13 = .ok (.bipush 8, 2) := by decide +kernel
theorem dX4_init_15 : decode cX4_init 15 = .ok (.newarray .int, 2) := by decide +kernel
theorem dX4_init_17 : decode cX4_init 17 = .ok (.putfield 15, 3) := by decide +kernel
theorem dX4_init_20 : decode cX4_init 20 = .ok (.aload_n 0, 1) := by decide +kernel
theorem dX4_init_21 : decode cX4_init 21 = .ok (.iconst 0, 1) := by decide +kernel
theorem dX4_init_22 : decode cX4_init 22 = .ok (.putfield 18, 3) := by decide +kernel
theorem dX4_init_25 : decode cX4_init 25 = .ok (.return_, 1) := by decide +kernel
def VX4_init_0 (g : jg) (a0 : Nat) (h : jh) (k n : Nat) (Q : jq) : Prop := (1 ≤ k) ∧ (8 ≤ n) ∧ ∀ h3 : jh, h3 = jmk h 20 8 → (jt h3 a0 = 3) ∧ ∀ h6 : jh, h6 = jsr h3 128 a0 (some (jz h)) → (1 ≤ (k - 1)) ∧ (8 ≤ (n - 8)) ∧ ∀ h10 : jh, h10 = jmk h6 20 8 → (jt h10 a0 = 3) ∧ ∀ h13 : jh, h13 = jsr h10 129 a0 (some (jz h6)) → ∀ h15 : jh, h15 = jsi h13 130 a0 (0) → Q (.inl none) h15
set_option maxRecDepth 20000 in
theorem vX4_init_0 {g : jg} {a0 : Nat} {h : jh} {k n : Nat} {Q : jq} (hv : VX4_init_0 g a0 h k n Q) : jG g mX4_init 0 [(0, .inr (.inr (some (a0))))] [] h k n Q := by
  unfold VX4_init_0 at hv
  refine jg_aload_n dX4_init_0 rfl (List.Mem.head _) ?_
  refine jg_objInit dX4_init_1 jsn ol_X4_init oi_i oi_c (by decide) (by decide) ?_
  refine jg_aload_n dX4_init_4 rfl (List.Mem.head _) ?_
  refine jg_bipush (v := 8) dX4_init_5 (by decide) ?_
  obtain ⟨f1, hv⟩ := hv
  obtain ⟨f2, hv⟩ := hv
  obtain ⟨h3, e4⟩ : ∃ z : jh, z = jmk h 20 8 := ⟨_, rfl⟩
  replace hv := hv h3 e4
  refine jp_newI dX4_init_7 ja_int (by decide) (by decide) f1 f2 e4 ?_
  obtain ⟨f5, hv⟩ := hv
  obtain ⟨h6, e7⟩ : ∃ z : jh, z = jsr h3 128 a0 (some (jz h)) := ⟨_, rfl⟩
  replace hv := hv h6 e7
  refine jp_putr dX4_init_9 (jfp.fin fl_RX4_9 (fun q hq => by cases hq; exact ⟨rfl, rfl⟩) rfl) rfl jsn f5 e7 ?_
  refine jg_aload_n dX4_init_12 rfl (List.Mem.head _) ?_
  refine jg_bipush (v := 8) dX4_init_13 (by decide) ?_
  obtain ⟨f8, hv⟩ := hv
  obtain ⟨f9, hv⟩ := hv
  obtain ⟨h10, e11⟩ : ∃ z : jh, z = jmk h6 20 8 := ⟨_, rfl⟩
  replace hv := hv h10 e11
  refine jp_newI dX4_init_15 ja_int (by decide) (by decide) f8 f9 e11 ?_
  obtain ⟨f12, hv⟩ := hv
  obtain ⟨h13, e14⟩ : ∃ z : jh, z = jsr h10 129 a0 (some (jz h6)) := ⟨_, rfl⟩
  replace hv := hv h13 e14
  refine jp_putr dX4_init_17 (jfp.fin fl_RX4_15 (fun q hq => by cases hq; exact ⟨rfl, rfl⟩) rfl) rfl jsn f12 e14 ?_
  refine jg_aload_n dX4_init_20 rfl (List.Mem.head _) ?_
  refine jg_iconst (v := 0) dX4_init_21 (by decide) ?_
  obtain ⟨h15, e16⟩ : ∃ z : jh, z = jsi h13 130 a0 (0) := ⟨_, rfl⟩
  replace hv := hv h15 e16
  refine jp_puti dX4_init_22 (jfp.nf fl_RX4_18 (fun q hq => by cases hq; rfl)) rfl jsn ((congrArg (fun z => jt z a0) e14).trans f12) e16 ?_
  exact jg_vret dX4_init_25 rfl hv
theorem eX4_init {g : jg} {a0 : Nat} {h : jh} {mc ms : Nat} {Q : jq} (hv : VX4_init_0 g a0 h mc ms Q) : jM g mX4_init [.inr (.inr (some (a0)))] h mc ms Q := jM.of (by decide) (Nat.le_of_ble_eq_true rfl) (lv := [(0, .inr (.inr (some (a0))))]) rfl (vX4_init_0 hv)
theorem dX4_add_0 : decode cX4_add 0 = .ok (.aload_n 0, 1) := by decide +kernel
theorem dX4_add_1 : decode cX4_add 1 = .ok (.getfield 18, 3) := by decide +kernel
theorem dX4_add_4 : decode cX4_add 4 = .ok (.bipush 8, 2) := by decide +kernel
theorem dX4_add_6 : decode cX4_add 6 = .ok (.if_icmp .lt 5, 3) := by decide +kernel
theorem dX4_add_9 : decode cX4_add 9 = .ok (.iconst 0, 1) := by decide +kernel
theorem dX4_add_10 : decode cX4_add 10 = .ok (.ireturn, 1) := by decide +kernel
theorem dX4_add_11 : decode cX4_add 11 = .ok (.aload_n 0, 1) := by decide +kernel
theorem dX4_add_12 : decode cX4_add 12 = .ok (.getfield 9, 3) := by decide +kernel
theorem dX4_add_15 : decode cX4_add 15 = .ok (.aload_n 0, 1) := by decide +kernel
theorem dX4_add_16 : decode cX4_add 16 = .ok (.getfield 18, 3) := by decide +kernel
theorem dX4_add_19 : decode cX4_add 19 = .ok (.iload_n 1, 1) := by decide +kernel
theorem dX4_add_20 : decode cX4_add 20 = .ok (.iastore, 1) := by decide +kernel
theorem dX4_add_21 : decode cX4_add 21 = .ok (.aload_n 0, 1) := by decide +kernel
theorem dX4_add_22 : decode cX4_add 22 = .ok (.getfield 15, 3) := by decide +kernel
theorem dX4_add_25 : decode cX4_add 25 = .ok (.aload_n 0, 1) := by decide +kernel
theorem dX4_add_26 : decode cX4_add 26 = .ok (.getfield 18, 3) := by decide +kernel
theorem dX4_add_29 : decode cX4_add 29 = .ok (.iload_n 2, 1) := by decide +kernel
theorem dX4_add_30 : decode cX4_add 30 = .ok (.iastore, 1) := by decide +kernel
theorem dX4_add_31 : decode cX4_add 31 = .ok (.aload_n 0, 1) := by decide +kernel
theorem dX4_add_32 : decode cX4_add 32 = .ok (.dup, 1) := by decide +kernel
theorem dX4_add_33 : decode cX4_add 33 = .ok (.getfield 18, 3) := by decide +kernel
theorem dX4_add_36 : decode cX4_add 36 = .ok (.iconst 1, 1) := by decide +kernel
theorem dX4_add_37 : decode cX4_add 37 = .ok (.iadd, 1) := by decide +kernel
theorem dX4_add_38 : decode cX4_add 38 = .ok (.putfield 18, 3) := by decide +kernel
theorem dX4_add_41 : decode cX4_add 41 = .ok (.iconst 1, 1) := by decide +kernel
theorem dX4_add_42 : decode cX4_add 42 = .ok (.ireturn, 1) := by decide +kernel
def VX4_add_0 (g : jg) (a0 : Nat) (x1 : Int32) (x2 : Int32) (h : jh) (k n : Nat) (Q : jq) : Prop := (jt h a0 = 3) ∧ (((ji h 130 a0) < (8) → (¬ (jr h 128 a0) = none) ∧ (jt h (jd (jr h 128 a0)) = 20) ∧ (vp_in (ji h 130 a0) (jn h (jd (jr h 128 a0)))) ∧ ∀ h6 : jh, h6 = jsI h (jd (jr h 128 a0)) (ji h 130 a0 : Int32).toNatClampNeg (x1) → (¬ (jr h6 129 a0) = none) ∧ (jt h6 (jd (jr h6 129 a0)) = 20) ∧ (vp_in (ji h6 130 a0) (jn h6 (jd (jr h6 129 a0)))) ∧ ∀ h11 : jh, h11 = jsI h6 (jd (jr h6 129 a0)) (ji h6 130 a0 : Int32).toNatClampNeg (x2) → ∀ h13 : jh, h13 = jsi h11 130 a0 ((ji h11 130 a0) + (1)) → Q (.inl (some (.inl (1)))) h13) ∧ (¬ (ji h 130 a0) < (8) → Q (.inl (some (.inl (0)))) h))
set_option maxRecDepth 20000 in
theorem vX4_add_0 {g : jg} {a0 : Nat} {x1 : Int32} {x2 : Int32} {h : jh} {k n : Nat} {Q : jq} (hv : VX4_add_0 g a0 x1 x2 h k n Q) : jG g mX4_add 0 [(0, .inr (.inr (some (a0)))), (1, .inl (x1)), (2, .inl (x2))] [] h k n Q := by
  unfold VX4_add_0 at hv
  refine jg_aload_n dX4_add_0 rfl (List.Mem.head _) ?_
  obtain ⟨f1, hv⟩ := hv
  refine jg_geti dX4_add_1 fl_RX4_18 rfl jsn f1 ?_
  refine jg_bipush (v := 8) dX4_add_4 (by decide) ?_
  refine jg_icmp_lt (tgt := 11) dX4_add_6 (by decide) (fun c2 => ?_) (fun c2 => ?_)
  · replace hv := hv.1 c2
    refine jg_aload_n dX4_add_11 rfl (List.Mem.head _) ?_
    refine jg_getr dX4_add_12 fl_RX4_9 rfl jsn f1 ?_
    refine jg_aload_n dX4_add_15 rfl (List.Mem.head _) ?_
    refine jg_geti dX4_add_16 fl_RX4_18 rfl jsn f1 ?_
    refine jg_iload_n dX4_add_19 rfl (List.Mem.tail _ (List.Mem.head _)) ?_
    obtain ⟨f3, hv⟩ := hv
    obtain ⟨f4, hv⟩ := hv
    obtain ⟨f5, hv⟩ := hv
    obtain ⟨h6, e7⟩ : ∃ z : jh, z = jsI h (jd (jr h 128 a0)) (ji h 130 a0 : Int32).toNatClampNeg (x1) := ⟨_, rfl⟩
    replace hv := hv h6 e7
    refine jp_iast dX4_add_20 f3 f4 f5 e7 ?_
    refine jg_aload_n dX4_add_21 rfl (List.Mem.head _) ?_
    refine jg_getr dX4_add_22 fl_RX4_15 rfl jsn ((congrArg (fun z => jt z a0) e7).trans f1) ?_
    refine jg_aload_n dX4_add_25 rfl (List.Mem.head _) ?_
    refine jg_geti dX4_add_26 fl_RX4_18 rfl jsn ((congrArg (fun z => jt z a0) e7).trans f1) ?_
    refine jg_iload_n dX4_add_29 rfl (List.Mem.tail _ (List.Mem.tail _ (List.Mem.head _))) ?_
    obtain ⟨f8, hv⟩ := hv
    obtain ⟨f9, hv⟩ := hv
    obtain ⟨f10, hv⟩ := hv
    obtain ⟨h11, e12⟩ : ∃ z : jh, z = jsI h6 (jd (jr h6 129 a0)) (ji h6 130 a0 : Int32).toNatClampNeg (x2) := ⟨_, rfl⟩
    replace hv := hv h11 e12
    refine jp_iast dX4_add_30 f8 f9 f10 e12 ?_
    refine jg_aload_n dX4_add_31 rfl (List.Mem.head _) ?_
    refine jg_dup dX4_add_32 rfl ?_
    refine jg_geti dX4_add_33 fl_RX4_18 rfl jsn ((congrArg (fun z => jt z a0) e12).trans ((congrArg (fun z => jt z a0) e7).trans f1)) ?_
    refine jg_iconst (v := 1) dX4_add_36 (by decide) ?_
    refine jg_iadd dX4_add_37 ?_
    obtain ⟨h13, e14⟩ : ∃ z : jh, z = jsi h11 130 a0 ((ji h11 130 a0) + (1)) := ⟨_, rfl⟩
    replace hv := hv h13 e14
    refine jp_puti dX4_add_38 (jfp.nf fl_RX4_18 (fun q hq => by cases hq; rfl)) rfl jsn ((congrArg (fun z => jt z a0) e12).trans ((congrArg (fun z => jt z a0) e7).trans f1)) e14 ?_
    refine jg_iconst (v := 1) dX4_add_41 (by decide) ?_
    exact jg_bret dX4_add_42 rfl (by decide) hv
  · replace hv := hv.2 c2
    refine jg_iconst (v := 0) dX4_add_9 (by decide) ?_
    exact jg_bret dX4_add_10 rfl (by decide) hv
theorem eX4_add {g : jg} {a0 : Nat} {x1 : Int32} {x2 : Int32} {h : jh} {mc ms : Nat} {Q : jq} (hv : VX4_add_0 g a0 x1 x2 h mc ms Q) : jM g mX4_add [.inr (.inr (some (a0))), .inl (x1), .inl (x2)] h mc ms Q := jM.of (by decide) (Nat.le_of_ble_eq_true rfl) (lv := [(0, .inr (.inr (some (a0)))), (1, .inl (x1)), (2, .inl (x2))]) rfl (vX4_add_0 hv)
theorem dX4_contain_0 : decode cX4_contain 0 = .ok (.iconst 0, 1) := by decide +kernel
theorem dX4_contain_1 : decode cX4_contain 1 = .ok (.istore_n 3, 1) := by decide +kernel
theorem dX4_contain_2 : decode cX4_contain 2 = .ok (.iload_n 3, 1) := by decide +kernel
theorem dX4_contain_3 : decode cX4_contain 3 = .ok (.aload_n 0, 1) := by decide +kernel
theorem dX4_contain_4 : decode cX4_contain 4 = .ok (.getfield 18, 3) := by decide +kernel
theorem dX4_contain_7 : decode cX4_contain 7 = .ok (.if_icmp .ge 41, 3) := by decide +kernel
theorem dX4_contain_10 : decode cX4_contain 10 = .ok (.iload_n 3, 1) := by decide +kernel
theorem dX4_contain_11 : decode cX4_contain 11 = .ok (.bipush 8, 2) := by decide +kernel
theorem dX4_contain_13 : decode cX4_contain 13 = .ok (.if_icmp .ge 35, 3) := by decide +kernel
theorem dX4_contain_16 : decode cX4_contain 16 = .ok (.lload_n 1, 1) := by decide +kernel
theorem dX4_contain_17 : decode cX4_contain 17 = .ok (.aload_n 0, 1) := by decide +kernel
theorem dX4_contain_18 : decode cX4_contain 18 = .ok (.getfield 9, 3) := by decide +kernel
theorem dX4_contain_21 : decode cX4_contain 21 = .ok (.iload_n 3, 1) := by decide +kernel
theorem dX4_contain_22 : decode cX4_contain 22 = .ok (.iaload, 1) := by decide +kernel
theorem dX4_contain_23 : decode cX4_contain 23 = .ok (.i2l, 1) := by decide +kernel
theorem dX4_contain_24 : decode cX4_contain 24 = .ok (.lcmp, 1) := by decide +kernel
theorem dX4_contain_25 : decode cX4_contain 25 = .ok (.ifCond .lt 17, 3) := by decide +kernel
theorem dX4_contain_28 : decode cX4_contain 28 = .ok (.lload_n 1, 1) := by decide +kernel
theorem dX4_contain_29 : decode cX4_contain 29 = .ok (.aload_n 0, 1) := by decide +kernel
theorem dX4_contain_30 : decode cX4_contain 30 = .ok (.getfield 15, 3) := by decide +kernel
theorem dX4_contain_33 : decode cX4_contain 33 = .ok (.iload_n 3, 1) := by decide +kernel
theorem dX4_contain_34 : decode cX4_contain 34 = .ok (.iaload, 1) := by decide +kernel
theorem dX4_contain_35 : decode cX4_contain 35 = .ok (.i2l, 1) := by decide +kernel
theorem dX4_contain_36 : decode cX4_contain 36 = .ok (.lcmp, 1) := by decide +kernel
theorem dX4_contain_37 : decode cX4_contain 37 = .ok (.ifCond .gt 5, 3) := by decide +kernel
theorem dX4_contain_40 : decode cX4_contain 40 = .ok (.iconst 1, 1) := by decide +kernel
theorem dX4_contain_41 : decode cX4_contain 41 = .ok (.ireturn, 1) := by decide +kernel
theorem dX4_contain_42 : decode cX4_contain 42 = .ok (.iinc 3 1, 3) := by decide +kernel
theorem dX4_contain_45 : decode cX4_contain 45 = .ok (.goto (-43), 3) := by decide +kernel
theorem dX4_contain_48 : decode cX4_contain 48 = .ok (.iconst 0, 1) := by decide +kernel
theorem dX4_contain_49 : decode cX4_contain 49 = .ok (.ireturn, 1) := by decide +kernel
def VX4_contain_2 (g : jg) (a0 : Nat) (x1 : Int64) (x3 : Int32) (h : jh) (k n : Nat) (Q : jq) : Prop := (jt h a0 = 3) ∧ (((ji h 130 a0) ≤ (x3) → Q (.inl (some (.inl (0)))) h) ∧ (¬ (ji h 130 a0) ≤ (x3) → (((8 : Int32) ≤ (x3) → Q (.inl (some (.inl (0)))) h) ∧ (¬ (8 : Int32) ≤ (x3) → (¬ (jr h 128 a0) = none) ∧ (jt h (jd (jr h 128 a0)) = 20) ∧ (vp_in (x3) (jn h (jd (jr h 128 a0)))) ∧ (((x1) < ((jI h (jd (jr h 128 a0)) (x3 : Int32).toNatClampNeg : Int32).toInt64) → jG g mX4_contain 2 [(0, .inr (.inr (some (a0)))), (1, .inr (.inl (x1))), (3, .inl ((x3) + 1))] [] h k n Q) ∧ (¬ (x1) < ((jI h (jd (jr h 128 a0)) (x3 : Int32).toNatClampNeg : Int32).toInt64) → (¬ (jr h 129 a0) = none) ∧ (jt h (jd (jr h 129 a0)) = 20) ∧ (vp_in (x3) (jn h (jd (jr h 129 a0)))) ∧ ((((jI h (jd (jr h 129 a0)) (x3 : Int32).toNatClampNeg : Int32).toInt64) < (x1) → jG g mX4_contain 2 [(0, .inr (.inr (some (a0)))), (1, .inr (.inl (x1))), (3, .inl ((x3) + 1))] [] h k n Q) ∧ (¬ ((jI h (jd (jr h 129 a0)) (x3 : Int32).toNatClampNeg : Int32).toInt64) < (x1) → Q (.inl (some (.inl (1)))) h))))))))
set_option maxRecDepth 20000 in
theorem vX4_contain_2 {g : jg} {a0 : Nat} {x1 : Int64} {x3 : Int32} {h : jh} {k n : Nat} {Q : jq} (hv : VX4_contain_2 g a0 x1 x3 h k n Q) : jG g mX4_contain 2 [(0, .inr (.inr (some (a0)))), (1, .inr (.inl (x1))), (3, .inl (x3))] [] h k n Q := by
  unfold VX4_contain_2 at hv
  refine jg_iload_n dX4_contain_2 rfl (List.Mem.tail _ (List.Mem.tail _ (List.Mem.head _))) ?_
  refine jg_aload_n dX4_contain_3 rfl (List.Mem.head _) ?_
  obtain ⟨f1, hv⟩ := hv
  refine jg_geti dX4_contain_4 fl_RX4_18 rfl jsn f1 ?_
  refine jg_icmp_ge (tgt := 48) dX4_contain_7 (by decide) (fun c2 => ?_) (fun c2 => ?_)
  · replace hv := hv.1 c2
    refine jg_iconst (v := 0) dX4_contain_48 (by decide) ?_
    exact jg_bret dX4_contain_49 rfl (by decide) hv
  · replace hv := hv.2 c2
    refine jg_iload_n dX4_contain_10 rfl (List.Mem.tail _ (List.Mem.tail _ (List.Mem.head _))) ?_
    refine jg_bipush (v := 8) dX4_contain_11 (by decide) ?_
    refine jg_icmp_ge (tgt := 48) dX4_contain_13 (by decide) (fun c3 => ?_) (fun c3 => ?_)
    · replace hv := hv.1 c3
      refine jg_iconst (v := 0) dX4_contain_48 (by decide) ?_
      exact jg_bret dX4_contain_49 rfl (by decide) hv
    · replace hv := hv.2 c3
      refine jg_lload_n dX4_contain_16 rfl (List.Mem.tail _ (List.Mem.head _)) ?_
      refine jg_aload_n dX4_contain_17 rfl (List.Mem.head _) ?_
      refine jg_getr dX4_contain_18 fl_RX4_9 rfl jsn f1 ?_
      refine jg_iload_n dX4_contain_21 rfl (List.Mem.tail _ (List.Mem.tail _ (List.Mem.head _))) ?_
      obtain ⟨f4, hv⟩ := hv
      obtain ⟨f5, hv⟩ := hv
      obtain ⟨f6, hv⟩ := hv
      refine jg_iald dX4_contain_22 f4 f5 f6 ?_
      refine jg_i2l dX4_contain_23 ?_
      refine jg_lcmp_lt (tgt := 42) dX4_contain_24 dX4_contain_25 (by decide) (fun c7 => ?_) (fun c7 => ?_)
      · replace hv := hv.1 c7
        refine jg_iinc (v := (x3) + 1) (lv' := [(3, .inl ((x3) + 1)), (0, .inr (.inr (some (a0)))), (1, .inr (.inl (x1)))]) dX4_contain_42 (List.Mem.tail _ (List.Mem.tail _ (List.Mem.head _))) rfl (by decide) rfl ?_
        refine jg_goto (tgt := 2) dX4_contain_45 (by decide) ?_
        refine jG.sub (lv' := [(0, .inr (.inr (some (a0)))), (1, .inr (.inl (x1))), (3, .inl ((x3) + 1))]) (by simp) ?_
        exact hv
      · replace hv := hv.2 c7
        refine jg_lload_n dX4_contain_28 rfl (List.Mem.tail _ (List.Mem.head _)) ?_
        refine jg_aload_n dX4_contain_29 rfl (List.Mem.head _) ?_
        refine jg_getr dX4_contain_30 fl_RX4_15 rfl jsn f1 ?_
        refine jg_iload_n dX4_contain_33 rfl (List.Mem.tail _ (List.Mem.tail _ (List.Mem.head _))) ?_
        obtain ⟨f8, hv⟩ := hv
        obtain ⟨f9, hv⟩ := hv
        obtain ⟨f10, hv⟩ := hv
        refine jg_iald dX4_contain_34 f8 f9 f10 ?_
        refine jg_i2l dX4_contain_35 ?_
        refine jg_lcmp_gt (tgt := 42) dX4_contain_36 dX4_contain_37 (by decide) (fun c11 => ?_) (fun c11 => ?_)
        · replace hv := hv.1 c11
          refine jg_iinc (v := (x3) + 1) (lv' := [(3, .inl ((x3) + 1)), (0, .inr (.inr (some (a0)))), (1, .inr (.inl (x1)))]) dX4_contain_42 (List.Mem.tail _ (List.Mem.tail _ (List.Mem.head _))) rfl (by decide) rfl ?_
          refine jg_goto (tgt := 2) dX4_contain_45 (by decide) ?_
          refine jG.sub (lv' := [(0, .inr (.inr (some (a0)))), (1, .inr (.inl (x1))), (3, .inl ((x3) + 1))]) (by simp) ?_
          exact hv
        · replace hv := hv.2 c11
          refine jg_iconst (v := 1) dX4_contain_40 (by decide) ?_
          exact jg_bret dX4_contain_41 rfl (by decide) hv
def VX4_contain_0 (g : jg) (a0 : Nat) (x1 : Int64) (h : jh) (k n : Nat) (Q : jq) : Prop := jG g mX4_contain 2 [(0, .inr (.inr (some (a0)))), (1, .inr (.inl (x1))), (3, .inl (0))] [] h k n Q
set_option maxRecDepth 20000 in
theorem vX4_contain_0 {g : jg} {a0 : Nat} {x1 : Int64} {h : jh} {k n : Nat} {Q : jq} (hv : VX4_contain_0 g a0 x1 h k n Q) : jG g mX4_contain 0 [(0, .inr (.inr (some (a0)))), (1, .inr (.inl (x1)))] [] h k n Q := by
  unfold VX4_contain_0 at hv
  refine jg_iconst (v := 0) dX4_contain_0 (by decide) ?_
  refine jg_istore_n (lv' := [(3, .inl (0)), (0, .inr (.inr (some (a0)))), (1, .inr (.inl (x1)))]) dX4_contain_1 rfl (by decide) rfl ?_
  refine jG.sub (lv' := [(0, .inr (.inr (some (a0)))), (1, .inr (.inl (x1))), (3, .inl (0))]) (by simp) ?_
  exact hv
theorem eX4_contain {g : jg} {a0 : Nat} {x1 : Int64} {h : jh} {mc ms : Nat} {Q : jq} (hv : VX4_contain_0 g a0 x1 h mc ms Q) : jM g mX4_contain [.inr (.inr (some (a0))), .inr (.inl (x1))] h mc ms Q := jM.of (by decide) (Nat.le_of_ble_eq_true rfl) (lv := [(0, .inr (.inr (some (a0)))), (1, .inr (.inl (x1)))]) rfl (vX4_contain_0 hv)
theorem dX5_init_0 : decode cX5_init 0 = .ok (.aload_n 0, 1) := by decide +kernel
theorem dX5_init_1 : decode cX5_init 1 = .ok (.invokespecial 1, 3) := by decide +kernel
theorem dX5_init_4 : decode cX5_init 4 = .ok (.return_, 1) := by decide +kernel
def VX5_init_0 (g : jg) (a0 : Nat) (h : jh) (k n : Nat) (Q : jq) : Prop := Q (.inl none) h
set_option maxRecDepth 20000 in
theorem vX5_init_0 {g : jg} {a0 : Nat} {h : jh} {k n : Nat} {Q : jq} (hv : VX5_init_0 g a0 h k n Q) : jG g mX5_init 0 [(0, .inr (.inr (some (a0))))] [] h k n Q := by
  unfold VX5_init_0 at hv
  refine jg_aload_n dX5_init_0 rfl (List.Mem.head _) ?_
  refine jg_objInit dX5_init_1 jsn ol_X5_init oi_i oi_c (by decide) (by decide) ?_
  exact jg_vret dX5_init_4 rfl hv
theorem eX5_init {g : jg} {a0 : Nat} {h : jh} {mc ms : Nat} {Q : jq} (hv : VX5_init_0 g a0 h mc ms Q) : jM g mX5_init [.inr (.inr (some (a0)))] h mc ms Q := jM.of (by decide) (Nat.le_of_ble_eq_true rfl) (lv := [(0, .inr (.inr (some (a0))))]) rfl (vX5_init_0 hv)
theorem dX6_init_0 : decode cX6_init 0 = .ok (.aload_n 0, 1) := by decide +kernel
theorem dX6_init_1 : decode cX6_init 1 = .ok (.invokespecial 3, 3) := by decide +kernel
theorem dX6_init_4 : decode cX6_init 4 = .ok (.aload_n 0, 1) := by decide +kernel
theorem dX6_init_5 : decode cX6_init 5 = .ok (.iconst 0, 1) := by decide +kernel
theorem dX6_init_6 : decode cX6_init 6 = .ok (.newarray .byte, 2) := by decide +kernel
theorem dX6_init_8 : decode cX6_init 8 = .ok (.putfield 9, 3) := by decide +kernel
theorem dX6_init_11 : decode cX6_init 11 = .ok (.aload_n 0, 1) := by decide +kernel
theorem dX6_init_12 : decode cX6_init 12 = .ok (.iconst 0, 1) := by decide +kernel
theorem dX6_init_13 : decode cX6_init 13 = .ok (.putfield 15, 3) := by decide +kernel
theorem dX6_init_16 : decode cX6_init 16 = .ok (.return_, 1) := by decide +kernel
def VX6_init_0 (g : jg) (a0 : Nat) (h : jh) (k n : Nat) (Q : jq) : Prop := (1 ≤ k) ∧ (0 ≤ n) ∧ ∀ h3 : jh, h3 = jmk h 21 0 → (jt h3 a0 = 5) ∧ ∀ h6 : jh, h6 = jsr h3 256 a0 (some (jz h)) → ∀ h8 : jh, h8 = jsi h6 257 a0 (0) → Q (.inl none) h8
set_option maxRecDepth 20000 in
theorem vX6_init_0 {g : jg} {a0 : Nat} {h : jh} {k n : Nat} {Q : jq} (hv : VX6_init_0 g a0 h k n Q) : jG g mX6_init 0 [(0, .inr (.inr (some (a0))))] [] h k n Q := by
  unfold VX6_init_0 at hv
  refine jg_aload_n dX6_init_0 rfl (List.Mem.head _) ?_
  refine jg_objInit dX6_init_1 jsn ol_X6_init oi_i oi_c (by decide) (by decide) ?_
  refine jg_aload_n dX6_init_4 rfl (List.Mem.head _) ?_
  refine jg_iconst (v := 0) dX6_init_5 (by decide) ?_
  obtain ⟨f1, hv⟩ := hv
  obtain ⟨f2, hv⟩ := hv
  obtain ⟨h3, e4⟩ : ∃ z : jh, z = jmk h 21 0 := ⟨_, rfl⟩
  replace hv := hv h3 e4
  refine jp_newB dX6_init_6 ja_byte (by decide) (by decide) f1 f2 e4 ?_
  obtain ⟨f5, hv⟩ := hv
  obtain ⟨h6, e7⟩ : ∃ z : jh, z = jsr h3 256 a0 (some (jz h)) := ⟨_, rfl⟩
  replace hv := hv h6 e7
  refine jp_putr dX6_init_8 (jfp.nf fl_RX6_9 (fun q hq => by cases hq; rfl)) rfl jsn f5 e7 ?_
  refine jg_aload_n dX6_init_11 rfl (List.Mem.head _) ?_
  refine jg_iconst (v := 0) dX6_init_12 (by decide) ?_
  obtain ⟨h8, e9⟩ : ∃ z : jh, z = jsi h6 257 a0 (0) := ⟨_, rfl⟩
  replace hv := hv h8 e9
  refine jp_puti dX6_init_13 (jfp.nf fl_RX6_15 (fun q hq => by cases hq; rfl)) rfl jsn ((congrArg (fun z => jt z a0) e7).trans f5) e9 ?_
  exact jg_vret dX6_init_16 rfl hv
theorem eX6_init {g : jg} {a0 : Nat} {h : jh} {mc ms : Nat} {Q : jq} (hv : VX6_init_0 g a0 h mc ms Q) : jM g mX6_init [.inr (.inr (some (a0)))] h mc ms Q := jM.of (by decide) (Nat.le_of_ble_eq_true rfl) (lv := [(0, .inr (.inr (some (a0))))]) rfl (vX6_init_0 hv)
theorem dX6_clear_0 : decode cX6_clear 0 = .ok (.aload_n 0, 1) := by decide +kernel
theorem dX6_clear_1 : decode cX6_clear 1 = .ok (.iconst 0, 1) := by decide +kernel
theorem dX6_clear_2 : decode cX6_clear 2 = .ok (.iload_n 1, 1) := by decide +kernel
theorem dX6_clear_3 : decode cX6_clear 3 = .ok (.sipush 20000, 3) := by decide +kernel
theorem dX6_clear_6 : decode cX6_clear 6 = .ok (.invokestatic 19, 3) := by decide +kernel
theorem dX6_clear_9 : decode cX6_clear 9 = .ok (.invokestatic 25, 3) := by decide +kernel
theorem dX6_clear_12 : decode cX6_clear 12 = .ok (.putfield 15, 3) := by decide +kernel
theorem dX6_clear_15 : decode cX6_clear 15 = .ok (.aload_n 0, 1) := by decide +kernel
theorem dX6_clear_16 : decode cX6_clear 16 = .ok (.getfield 15, 3) := by decide +kernel
theorem dX6_clear_19 : decode cX6_clear 19 = .ok (.aload_n 0, 1) := by decide +kernel
theorem dX6_clear_20 : decode cX6_clear 20 = .ok (.getfield 9, 3) := by decide +kernel
theorem dX6_clear_23 : decode cX6_clear 23 = .ok (.arraylength, 1) := by decide +kernel
theorem dX6_clear_24 : decode cX6_clear 24 = .ok (.if_icmp .le 30, 3) := by decide +kernel
theorem dX6_clear_27 : decode cX6_clear 27 = .ok (.aload_n 0, 1) := by decide +kernel
theorem dX6_clear_28 : decode cX6_clear 28 = .ok (.sipush 20000, 3) := by decide +kernel
theorem dX6_clear_31 : decode cX6_clear 31 = .ok (.aload_n 0, 1) := by decide +kernel
theorem dX6_clear_32 : decode cX6_clear 32 = .ok (.getfield 15, 3) := by decide +kernel
theorem dX6_clear_35 : decode cX6_clear 35 = .ok (.iconst 2, 1) := by decide +kernel
theorem dX6_clear_36 : decode cX6_clear 36 = .ok (.aload_n 0, 1) := by decide +kernel
theorem dX6_clear_37 : decode cX6_clear 37 = .ok (.getfield 9, 3) := by decide +kernel
theorem dX6_clear_40 : decode cX6_clear 40 = .ok (.arraylength, 1) := by decide +kernel
theorem dX6_clear_41 : decode cX6_clear 41 = .ok (.imul, 1) := by decide +kernel
theorem dX6_clear_42 : decode cX6_clear 42 = .ok (.invokestatic 25, 3) := by decide +kernel
theorem dX6_clear_45 : decode cX6_clear 45 = .ok (.invokestatic 19, 3) := by decide +kernel
theorem dX6_clear_48 : decode cX6_clear 48 = .ok (.newarray .byte, 2) := by decide +kernel
theorem dX6_clear_50 : decode cX6_clear 50 = .ok (.putfield 9, 3) := by decide +kernel
theorem dX6_clear_53 : decode cX6_clear 53 = .ok (.return_, 1) := by decide +kernel
theorem dX6_clear_54 : decode cX6_clear 54 = .ok (.iconst 0, 1) := by decide +kernel
theorem dX6_clear_55 : decode cX6_clear 55 = .ok (.istore_n 2, 1) := by decide +kernel
theorem dX6_clear_56 : decode cX6_clear 56 = .ok (.iload_n 2, 1) := by decide +kernel
theorem dX6_clear_57 : decode cX6_clear 57 = .ok (.aload_n 0, 1) := by decide +kernel
theorem dX6_clear_58 : decode cX6_clear 58 = .ok (.getfield 15, 3) := by decide +kernel
theorem dX6_clear_61 : decode cX6_clear 61 = .ok (.if_icmp .ge 16, 3) := by decide +kernel
theorem dX6_clear_64 : decode cX6_clear 64 = .ok (.aload_n 0, 1) := by decide +kernel
theorem dX6_clear_65 : decode cX6_clear 65 = .ok (.getfield 9, 3) := by decide +kernel
theorem dX6_clear_68 : decode cX6_clear 68 = .ok (.iload_n 2, 1) := by decide +kernel
theorem dX6_clear_69 : decode cX6_clear 69 = .ok (.iconst 0, 1) := by decide +kernel
theorem dX6_clear_70 : decode cX6_clear 70 = .ok (.bastore, 1) := by decide +kernel
theorem dX6_clear_71 : decode cX6_clear 71 = .ok (.iinc 2 1, 3) := by decide +kernel
theorem dX6_clear_74 : decode cX6_clear 74 = .ok (.goto (-18), 3) := by decide +kernel
theorem dX6_clear_77 : decode cX6_clear 77 = .ok (.return_, 1) := by decide +kernel
def VX6_clear_56 (g : jg) (a0 : Nat) (x2 : Int32) (h : jh) (k n : Nat) (Q : jq) : Prop := (jt h a0 = 5) ∧ (((ji h 257 a0) ≤ (x2) → Q (.inl none) h) ∧ (¬ (ji h 257 a0) ≤ (x2) → (¬ (jr h 256 a0) = none) ∧ (jt h (jd (jr h 256 a0)) = 21) ∧ (vp_in (x2) (jn h (jd (jr h 256 a0)))) ∧ ∀ h6 : jh, h6 = jsI h (jd (jr h 256 a0)) (x2 : Int32).toNatClampNeg (0 : Int32).toInt8.toInt32 → jG g mX6_clear 56 [(0, .inr (.inr (some (a0)))), (2, .inl ((x2) + 1))] [] h6 k n Q))
set_option maxRecDepth 20000 in
theorem vX6_clear_56 {g : jg} {a0 : Nat} {x2 : Int32} {h : jh} {k n : Nat} {Q : jq} (hv : VX6_clear_56 g a0 x2 h k n Q) : jG g mX6_clear 56 [(0, .inr (.inr (some (a0)))), (2, .inl (x2))] [] h k n Q := by
  unfold VX6_clear_56 at hv
  refine jg_iload_n dX6_clear_56 rfl (List.Mem.tail _ (List.Mem.head _)) ?_
  refine jg_aload_n dX6_clear_57 rfl (List.Mem.head _) ?_
  obtain ⟨f1, hv⟩ := hv
  refine jg_geti dX6_clear_58 fl_RX6_15 rfl jsn f1 ?_
  refine jg_icmp_ge (tgt := 77) dX6_clear_61 (by decide) (fun c2 => ?_) (fun c2 => ?_)
  · replace hv := hv.1 c2
    exact jg_vret dX6_clear_77 rfl hv
  · replace hv := hv.2 c2
    refine jg_aload_n dX6_clear_64 rfl (List.Mem.head _) ?_
    refine jg_getr dX6_clear_65 fl_RX6_9 rfl jsn f1 ?_
    refine jg_iload_n dX6_clear_68 rfl (List.Mem.tail _ (List.Mem.head _)) ?_
    refine jg_iconst (v := 0) dX6_clear_69 (by decide) ?_
    obtain ⟨f3, hv⟩ := hv
    obtain ⟨f4, hv⟩ := hv
    obtain ⟨f5, hv⟩ := hv
    obtain ⟨h6, e7⟩ : ∃ z : jh, z = jsI h (jd (jr h 256 a0)) (x2 : Int32).toNatClampNeg (0 : Int32).toInt8.toInt32 := ⟨_, rfl⟩
    replace hv := hv h6 e7
    refine jp_bast dX6_clear_70 f3 f4 f5 e7 ?_
    refine jg_iinc (v := (x2) + 1) (lv' := [(2, .inl ((x2) + 1)), (0, .inr (.inr (some (a0))))]) dX6_clear_71 (List.Mem.tail _ (List.Mem.head _)) rfl (by decide) rfl ?_
    refine jg_goto (tgt := 56) dX6_clear_74 (by decide) ?_
    refine jG.sub (lv' := [(0, .inr (.inr (some (a0)))), (2, .inl ((x2) + 1))]) (by simp) ?_
    exact hv
def VX6_clear_0 (g : jg) (a0 : Nat) (x1 : Int32) (h : jh) (k n : Nat) (Q : jq) : Prop := (jt h a0 = 5) ∧ ∀ h9 : jh, h9 = jsi h 257 a0 (if (0) < (if (20000) < (x1) then (20000) else (x1)) then (if (20000) < (x1) then (20000) else (x1)) else (0)) → (¬ (jr h9 256 a0) = none) ∧ (jt h9 (jd (jr h9 256 a0)) = 21) ∧ (((ji h9 257 a0) ≤ (nI (jn h9 (jd (jr h9 256 a0)))) → jG g mX6_clear 56 [(0, .inr (.inr (some (a0)))), (2, .inl (0))] [] h9 k n Q) ∧ (¬ (ji h9 257 a0) ≤ (nI (jn h9 (jd (jr h9 256 a0)))) → (¬ (if (if (ji h9 257 a0) < ((2) * (nI (jn h9 (jd (jr h9 256 a0))))) then ((2) * (nI (jn h9 (jd (jr h9 256 a0))))) else (ji h9 257 a0)) < (20000) then (if (ji h9 257 a0) < ((2) * (nI (jn h9 (jd (jr h9 256 a0))))) then ((2) * (nI (jn h9 (jd (jr h9 256 a0))))) else (ji h9 257 a0)) else (20000)) < 0) ∧ ((if (if (ji h9 257 a0) < ((2) * (nI (jn h9 (jd (jr h9 256 a0))))) then ((2) * (nI (jn h9 (jd (jr h9 256 a0))))) else (ji h9 257 a0)) < (20000) then (if (ji h9 257 a0) < ((2) * (nI (jn h9 (jd (jr h9 256 a0))))) then ((2) * (nI (jn h9 (jd (jr h9 256 a0))))) else (ji h9 257 a0)) else (20000) : Int32).toNatClampNeg * 1 ≤ 536870912) ∧ (1 ≤ k) ∧ ((if (if (ji h9 257 a0) < ((2) * (nI (jn h9 (jd (jr h9 256 a0))))) then ((2) * (nI (jn h9 (jd (jr h9 256 a0))))) else (ji h9 257 a0)) < (20000) then (if (ji h9 257 a0) < ((2) * (nI (jn h9 (jd (jr h9 256 a0))))) then ((2) * (nI (jn h9 (jd (jr h9 256 a0))))) else (ji h9 257 a0)) else (20000) : Int32).toNatClampNeg ≤ n) ∧ ∀ h18 : jh, h18 = jmk h9 21 (if (if (ji h9 257 a0) < ((2) * (nI (jn h9 (jd (jr h9 256 a0))))) then ((2) * (nI (jn h9 (jd (jr h9 256 a0))))) else (ji h9 257 a0)) < (20000) then (if (ji h9 257 a0) < ((2) * (nI (jn h9 (jd (jr h9 256 a0))))) then ((2) * (nI (jn h9 (jd (jr h9 256 a0))))) else (ji h9 257 a0)) else (20000) : Int32).toNatClampNeg → (jt h18 a0 = 5) ∧ ∀ h21 : jh, h21 = jsr h18 256 a0 (some (jz h9)) → Q (.inl none) h21))
set_option maxRecDepth 20000 in
theorem vX6_clear_0 {g : jg} {a0 : Nat} {x1 : Int32} {h : jh} {k n : Nat} {Q : jq} (hv : VX6_clear_0 g a0 x1 h k n Q) : jG g mX6_clear 0 [(0, .inr (.inr (some (a0)))), (1, .inl (x1))] [] h k n Q := by
  unfold VX6_clear_0 at hv
  refine jg_aload_n dX6_clear_0 rfl (List.Mem.head _) ?_
  refine jg_iconst (v := 0) dX6_clear_1 (by decide) ?_
  refine jg_iload_n dX6_clear_2 rfl (List.Mem.tail _ (List.Mem.head _)) ?_
  refine jg_sipush (v := 20000) dX6_clear_3 (by decide) ?_
  refine jg_mmin dX6_clear_6 ma_RX6_19 ma_min1 ma_0 ma_min2 (by decide) (jcat_le _ (Nat.le_of_ble_eq_true rfl)) (by decide) ?_
  refine jg_mmax dX6_clear_9 ma_RX6_25 ma_max1 ma_0 ma_max2 (by decide) (jcat_le _ (Nat.le_of_ble_eq_true rfl)) (by decide) ?_
  obtain ⟨f8, hv⟩ := hv
  obtain ⟨h9, e10⟩ : ∃ z : jh, z = jsi h 257 a0 (if (0) < (if (20000) < (x1) then (20000) else (x1)) then (if (20000) < (x1) then (20000) else (x1)) else (0)) := ⟨_, rfl⟩
  replace hv := hv h9 e10
  refine jp_puti dX6_clear_12 (jfp.nf fl_RX6_15 (fun q hq => by cases hq; rfl)) rfl jsn f8 e10 ?_
  refine jg_aload_n dX6_clear_15 rfl (List.Mem.head _) ?_
  refine jg_geti dX6_clear_16 fl_RX6_15 rfl jsn ((congrArg (fun z => jt z a0) e10).trans f8) ?_
  refine jg_aload_n dX6_clear_19 rfl (List.Mem.head _) ?_
  refine jg_getr dX6_clear_20 fl_RX6_9 rfl jsn ((congrArg (fun z => jt z a0) e10).trans f8) ?_
  obtain ⟨f11, hv⟩ := hv
  obtain ⟨f12, hv⟩ := hv
  refine jg_alen (t := 1) dX6_clear_23 f11 f12 (by decide) ?_
  refine jg_icmp_le (tgt := 54) dX6_clear_24 (by decide) (fun c13 => ?_) (fun c13 => ?_)
  · replace hv := hv.1 c13
    refine jg_iconst (v := 0) dX6_clear_54 (by decide) ?_
    refine jg_istore_n (lv' := [(2, .inl (0)), (0, .inr (.inr (some (a0)))), (1, .inl (x1))]) dX6_clear_55 rfl (by decide) rfl ?_
    refine jG.sub (lv' := [(0, .inr (.inr (some (a0)))), (2, .inl (0))]) (by simp) ?_
    exact hv
  · replace hv := hv.2 c13
    refine jg_aload_n dX6_clear_27 rfl (List.Mem.head _) ?_
    refine jg_sipush (v := 20000) dX6_clear_28 (by decide) ?_
    refine jg_aload_n dX6_clear_31 rfl (List.Mem.head _) ?_
    refine jg_geti dX6_clear_32 fl_RX6_15 rfl jsn ((congrArg (fun z => jt z a0) e10).trans f8) ?_
    refine jg_iconst (v := 2) dX6_clear_35 (by decide) ?_
    refine jg_aload_n dX6_clear_36 rfl (List.Mem.head _) ?_
    refine jg_getr dX6_clear_37 fl_RX6_9 rfl jsn ((congrArg (fun z => jt z a0) e10).trans f8) ?_
    refine jg_alen (t := 1) dX6_clear_40 f11 f12 (by decide) ?_
    refine jg_imul dX6_clear_41 ?_
    refine jg_mmax dX6_clear_42 ma_RX6_25 ma_max1 ma_0 ma_max2 (by decide) (jcat_le _ (Nat.le_of_ble_eq_true rfl)) (by decide) ?_
    refine jg_mmin dX6_clear_45 ma_RX6_19 ma_min1 ma_0 ma_min2 (by decide) (jcat_le _ (Nat.le_of_ble_eq_true rfl)) (by decide) ?_
    obtain ⟨f14, hv⟩ := hv
    obtain ⟨f15, hv⟩ := hv
    obtain ⟨f16, hv⟩ := hv
    obtain ⟨f17, hv⟩ := hv
    obtain ⟨h18, e19⟩ : ∃ z : jh, z = jmk h9 21 (if (if (ji h9 257 a0) < ((2) * (nI (jn h9 (jd (jr h9 256 a0))))) then ((2) * (nI (jn h9 (jd (jr h9 256 a0))))) else (ji h9 257 a0)) < (20000) then (if (ji h9 257 a0) < ((2) * (nI (jn h9 (jd (jr h9 256 a0))))) then ((2) * (nI (jn h9 (jd (jr h9 256 a0))))) else (ji h9 257 a0)) else (20000) : Int32).toNatClampNeg := ⟨_, rfl⟩
    replace hv := hv h18 e19
    refine jp_newB dX6_clear_48 ja_byte f14 f15 f16 f17 e19 ?_
    obtain ⟨f20, hv⟩ := hv
    obtain ⟨h21, e22⟩ : ∃ z : jh, z = jsr h18 256 a0 (some (jz h9)) := ⟨_, rfl⟩
    replace hv := hv h21 e22
    refine jp_putr dX6_clear_50 (jfp.nf fl_RX6_9 (fun q hq => by cases hq; rfl)) rfl jsn f20 e22 ?_
    exact jg_vret dX6_clear_53 rfl hv
theorem eX6_clear {g : jg} {a0 : Nat} {x1 : Int32} {h : jh} {mc ms : Nat} {Q : jq} (hv : VX6_clear_0 g a0 x1 h mc ms Q) : jM g mX6_clear [.inr (.inr (some (a0))), .inl (x1)] h mc ms Q := jM.of (by decide) (Nat.le_of_ble_eq_true rfl) (lv := [(0, .inr (.inr (some (a0)))), (1, .inl (x1))]) rfl (vX6_clear_0 hv)
theorem dX6_has_0 : decode cX6_has 0 = .ok (.iload_n 1, 1) := by decide +kernel
theorem dX6_has_1 : decode cX6_has 1 = .ok (.ifCond .lt 15, 3) := by decide +kernel
theorem dX6_has_4 : decode cX6_has 4 = .ok (.iload_n 1, 1) := by decide +kernel
theorem dX6_has_5 : decode cX6_has 5 = .ok (.aload_n 0, 1) := by decide +kernel
theorem dX6_has_6 : decode cX6_has 6 = .ok (.getfield 15, 3) := by decide +kernel
theorem dX6_has_9 : decode cX6_has 9 = .ok (.if_icmp .ge 7, 3) := by decide +kernel
theorem dX6_has_12 : decode cX6_has 12 = .ok (.iconst 1, 1) := by decide +kernel
theorem dX6_has_13 : decode cX6_has 13 = .ok (.goto 4, 3) := by decide +kernel
theorem dX6_has_16 : decode cX6_has 16 = .ok (.iconst 0, 1) := by decide +kernel
theorem dX6_has_17 : decode cX6_has 17 = .ok (.ireturn, 1) := by decide +kernel
def VX6_has_0 (g : jg) (a0 : Nat) (x1 : Int32) (h : jh) (k n : Nat) (Q : jq) : Prop := (((x1) < 0 → Q (.inl (some (.inl (0)))) h) ∧ (¬ (x1) < 0 → (jt h a0 = 5) ∧ (((ji h 257 a0) ≤ (x1) → Q (.inl (some (.inl (0)))) h) ∧ (¬ (ji h 257 a0) ≤ (x1) → Q (.inl (some (.inl (1)))) h))))
set_option maxRecDepth 20000 in
theorem vX6_has_0 {g : jg} {a0 : Nat} {x1 : Int32} {h : jh} {k n : Nat} {Q : jq} (hv : VX6_has_0 g a0 x1 h k n Q) : jG g mX6_has 0 [(0, .inr (.inr (some (a0)))), (1, .inl (x1))] [] h k n Q := by
  unfold VX6_has_0 at hv
  refine jg_iload_n dX6_has_0 rfl (List.Mem.tail _ (List.Mem.head _)) ?_
  refine jg_if_lt (tgt := 16) dX6_has_1 (by decide) (fun c1 => ?_) (fun c1 => ?_)
  · replace hv := hv.1 c1
    refine jg_iconst (v := 0) dX6_has_16 (by decide) ?_
    exact jg_bret dX6_has_17 rfl (by decide) hv
  · replace hv := hv.2 c1
    refine jg_iload_n dX6_has_4 rfl (List.Mem.tail _ (List.Mem.head _)) ?_
    refine jg_aload_n dX6_has_5 rfl (List.Mem.head _) ?_
    obtain ⟨f2, hv⟩ := hv
    refine jg_geti dX6_has_6 fl_RX6_15 rfl jsn f2 ?_
    refine jg_icmp_ge (tgt := 16) dX6_has_9 (by decide) (fun c3 => ?_) (fun c3 => ?_)
    · replace hv := hv.1 c3
      refine jg_iconst (v := 0) dX6_has_16 (by decide) ?_
      exact jg_bret dX6_has_17 rfl (by decide) hv
    · replace hv := hv.2 c3
      refine jg_iconst (v := 1) dX6_has_12 (by decide) ?_
      refine jg_goto (tgt := 17) dX6_has_13 (by decide) ?_
      exact jg_bret dX6_has_17 rfl (by decide) hv
theorem eX6_has {g : jg} {a0 : Nat} {x1 : Int32} {h : jh} {mc ms : Nat} {Q : jq} (hv : VX6_has_0 g a0 x1 h mc ms Q) : jM g mX6_has [.inr (.inr (some (a0))), .inl (x1)] h mc ms Q := jM.of (by decide) (Nat.le_of_ble_eq_true rfl) (lv := [(0, .inr (.inr (some (a0)))), (1, .inl (x1))]) rfl (vX6_has_0 hv)
theorem dX6_get_0 : decode cX6_get 0 = .ok (.aload_n 0, 1) := by decide +kernel
theorem dX6_get_1 : decode cX6_get 1 = .ok (.iload_n 1, 1) := by decide +kernel
theorem dX6_get_2 : decode cX6_get 2 = .ok (.invokevirtual 28, 3) := by decide +kernel
theorem dX6_get_5 : decode cX6_get 5 = .ok (.ifCond .eq 16, 3) := by decide +kernel
theorem dX6_get_8 : decode cX6_get 8 = .ok (.aload_n 0, 1) := by decide +kernel
theorem dX6_get_9 : decode cX6_get 9 = .ok (.getfield 9, 3) := by decide +kernel
theorem dX6_get_12 : decode cX6_get 12 = .ok (.iload_n 1, 1) := by decide +kernel
theorem dX6_get_13 : decode cX6_get 13 = .ok (.baload, 1) := by decide +kernel
theorem dX6_get_14 : decode cX6_get 14 = .ok (.sipush 255, 3) := by decide +kernel
theorem dX6_get_17 : decode cX6_get 17 = .ok (.iand, 1) := by decide +kernel
theorem dX6_get_18 : decode cX6_get 18 = .ok (.goto 4, 3) := by decide +kernel
theorem dX6_get_21 : decode cX6_get 21 = .ok (.iconst 0, 1) := by decide +kernel
theorem dX6_get_22 : decode cX6_get 22 = .ok (.ireturn, 1) := by decide +kernel
def VX6_get_0 (g : jg) (a0 : Nat) (x1 : Int32) (h : jh) (k n : Nat) (Q : jq) : Prop := (jt h a0 = 5) ∧ jM g mX6_has [.inr (.inr (some a0)), .inl (x1)] h 0 0 (jki (fun (r2 : Int32) (h3 : jh) => (((r2) = 0 → Q (.inl (some (.inl (0)))) h3) ∧ (¬ (r2) = 0 → (jt h3 a0 = 5) ∧ (¬ (jr h3 256 a0) = none) ∧ (jt h3 (jd (jr h3 256 a0)) = 21) ∧ (vp_in (x1) (jn h3 (jd (jr h3 256 a0)))) ∧ Q (.inl (some (.inl ((jI h3 (jd (jr h3 256 a0)) (x1 : Int32).toNatClampNeg) &&& (255))))) h3))) (fun e h9 => Q (.inr e) h9))
set_option maxRecDepth 20000 in
theorem vX6_get_0 {g : jg} {a0 : Nat} {x1 : Int32} {h : jh} {k n : Nat} {Q : jq} (hv : VX6_get_0 g a0 x1 h k n Q) : jG g mX6_get 0 [(0, .inr (.inr (some (a0)))), (1, .inl (x1))] [] h k n Q := by
  unfold VX6_get_0 at hv
  refine jg_aload_n dX6_get_0 rfl (List.Mem.head _) ?_
  refine jg_iload_n dX6_get_1 rfl (List.Mem.tail _ (List.Mem.head _)) ?_
  obtain ⟨f1, hv⟩ := hv
  refine jp_callV mX6_has [.inl (x1)] [] dX6_get_2 rfl cl_RX6_28 ⟨⟨by decide, by decide⟩, by decide⟩ jsn f1 (Nat.zero_le _) (Nat.zero_le _) (jM.mono (jki_k (fun r2 h3 hv => ?_)) hv)
  refine jg_if_eq (tgt := 21) dX6_get_5 (by decide) (fun c4 => ?_) (fun c4 => ?_)
  · replace hv := hv.1 c4
    refine jg_iconst (v := 0) dX6_get_21 (by decide) ?_
    exact jg_iret dX6_get_22 rfl hv
  · replace hv := hv.2 c4
    refine jg_aload_n dX6_get_8 rfl (List.Mem.head _) ?_
    obtain ⟨f5, hv⟩ := hv
    refine jg_getr dX6_get_9 fl_RX6_9 rfl jsn f5 ?_
    refine jg_iload_n dX6_get_12 rfl (List.Mem.tail _ (List.Mem.head _)) ?_
    obtain ⟨f6, hv⟩ := hv
    obtain ⟨f7, hv⟩ := hv
    obtain ⟨f8, hv⟩ := hv
    refine jg_bald dX6_get_13 f6 f7 f8 ?_
    refine jg_sipush (v := 255) dX6_get_14 (by decide) ?_
    refine jg_iand dX6_get_17 ?_
    refine jg_goto (tgt := 22) dX6_get_18 (by decide) ?_
    exact jg_iret dX6_get_22 rfl hv
theorem eX6_get {g : jg} {a0 : Nat} {x1 : Int32} {h : jh} {mc ms : Nat} {Q : jq} (hv : VX6_get_0 g a0 x1 h mc ms Q) : jM g mX6_get [.inr (.inr (some (a0))), .inl (x1)] h mc ms Q := jM.of (by decide) (Nat.le_of_ble_eq_true rfl) (lv := [(0, .inr (.inr (some (a0)))), (1, .inl (x1))]) rfl (vX6_get_0 hv)
theorem dX6_put_0 : decode cX6_put 0 = .ok (.aload_n 0, 1) := by decide +kernel
theorem dX6_put_1 : decode cX6_put 1 = .ok (.iload_n 1, 1) := by decide +kernel
theorem dX6_put_2 : decode cX6_put 2 = .ok (.invokevirtual 28, 3) := by decide +kernel
theorem dX6_put_5 : decode cX6_put 5 = .ok (.ifCond .eq 11, 3) := by decide +kernel
theorem dX6_put_8 : decode cX6_put 8 = .ok (.aload_n 0, 1) := by decide +kernel
theorem dX6_put_9 : decode cX6_put 9 = .ok (.getfield 9, 3) := by decide +kernel
theorem dX6_put_12 : decode cX6_put 12 = .ok (.iload_n 1, 1) := by decide +kernel
theorem dX6_put_13 : decode cX6_put 13 = .ok (.iload_n 2, 1) := by decide +kernel
theorem dX6_put_14 : decode cX6_put 14 = .ok (.i2b, 1) := by decide +kernel
theorem dX6_put_15 : decode cX6_put 15 = .ok (.bastore, 1) := by decide +kernel
theorem dX6_put_16 : decode cX6_put 16 = .ok (.return_, 1) := by decide +kernel
def VX6_put_0 (g : jg) (a0 : Nat) (x1 : Int32) (x2 : Int32) (h : jh) (k n : Nat) (Q : jq) : Prop := (jt h a0 = 5) ∧ jM g mX6_has [.inr (.inr (some a0)), .inl (x1)] h 0 0 (jki (fun (r2 : Int32) (h3 : jh) => (((r2) = 0 → Q (.inl none) h3) ∧ (¬ (r2) = 0 → (jt h3 a0 = 5) ∧ (¬ (jr h3 256 a0) = none) ∧ (jt h3 (jd (jr h3 256 a0)) = 21) ∧ (vp_in (x1) (jn h3 (jd (jr h3 256 a0)))) ∧ ∀ h9 : jh, h9 = jsI h3 (jd (jr h3 256 a0)) (x1 : Int32).toNatClampNeg ((x2 : Int32).toInt8.toInt32 : Int32).toInt8.toInt32 → Q (.inl none) h9))) (fun e h9 => Q (.inr e) h9))
set_option maxRecDepth 20000 in
theorem vX6_put_0 {g : jg} {a0 : Nat} {x1 : Int32} {x2 : Int32} {h : jh} {k n : Nat} {Q : jq} (hv : VX6_put_0 g a0 x1 x2 h k n Q) : jG g mX6_put 0 [(0, .inr (.inr (some (a0)))), (1, .inl (x1)), (2, .inl (x2))] [] h k n Q := by
  unfold VX6_put_0 at hv
  refine jg_aload_n dX6_put_0 rfl (List.Mem.head _) ?_
  refine jg_iload_n dX6_put_1 rfl (List.Mem.tail _ (List.Mem.head _)) ?_
  obtain ⟨f1, hv⟩ := hv
  refine jp_callV mX6_has [.inl (x1)] [] dX6_put_2 rfl cl_RX6_28 ⟨⟨by decide, by decide⟩, by decide⟩ jsn f1 (Nat.zero_le _) (Nat.zero_le _) (jM.mono (jki_k (fun r2 h3 hv => ?_)) hv)
  refine jg_if_eq (tgt := 16) dX6_put_5 (by decide) (fun c4 => ?_) (fun c4 => ?_)
  · replace hv := hv.1 c4
    exact jg_vret dX6_put_16 rfl hv
  · replace hv := hv.2 c4
    refine jg_aload_n dX6_put_8 rfl (List.Mem.head _) ?_
    obtain ⟨f5, hv⟩ := hv
    refine jg_getr dX6_put_9 fl_RX6_9 rfl jsn f5 ?_
    refine jg_iload_n dX6_put_12 rfl (List.Mem.tail _ (List.Mem.head _)) ?_
    refine jg_iload_n dX6_put_13 rfl (List.Mem.tail _ (List.Mem.tail _ (List.Mem.head _))) ?_
    refine jg_i2b dX6_put_14 ?_
    obtain ⟨f6, hv⟩ := hv
    obtain ⟨f7, hv⟩ := hv
    obtain ⟨f8, hv⟩ := hv
    obtain ⟨h9, e10⟩ : ∃ z : jh, z = jsI h3 (jd (jr h3 256 a0)) (x1 : Int32).toNatClampNeg ((x2 : Int32).toInt8.toInt32 : Int32).toInt8.toInt32 := ⟨_, rfl⟩
    replace hv := hv h9 e10
    refine jp_bast dX6_put_15 f6 f7 f8 e10 ?_
    exact jg_vret dX6_put_16 rfl hv
theorem eX6_put {g : jg} {a0 : Nat} {x1 : Int32} {x2 : Int32} {h : jh} {mc ms : Nat} {Q : jq} (hv : VX6_put_0 g a0 x1 x2 h mc ms Q) : jM g mX6_put [.inr (.inr (some (a0))), .inl (x1), .inl (x2)] h mc ms Q := jM.of (by decide) (Nat.le_of_ble_eq_true rfl) (lv := [(0, .inr (.inr (some (a0)))), (1, .inl (x1)), (2, .inl (x2))]) rfl (vX6_put_0 hv)
theorem dX6_repeat_0 : decode cX6_repeat 0 = .ok (.iload_n 1, 1) := by decide +kernel
theorem dX6_repeat_1 : decode cX6_repeat 1 = .ok (.ifCond .lt 7, 3) := by decide +kernel
theorem dX6_repeat_4 : decode cX6_repeat 4 = .ok (.iload_n 2, 1) := by decide +kernel
theorem dX6_repeat_5 : decode cX6_repeat 5 = .ok (.ifCond .ge 4, 3) := by decide +kernel
theorem dX6_repeat_8 : decode cX6_repeat 8 = .ok (.return_, 1) := by decide +kernel
theorem dX6_repeat_9 : decode cX6_repeat 9 = .ok (.iload_n 1, 1) := by decide +kernel
theorem dX6_repeat_10 : decode cX6_repeat 10 = .ok (.iload_n 2, 1) := by decide +kernel
theorem dX6_repeat_11 : decode cX6_repeat 11 = .ok (.iload_n 3, 1) := by decide +kernel
theorem dX6_repeat_12 : decode cX6_repeat 12 = .ok (.imul, 1) := by decide +kernel
theorem dX6_repeat_13 : decode cX6_repeat 13 = .ok (.iadd, 1) := by decide +kernel
theorem dX6_repeat_14 : decode cX6_repeat 14 = .ok (.aload_n 0, 1) := by decide +kernel
theorem dX6_repeat_15 : decode cX6_repeat 15 = .ok (.getfield 15, 3) := by decide +kernel
theorem dX6_repeat_18 : decode cX6_repeat 18 = .ok (.invokestatic 19, 3) := by decide +kernel
theorem dX6_repeat_21 : decode cX6_repeat 21 = .ok (.istore 4, 2) := by decide +kernel
theorem dX6_repeat_23 : decode cX6_repeat 23 = .ok (.iload_n 1, 1) := by decide +kernel
theorem dX6_repeat_24 : decode cX6_repeat 24 = .ok (.iload_n 2, 1) := by decide +kernel
theorem dX6_repeat_25 : decode cX6_repeat 25 = .ok (.iadd, 1) := by decide +kernel
theorem dX6_repeat_26 : decode cX6_repeat 26 = .ok (.istore 5, 2) := by decide +kernel
theorem dX6_repeat_28 : decode cX6_repeat 28 = .ok (.iload 5, 2) := by decide +kernel
theorem dX6_repeat_30 : decode cX6_repeat 30 = .ok (.iload 4, 2) := by decide +kernel
theorem dX6_repeat_32 : decode cX6_repeat 32 = .ok (.if_icmp .ge 25, 3) := by decide +kernel
theorem dX6_repeat_35 : decode cX6_repeat 35 = .ok (.aload_n 0, 1) := by decide +kernel
theorem dX6_repeat_36 : decode cX6_repeat 36 = .ok (.getfield 9, 3) := by decide +kernel
theorem dX6_repeat_39 : decode cX6_repeat 39 = .ok (.iload 5, 2) := by decide +kernel
theorem dX6_repeat_41 : decode cX6_repeat 41 = .ok (.aload_n 0, 1) := by decide +kernel
theorem dX6_repeat_42 : decode cX6_repeat 42 = .ok (.getfield 9, 3) := by decide +kernel
theorem dX6_repeat_45 : decode cX6_repeat 45 = .ok (.iload 5, 2) := by decide +kernel
theorem dX6_repeat_47 : decode cX6_repeat 47 = .ok (.iload_n 2, 1) := by decide +kernel
theorem dX6_repeat_48 : decode cX6_repeat 48 = .ok (.isub, 1) := by decide +kernel
theorem dX6_repeat_49 : decode cX6_repeat 49 = .ok (.baload, 1) := by decide +kernel
theorem dX6_repeat_50 : decode cX6_repeat 50 = .ok (.bastore, 1) := by decide +kernel
theorem dX6_repeat_51 : decode cX6_repeat 51 = .ok (.iinc 5 1, 3) := by decide +kernel
theorem dX6_repeat_54 : decode cX6_repeat 54 = .ok (.goto (-26), 3) := by decide +kernel
theorem dX6_repeat_57 : decode cX6_repeat 57 = .ok (.return_, 1) := by decide +kernel
def VX6_repeat_28 (g : jg) (a0 : Nat) (x2 : Int32) (x4 : Int32) (x5 : Int32) (h : jh) (k n : Nat) (Q : jq) : Prop := (((x4) ≤ (x5) → Q (.inl none) h) ∧ (¬ (x4) ≤ (x5) → (jt h a0 = 5) ∧ (¬ (jr h 256 a0) = none) ∧ (jt h (jd (jr h 256 a0)) = 21) ∧ (vp_in ((x5) - (x2)) (jn h (jd (jr h 256 a0)))) ∧ (vp_in (x5) (jn h (jd (jr h 256 a0)))) ∧ ∀ h7 : jh, h7 = jsI h (jd (jr h 256 a0)) (x5 : Int32).toNatClampNeg (jI h (jd (jr h 256 a0)) ((x5) - (x2) : Int32).toNatClampNeg : Int32).toInt8.toInt32 → jG g mX6_repeat 28 [(0, .inr (.inr (some (a0)))), (2, .inl (x2)), (4, .inl (x4)), (5, .inl ((x5) + 1))] [] h7 k n Q))
set_option maxRecDepth 20000 in
theorem vX6_repeat_28 {g : jg} {a0 : Nat} {x2 : Int32} {x4 : Int32} {x5 : Int32} {h : jh} {k n : Nat} {Q : jq} (hv : VX6_repeat_28 g a0 x2 x4 x5 h k n Q) : jG g mX6_repeat 28 [(0, .inr (.inr (some (a0)))), (2, .inl (x2)), (4, .inl (x4)), (5, .inl (x5))] [] h k n Q := by
  unfold VX6_repeat_28 at hv
  refine jg_iload dX6_repeat_28 (List.Mem.tail _ (List.Mem.tail _ (List.Mem.tail _ (List.Mem.head _)))) ?_
  refine jg_iload dX6_repeat_30 (List.Mem.tail _ (List.Mem.tail _ (List.Mem.head _))) ?_
  refine jg_icmp_ge (tgt := 57) dX6_repeat_32 (by decide) (fun c1 => ?_) (fun c1 => ?_)
  · replace hv := hv.1 c1
    exact jg_vret dX6_repeat_57 rfl hv
  · replace hv := hv.2 c1
    refine jg_aload_n dX6_repeat_35 rfl (List.Mem.head _) ?_
    obtain ⟨f2, hv⟩ := hv
    refine jg_getr dX6_repeat_36 fl_RX6_9 rfl jsn f2 ?_
    refine jg_iload dX6_repeat_39 (List.Mem.tail _ (List.Mem.tail _ (List.Mem.tail _ (List.Mem.head _)))) ?_
    refine jg_aload_n dX6_repeat_41 rfl (List.Mem.head _) ?_
    refine jg_getr dX6_repeat_42 fl_RX6_9 rfl jsn f2 ?_
    refine jg_iload dX6_repeat_45 (List.Mem.tail _ (List.Mem.tail _ (List.Mem.tail _ (List.Mem.head _)))) ?_
    refine jg_iload_n dX6_repeat_47 rfl (List.Mem.tail _ (List.Mem.head _)) ?_
    refine jg_isub dX6_repeat_48 ?_
    obtain ⟨f3, hv⟩ := hv
    obtain ⟨f4, hv⟩ := hv
    obtain ⟨f5, hv⟩ := hv
    refine jg_bald dX6_repeat_49 f3 f4 f5 ?_
    obtain ⟨f6, hv⟩ := hv
    obtain ⟨h7, e8⟩ : ∃ z : jh, z = jsI h (jd (jr h 256 a0)) (x5 : Int32).toNatClampNeg (jI h (jd (jr h 256 a0)) ((x5) - (x2) : Int32).toNatClampNeg : Int32).toInt8.toInt32 := ⟨_, rfl⟩
    replace hv := hv h7 e8
    refine jp_bast dX6_repeat_50 f3 f4 f6 e8 ?_
    refine jg_iinc (v := (x5) + 1) (lv' := [(5, .inl ((x5) + 1)), (0, .inr (.inr (some (a0)))), (2, .inl (x2)), (4, .inl (x4))]) dX6_repeat_51 (List.Mem.tail _ (List.Mem.tail _ (List.Mem.tail _ (List.Mem.head _)))) rfl (by decide) rfl ?_
    refine jg_goto (tgt := 28) dX6_repeat_54 (by decide) ?_
    refine jG.sub (lv' := [(0, .inr (.inr (some (a0)))), (2, .inl (x2)), (4, .inl (x4)), (5, .inl ((x5) + 1))]) (by simp) ?_
    exact hv
def VX6_repeat_0 (g : jg) (a0 : Nat) (x1 : Int32) (x2 : Int32) (x3 : Int32) (h : jh) (k n : Nat) (Q : jq) : Prop := (((x1) < 0 → Q (.inl none) h) ∧ (¬ (x1) < 0 → ((0 ≤ (x2) → (jt h a0 = 5) ∧ jG g mX6_repeat 28 [(0, .inr (.inr (some (a0)))), (2, .inl (x2)), (4, .inl (if (ji h 257 a0) < ((x1) + ((x2) * (x3))) then (ji h 257 a0) else ((x1) + ((x2) * (x3))))), (5, .inl ((x1) + (x2)))] [] h k n Q) ∧ (¬ 0 ≤ (x2) → Q (.inl none) h))))
set_option maxRecDepth 20000 in
theorem vX6_repeat_0 {g : jg} {a0 : Nat} {x1 : Int32} {x2 : Int32} {x3 : Int32} {h : jh} {k n : Nat} {Q : jq} (hv : VX6_repeat_0 g a0 x1 x2 x3 h k n Q) : jG g mX6_repeat 0 [(0, .inr (.inr (some (a0)))), (1, .inl (x1)), (2, .inl (x2)), (3, .inl (x3))] [] h k n Q := by
  unfold VX6_repeat_0 at hv
  refine jg_iload_n dX6_repeat_0 rfl (List.Mem.tail _ (List.Mem.head _)) ?_
  refine jg_if_lt (tgt := 8) dX6_repeat_1 (by decide) (fun c9 => ?_) (fun c9 => ?_)
  · replace hv := hv.1 c9
    exact jg_vret dX6_repeat_8 rfl hv
  · replace hv := hv.2 c9
    refine jg_iload_n dX6_repeat_4 rfl (List.Mem.tail _ (List.Mem.tail _ (List.Mem.head _))) ?_
    refine jg_if_ge (tgt := 9) dX6_repeat_5 (by decide) (fun c10 => ?_) (fun c10 => ?_)
    · replace hv := hv.1 c10
      refine jg_iload_n dX6_repeat_9 rfl (List.Mem.tail _ (List.Mem.head _)) ?_
      refine jg_iload_n dX6_repeat_10 rfl (List.Mem.tail _ (List.Mem.tail _ (List.Mem.head _))) ?_
      refine jg_iload_n dX6_repeat_11 rfl (List.Mem.tail _ (List.Mem.tail _ (List.Mem.tail _ (List.Mem.head _)))) ?_
      refine jg_imul dX6_repeat_12 ?_
      refine jg_iadd dX6_repeat_13 ?_
      refine jg_aload_n dX6_repeat_14 rfl (List.Mem.head _) ?_
      obtain ⟨f11, hv⟩ := hv
      refine jg_geti dX6_repeat_15 fl_RX6_15 rfl jsn f11 ?_
      refine jg_mmin dX6_repeat_18 ma_RX6_19 ma_min1 ma_0 ma_min2 (by decide) (jcat_le _ (Nat.le_of_ble_eq_true rfl)) (by decide) ?_
      refine jg_istore (lv' := [(4, .inl (if (ji h 257 a0) < ((x1) + ((x2) * (x3))) then (ji h 257 a0) else ((x1) + ((x2) * (x3))))), (0, .inr (.inr (some (a0)))), (1, .inl (x1)), (2, .inl (x2)), (3, .inl (x3))]) dX6_repeat_21 (by decide) rfl ?_
      refine jg_iload_n dX6_repeat_23 rfl (List.Mem.tail _ (List.Mem.tail _ (List.Mem.head _))) ?_
      refine jg_iload_n dX6_repeat_24 rfl (List.Mem.tail _ (List.Mem.tail _ (List.Mem.tail _ (List.Mem.head _)))) ?_
      refine jg_iadd dX6_repeat_25 ?_
      refine jg_istore (lv' := [(5, .inl ((x1) + (x2))), (4, .inl (if (ji h 257 a0) < ((x1) + ((x2) * (x3))) then (ji h 257 a0) else ((x1) + ((x2) * (x3))))), (0, .inr (.inr (some (a0)))), (1, .inl (x1)), (2, .inl (x2)), (3, .inl (x3))]) dX6_repeat_26 (by decide) rfl ?_
      refine jG.sub (lv' := [(0, .inr (.inr (some (a0)))), (2, .inl (x2)), (4, .inl (if (ji h 257 a0) < ((x1) + ((x2) * (x3))) then (ji h 257 a0) else ((x1) + ((x2) * (x3))))), (5, .inl ((x1) + (x2)))]) (by simp) ?_
      exact hv
    · replace hv := hv.2 c10
      exact jg_vret dX6_repeat_8 rfl hv
theorem eX6_repeat {g : jg} {a0 : Nat} {x1 : Int32} {x2 : Int32} {x3 : Int32} {h : jh} {mc ms : Nat} {Q : jq} (hv : VX6_repeat_0 g a0 x1 x2 x3 h mc ms Q) : jM g mX6_repeat [.inr (.inr (some (a0))), .inl (x1), .inl (x2), .inl (x3)] h mc ms Q := jM.of (by decide) (Nat.le_of_ble_eq_true rfl) (lv := [(0, .inr (.inr (some (a0)))), (1, .inl (x1)), (2, .inl (x2)), (3, .inl (x3))]) rfl (vX6_repeat_0 hv)
theorem dX7_init_0 : decode cX7_init 0 = .ok (.aload_n 0, 1) := by decide +kernel
theorem dX7_init_1 : decode cX7_init 1 = .ok (.invokespecial 1, 3) := by decide +kernel
theorem dX7_init_4 : decode cX7_init 4 = .ok (.aload_n 0, 1) := by decide +kernel
theorem dX7_init_5 : decode cX7_init 5 = .ok (.iload_n 1, 1) := by decide +kernel
theorem dX7_init_6 : decode cX7_init 6 = .ok (.putfield 7, 3) := by decide +kernel
theorem dX7_init_9 : decode cX7_init 9 = .ok (.aload_n 0, 1) := by decide +kernel
theorem dX7_init_10 : decode cX7_init 10 = .ok (.iload_n 2, 1) := by decide +kernel
theorem dX7_init_11 : decode cX7_init 11 = .ok (.putfield 13, 3) := by decide +kernel
theorem dX7_init_14 : decode cX7_init 14 = .ok (.aload_n 0, 1) := by decide +kernel
theorem dX7_init_15 : decode cX7_init 15 = .ok (.iload_n 3, 1) := by decide +kernel
theorem dX7_init_16 : decode cX7_init 16 = .ok (.putfield 16, 3) := by decide +kernel
theorem dX7_init_19 : decode cX7_init 19 = .ok (.aload_n 0, 1) := by decide +kernel
theorem dX7_init_20 : decode cX7_init 20 = .ok (.iload_n 2, 1) := by decide +kernel
theorem dX7_init_21 : decode cX7_init 21 = .ok (.putfield 20, 3) := by decide +kernel
theorem dX7_init_24 : decode cX7_init 24 = .ok (.aload_n 0, 1) := by decide +kernel
theorem dX7_init_25 : decode cX7_init 25 = .ok (.lconst 0, 1) := by decide +kernel
theorem dX7_init_26 : decode cX7_init 26 = .ok (.putfield 23, 3) := by decide +kernel
theorem dX7_init_29 : decode cX7_init 29 = .ok (.return_, 1) := by decide +kernel
def VX7_init_0 (g : jg) (a0 : Nat) (x1 : Int32) (x2 : Int32) (x3 : Int32) (h : jh) (k n : Nat) (Q : jq) : Prop := (jt h a0 = 6) ∧ ∀ h2 : jh, h2 = jsi h 320 a0 (x1) → ∀ h4 : jh, h4 = jsi h2 321 a0 (x2) → ((x3) = 0 ∨ (x3) = 1) ∧ ∀ h7 : jh, h7 = jsi h4 322 a0 (x3) → ∀ h9 : jh, h9 = jsi h7 323 a0 (x2) → ∀ h11 : jh, h11 = jsl h9 324 a0 (0) → Q (.inl none) h11
set_option maxRecDepth 20000 in
theorem vX7_init_0 {g : jg} {a0 : Nat} {x1 : Int32} {x2 : Int32} {x3 : Int32} {h : jh} {k n : Nat} {Q : jq} (hv : VX7_init_0 g a0 x1 x2 x3 h k n Q) : jG g mX7_init 0 [(0, .inr (.inr (some (a0)))), (1, .inl (x1)), (2, .inl (x2)), (3, .inl (x3))] [] h k n Q := by
  unfold VX7_init_0 at hv
  refine jg_aload_n dX7_init_0 rfl (List.Mem.head _) ?_
  refine jg_objInit dX7_init_1 jsn ol_X7_init oi_i oi_c (by decide) (by decide) ?_
  refine jg_aload_n dX7_init_4 rfl (List.Mem.head _) ?_
  refine jg_iload_n dX7_init_5 rfl (List.Mem.tail _ (List.Mem.head _)) ?_
  obtain ⟨f1, hv⟩ := hv
  obtain ⟨h2, e3⟩ : ∃ z : jh, z = jsi h 320 a0 (x1) := ⟨_, rfl⟩
  replace hv := hv h2 e3
  refine jp_puti dX7_init_6 (jfp.fin fl_RX7_7 (fun q hq => by cases hq; exact ⟨rfl, rfl⟩) rfl) rfl jsn f1 e3 ?_
  refine jg_aload_n dX7_init_9 rfl (List.Mem.head _) ?_
  refine jg_iload_n dX7_init_10 rfl (List.Mem.tail _ (List.Mem.tail _ (List.Mem.head _))) ?_
  obtain ⟨h4, e5⟩ : ∃ z : jh, z = jsi h2 321 a0 (x2) := ⟨_, rfl⟩
  replace hv := hv h4 e5
  refine jp_puti dX7_init_11 (jfp.fin fl_RX7_13 (fun q hq => by cases hq; exact ⟨rfl, rfl⟩) rfl) rfl jsn ((congrArg (fun z => jt z a0) e3).trans f1) e5 ?_
  refine jg_aload_n dX7_init_14 rfl (List.Mem.head _) ?_
  refine jg_iload_n dX7_init_15 rfl (List.Mem.tail _ (List.Mem.tail _ (List.Mem.tail _ (List.Mem.head _)))) ?_
  obtain ⟨f6, hv⟩ := hv
  obtain ⟨h7, e8⟩ : ∃ z : jh, z = jsi h4 322 a0 (x3) := ⟨_, rfl⟩
  replace hv := hv h7 e8
  refine jp_putz dX7_init_16 (jfp.fin fl_RX7_16 (fun q hq => by cases hq; exact ⟨rfl, rfl⟩) rfl) rfl jsn ((congrArg (fun z => jt z a0) e5).trans ((congrArg (fun z => jt z a0) e3).trans f1)) f6 e8 ?_
  refine jg_aload_n dX7_init_19 rfl (List.Mem.head _) ?_
  refine jg_iload_n dX7_init_20 rfl (List.Mem.tail _ (List.Mem.tail _ (List.Mem.head _))) ?_
  obtain ⟨h9, e10⟩ : ∃ z : jh, z = jsi h7 323 a0 (x2) := ⟨_, rfl⟩
  replace hv := hv h9 e10
  refine jp_puti dX7_init_21 (jfp.nf fl_RX7_20 (fun q hq => by cases hq; rfl)) rfl jsn ((congrArg (fun z => jt z a0) e8).trans ((congrArg (fun z => jt z a0) e5).trans ((congrArg (fun z => jt z a0) e3).trans f1))) e10 ?_
  refine jg_aload_n dX7_init_24 rfl (List.Mem.head _) ?_
  refine jg_lconst (v := 0) dX7_init_25 (by decide) ?_
  obtain ⟨h11, e12⟩ : ∃ z : jh, z = jsl h9 324 a0 (0) := ⟨_, rfl⟩
  replace hv := hv h11 e12
  refine jp_putl dX7_init_26 (jfp.nf fl_RX7_23 (fun q hq => by cases hq; rfl)) rfl jsn ((congrArg (fun z => jt z a0) e10).trans ((congrArg (fun z => jt z a0) e8).trans ((congrArg (fun z => jt z a0) e5).trans ((congrArg (fun z => jt z a0) e3).trans f1)))) e12 ?_
  exact jg_vret dX7_init_29 rfl hv
theorem eX7_init {g : jg} {a0 : Nat} {x1 : Int32} {x2 : Int32} {x3 : Int32} {h : jh} {mc ms : Nat} {Q : jq} (hv : VX7_init_0 g a0 x1 x2 x3 h mc ms Q) : jM g mX7_init [.inr (.inr (some (a0))), .inl (x1), .inl (x2), .inl (x3)] h mc ms Q := jM.of (by decide) (Nat.le_of_ble_eq_true rfl) (lv := [(0, .inr (.inr (some (a0)))), (1, .inl (x1)), (2, .inl (x2)), (3, .inl (x3))]) rfl (vX7_init_0 hv)
