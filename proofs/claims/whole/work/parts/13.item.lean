/-! what the code asks, by program: X1_isNumeric X1_isLevel X1_isUsage X1_isClause X1_bytesOf X0_isNumber X0_isInner X0_lies X0_isBelow X0_liesInRedefining X0_tablesWithin X0_tableOutwards X0_length X0_lengthNow X0_extent X0_init -/
theorem dX1_isNumeric_0 : decode cX1_isNumeric 0 = .ok (.iload_n 0, 1) := by decide +kernel
theorem dX1_isNumeric_1 : decode cX1_isNumeric 1 = .ok (.iconst 3, 1) := by decide +kernel
theorem dX1_isNumeric_2 : decode cX1_isNumeric 2 = .ok (.if_icmp .lt 13, 3) := by decide +kernel
theorem dX1_isNumeric_5 : decode cX1_isNumeric 5 = .ok (.iload_n 0, 1) := by decide +kernel
theorem dX1_isNumeric_6 : decode cX1_isNumeric 6 = .ok (.bipush 8, 2) := by decide +kernel
theorem dX1_isNumeric_8 : decode cX1_isNumeric 8 = .ok (.if_icmp .gt 7, 3) := by decide +kernel
theorem dX1_isNumeric_11 : decode cX1_isNumeric 11 = .ok (.iconst 1, 1) := by decide +kernel
theorem dX1_isNumeric_12 : decode cX1_isNumeric 12 = .ok (.goto 4, 3) := by decide +kernel
theorem dX1_isNumeric_15 : decode cX1_isNumeric 15 = .ok (.iconst 0, 1) := by decide +kernel
theorem dX1_isNumeric_16 : decode cX1_isNumeric 16 = .ok (.ireturn, 1) := by decide +kernel
def VX1_isNumeric_0 (g : jg) (x0 : Int32) (h : jh) (k n : Nat) (Q : jq) : Prop := (((x0) < (3) → Q (.inl (some (.inl (0)))) h) ∧ (¬ (x0) < (3) → (((8 : Int32) < (x0) → Q (.inl (some (.inl (0)))) h) ∧ (¬ (8 : Int32) < (x0) → Q (.inl (some (.inl (1)))) h))))
set_option maxRecDepth 20000 in
theorem vX1_isNumeric_0 {g : jg} {x0 : Int32} {h : jh} {k n : Nat} {Q : jq} (hv : VX1_isNumeric_0 g x0 h k n Q) : jG g mX1_isNumeric 0 [(0, .inl (x0))] [] h k n Q := by
  unfold VX1_isNumeric_0 at hv
  refine jg_iload_n dX1_isNumeric_0 rfl (List.Mem.head _) ?_
  refine jg_iconst (v := 3) dX1_isNumeric_1 (by decide) ?_
  refine jg_icmp_lt (tgt := 15) dX1_isNumeric_2 (by decide) (fun c1 => ?_) (fun c1 => ?_)
  · replace hv := hv.1 c1
    refine jg_iconst (v := 0) dX1_isNumeric_15 (by decide) ?_
    exact jg_bret dX1_isNumeric_16 rfl (by decide) hv
  · replace hv := hv.2 c1
    refine jg_iload_n dX1_isNumeric_5 rfl (List.Mem.head _) ?_
    refine jg_bipush (v := 8) dX1_isNumeric_6 (by decide) ?_
    refine jg_icmp_gt (tgt := 15) dX1_isNumeric_8 (by decide) (fun c2 => ?_) (fun c2 => ?_)
    · replace hv := hv.1 c2
      refine jg_iconst (v := 0) dX1_isNumeric_15 (by decide) ?_
      exact jg_bret dX1_isNumeric_16 rfl (by decide) hv
    · replace hv := hv.2 c2
      refine jg_iconst (v := 1) dX1_isNumeric_11 (by decide) ?_
      refine jg_goto (tgt := 16) dX1_isNumeric_12 (by decide) ?_
      exact jg_bret dX1_isNumeric_16 rfl (by decide) hv
theorem eX1_isNumeric {g : jg} {x0 : Int32} {h : jh} {mc ms : Nat} {Q : jq} (hv : VX1_isNumeric_0 g x0 h mc ms Q) : jM g mX1_isNumeric [.inl (x0)] h mc ms Q := jM.of (by decide) (Nat.le_of_ble_eq_true rfl) (lv := [(0, .inl (x0))]) rfl (vX1_isNumeric_0 hv)
theorem dX1_isLevel_0 : decode cX1_isLevel 0 = .ok (.iload_n 0, 1) := by decide +kernel
theorem dX1_isLevel_1 : decode cX1_isLevel 1 = .ok (.iconst 1, 1) := by decide +kernel
theorem dX1_isLevel_2 : decode cX1_isLevel 2 = .ok (.if_icmp .lt 9, 3) := by decide +kernel
theorem dX1_isLevel_5 : decode cX1_isLevel 5 = .ok (.iload_n 0, 1) := by decide +kernel
theorem dX1_isLevel_6 : decode cX1_isLevel 6 = .ok (.bipush 49, 2) := by decide +kernel
theorem dX1_isLevel_8 : decode cX1_isLevel 8 = .ok (.if_icmp .le 21, 3) := by decide +kernel
theorem dX1_isLevel_11 : decode cX1_isLevel 11 = .ok (.iload_n 0, 1) := by decide +kernel
theorem dX1_isLevel_12 : decode cX1_isLevel 12 = .ok (.bipush 66, 2) := by decide +kernel
theorem dX1_isLevel_14 : decode cX1_isLevel 14 = .ok (.if_icmp .eq 15, 3) := by decide +kernel
theorem dX1_isLevel_17 : decode cX1_isLevel 17 = .ok (.iload_n 0, 1) := by decide +kernel
theorem dX1_isLevel_18 : decode cX1_isLevel 18 = .ok (.bipush 77, 2) := by decide +kernel
theorem dX1_isLevel_20 : decode cX1_isLevel 20 = .ok (.if_icmp .eq 9, 3) := by decide +kernel
theorem dX1_isLevel_23 : decode cX1_isLevel 23 = .ok (.iload_n 0, 1) := by decide +kernel
theorem dX1_isLevel_24 : decode cX1_isLevel 24 = .ok (.bipush 88, 2) := by decide +kernel
theorem dX1_isLevel_26 : decode cX1_isLevel 26 = .ok (.if_icmp .ne 7, 3) := by decide +kernel
theorem dX1_isLevel_29 : decode cX1_isLevel 29 = .ok (.iconst 1, 1) := by decide +kernel
theorem dX1_isLevel_30 : decode cX1_isLevel 30 = .ok (.goto 4, 3) := by decide +kernel
theorem dX1_isLevel_33 : decode cX1_isLevel 33 = .ok (.iconst 0, 1) := by decide +kernel
theorem dX1_isLevel_34 : decode cX1_isLevel 34 = .ok (.ireturn, 1) := by decide +kernel
def VX1_isLevel_11 (g : jg) (x0 : Int32) (h : jh) (k n : Nat) (Q : jq) : Prop := (((x0) = (66) → Q (.inl (some (.inl (1)))) h) ∧ (¬ (x0) = (66) → (((x0) = (77) → Q (.inl (some (.inl (1)))) h) ∧ (¬ (x0) = (77) → ((¬ (x0) = (88) → Q (.inl (some (.inl (0)))) h) ∧ ((x0) = (88) → Q (.inl (some (.inl (1)))) h))))))
set_option maxRecDepth 20000 in
theorem vX1_isLevel_11 {g : jg} {x0 : Int32} {h : jh} {k n : Nat} {Q : jq} (hv : VX1_isLevel_11 g x0 h k n Q) : jG g mX1_isLevel 11 [(0, .inl (x0))] [] h k n Q := by
  unfold VX1_isLevel_11 at hv
  refine jg_iload_n dX1_isLevel_11 rfl (List.Mem.head _) ?_
  refine jg_bipush (v := 66) dX1_isLevel_12 (by decide) ?_
  refine jg_icmp_eq (tgt := 29) dX1_isLevel_14 (by decide) (fun c1 => ?_) (fun c1 => ?_)
  · replace hv := hv.1 c1
    refine jg_iconst (v := 1) dX1_isLevel_29 (by decide) ?_
    refine jg_goto (tgt := 34) dX1_isLevel_30 (by decide) ?_
    exact jg_bret dX1_isLevel_34 rfl (by decide) hv
  · replace hv := hv.2 c1
    refine jg_iload_n dX1_isLevel_17 rfl (List.Mem.head _) ?_
    refine jg_bipush (v := 77) dX1_isLevel_18 (by decide) ?_
    refine jg_icmp_eq (tgt := 29) dX1_isLevel_20 (by decide) (fun c2 => ?_) (fun c2 => ?_)
    · replace hv := hv.1 c2
      refine jg_iconst (v := 1) dX1_isLevel_29 (by decide) ?_
      refine jg_goto (tgt := 34) dX1_isLevel_30 (by decide) ?_
      exact jg_bret dX1_isLevel_34 rfl (by decide) hv
    · replace hv := hv.2 c2
      refine jg_iload_n dX1_isLevel_23 rfl (List.Mem.head _) ?_
      refine jg_bipush (v := 88) dX1_isLevel_24 (by decide) ?_
      refine jg_icmp_ne (tgt := 33) dX1_isLevel_26 (by decide) (fun c3 => ?_) (fun c3 => ?_)
      · replace hv := hv.1 c3
        refine jg_iconst (v := 0) dX1_isLevel_33 (by decide) ?_
        exact jg_bret dX1_isLevel_34 rfl (by decide) hv
      · replace hv := hv.2 c3
        refine jg_iconst (v := 1) dX1_isLevel_29 (by decide) ?_
        refine jg_goto (tgt := 34) dX1_isLevel_30 (by decide) ?_
        exact jg_bret dX1_isLevel_34 rfl (by decide) hv
def VX1_isLevel_0 (g : jg) (x0 : Int32) (h : jh) (k n : Nat) (Q : jq) : Prop := (((x0) < (1) → VX1_isLevel_11 g (x0) h k n Q) ∧ (¬ (x0) < (1) → (((x0) ≤ (49) → Q (.inl (some (.inl (1)))) h) ∧ (¬ (x0) ≤ (49) → VX1_isLevel_11 g (x0) h k n Q))))
set_option maxRecDepth 20000 in
theorem vX1_isLevel_0 {g : jg} {x0 : Int32} {h : jh} {k n : Nat} {Q : jq} (hv : VX1_isLevel_0 g x0 h k n Q) : jG g mX1_isLevel 0 [(0, .inl (x0))] [] h k n Q := by
  unfold VX1_isLevel_0 at hv
  refine jg_iload_n dX1_isLevel_0 rfl (List.Mem.head _) ?_
  refine jg_iconst (v := 1) dX1_isLevel_1 (by decide) ?_
  refine jg_icmp_lt (tgt := 11) dX1_isLevel_2 (by decide) (fun c4 => ?_) (fun c4 => ?_)
  · replace hv := hv.1 c4
    exact vX1_isLevel_11 hv
  · replace hv := hv.2 c4
    refine jg_iload_n dX1_isLevel_5 rfl (List.Mem.head _) ?_
    refine jg_bipush (v := 49) dX1_isLevel_6 (by decide) ?_
    refine jg_icmp_le (tgt := 29) dX1_isLevel_8 (by decide) (fun c5 => ?_) (fun c5 => ?_)
    · replace hv := hv.1 c5
      refine jg_iconst (v := 1) dX1_isLevel_29 (by decide) ?_
      refine jg_goto (tgt := 34) dX1_isLevel_30 (by decide) ?_
      exact jg_bret dX1_isLevel_34 rfl (by decide) hv
    · replace hv := hv.2 c5
      exact vX1_isLevel_11 hv
theorem eX1_isLevel {g : jg} {x0 : Int32} {h : jh} {mc ms : Nat} {Q : jq} (hv : VX1_isLevel_0 g x0 h mc ms Q) : jM g mX1_isLevel [.inl (x0)] h mc ms Q := jM.of (by decide) (Nat.le_of_ble_eq_true rfl) (lv := [(0, .inl (x0))]) rfl (vX1_isLevel_0 hv)
theorem dX1_isUsage_0 : decode cX1_isUsage 0 = .ok (.iload_n 0, 1) := by decide +kernel
theorem dX1_isUsage_1 : decode cX1_isUsage 1 = .ok (.bipush 66, 2) := by decide +kernel
theorem dX1_isUsage_3 : decode cX1_isUsage 3 = .ok (.if_icmp .eq 9, 3) := by decide +kernel
theorem dX1_isUsage_6 : decode cX1_isUsage 6 = .ok (.iload_n 0, 1) := by decide +kernel
theorem dX1_isUsage_7 : decode cX1_isUsage 7 = .ok (.bipush 88, 2) := by decide +kernel
theorem dX1_isUsage_9 : decode cX1_isUsage 9 = .ok (.if_icmp .ne 17, 3) := by decide +kernel
theorem dX1_isUsage_12 : decode cX1_isUsage 12 = .ok (.iload_n 1, 1) := by decide +kernel
theorem dX1_isUsage_13 : decode cX1_isUsage 13 = .ok (.ifCond .ne 11, 3) := by decide +kernel
theorem dX1_isUsage_16 : decode cX1_isUsage 16 = .ok (.iload_n 2, 1) := by decide +kernel
theorem dX1_isUsage_17 : decode cX1_isUsage 17 = .ok (.ifCond .ne 7, 3) := by decide +kernel
theorem dX1_isUsage_20 : decode cX1_isUsage 20 = .ok (.iconst 1, 1) := by decide +kernel
theorem dX1_isUsage_21 : decode cX1_isUsage 21 = .ok (.goto 4, 3) := by decide +kernel
theorem dX1_isUsage_24 : decode cX1_isUsage 24 = .ok (.iconst 0, 1) := by decide +kernel
theorem dX1_isUsage_25 : decode cX1_isUsage 25 = .ok (.ireturn, 1) := by decide +kernel
theorem dX1_isUsage_26 : decode cX1_isUsage 26 = .ok (.iload_n 1, 1) := by decide +kernel
theorem dX1_isUsage_27 : decode cX1_isUsage 27 = .ok (.tableswitch 106 0 11 #[96, 61, 79, 106, 106, 106, 106, 106, 106, 96, 96, 96], 61) := by decide +kernel
theorem dX1_isUsage_88 : decode cX1_isUsage 88 = .ok (.iload_n 2, 1) := by decide +kernel
theorem dX1_isUsage_89 : decode cX1_isUsage 89 = .ok (.iconst 1, 1) := by decide +kernel
theorem dX1_isUsage_90 : decode cX1_isUsage 90 = .ok (.if_icmp .lt 14, 3) := by decide +kernel
theorem dX1_isUsage_93 : decode cX1_isUsage 93 = .ok (.iload_n 2, 1) := by decide +kernel
theorem dX1_isUsage_94 : decode cX1_isUsage 94 = .ok (.sipush 200, 3) := by decide +kernel
theorem dX1_isUsage_97 : decode cX1_isUsage 97 = .ok (.if_icmp .gt 7, 3) := by decide +kernel
theorem dX1_isUsage_100 : decode cX1_isUsage 100 = .ok (.iconst 1, 1) := by decide +kernel
theorem dX1_isUsage_101 : decode cX1_isUsage 101 = .ok (.goto 4, 3) := by decide +kernel
theorem dX1_isUsage_104 : decode cX1_isUsage 104 = .ok (.iconst 0, 1) := by decide +kernel
theorem dX1_isUsage_105 : decode cX1_isUsage 105 = .ok (.ireturn, 1) := by decide +kernel
theorem dX1_isUsage_106 : decode cX1_isUsage 106 = .ok (.iload_n 2, 1) := by decide +kernel
theorem dX1_isUsage_107 : decode cX1_isUsage 107 = .ok (.iconst 1, 1) := by decide +kernel
theorem dX1_isUsage_108 : decode cX1_isUsage 108 = .ok (.if_icmp .lt 13, 3) := by decide +kernel
theorem dX1_isUsage_111 : decode cX1_isUsage 111 = .ok (.iload_n 2, 1) := by decide +kernel
theorem dX1_isUsage_112 : decode cX1_isUsage 112 = .ok (.bipush 100, 2) := by decide +kernel
theorem dX1_isUsage_114 : decode cX1_isUsage 114 = .ok (.if_icmp .gt 7, 3) := by decide +kernel
theorem dX1_isUsage_117 : decode cX1_isUsage 117 = .ok (.iconst 1, 1) := by decide +kernel
theorem dX1_isUsage_118 : decode cX1_isUsage 118 = .ok (.goto 4, 3) := by decide +kernel
theorem dX1_isUsage_121 : decode cX1_isUsage 121 = .ok (.iconst 0, 1) := by decide +kernel
theorem dX1_isUsage_122 : decode cX1_isUsage 122 = .ok (.ireturn, 1) := by decide +kernel
theorem dX1_isUsage_123 : decode cX1_isUsage 123 = .ok (.iload_n 2, 1) := by decide +kernel
theorem dX1_isUsage_124 : decode cX1_isUsage 124 = .ok (.ifCond .ne 7, 3) := by decide +kernel
theorem dX1_isUsage_127 : decode cX1_isUsage 127 = .ok (.iconst 1, 1) := by decide +kernel
theorem dX1_isUsage_128 : decode cX1_isUsage 128 = .ok (.goto 4, 3) := by decide +kernel
theorem dX1_isUsage_131 : decode cX1_isUsage 131 = .ok (.iconst 0, 1) := by decide +kernel
theorem dX1_isUsage_132 : decode cX1_isUsage 132 = .ok (.ireturn, 1) := by decide +kernel
theorem dX1_isUsage_133 : decode cX1_isUsage 133 = .ok (.iload_n 1, 1) := by decide +kernel
theorem dX1_isUsage_134 : decode cX1_isUsage 134 = .ok (.invokestatic 9, 3) := by decide +kernel
theorem dX1_isUsage_137 : decode cX1_isUsage 137 = .ok (.ifCond .eq 18, 3) := by decide +kernel
theorem dX1_isUsage_140 : decode cX1_isUsage 140 = .ok (.iload_n 2, 1) := by decide +kernel
theorem dX1_isUsage_141 : decode cX1_isUsage 141 = .ok (.iconst 1, 1) := by decide +kernel
theorem dX1_isUsage_142 : decode cX1_isUsage 142 = .ok (.if_icmp .lt 13, 3) := by decide +kernel
theorem dX1_isUsage_145 : decode cX1_isUsage 145 = .ok (.iload_n 2, 1) := by decide +kernel
theorem dX1_isUsage_146 : decode cX1_isUsage 146 = .ok (.bipush 18, 2) := by decide +kernel
theorem dX1_isUsage_148 : decode cX1_isUsage 148 = .ok (.if_icmp .gt 7, 3) := by decide +kernel
theorem dX1_isUsage_151 : decode cX1_isUsage 151 = .ok (.iconst 1, 1) := by decide +kernel
theorem dX1_isUsage_152 : decode cX1_isUsage 152 = .ok (.goto 4, 3) := by decide +kernel
theorem dX1_isUsage_155 : decode cX1_isUsage 155 = .ok (.iconst 0, 1) := by decide +kernel
theorem dX1_isUsage_156 : decode cX1_isUsage 156 = .ok (.ireturn, 1) := by decide +kernel
def VX1_isUsage_12 (g : jg) (x1 : Int32) (x2 : Int32) (h : jh) (k n : Nat) (Q : jq) : Prop := ((¬ (x1) = 0 → Q (.inl (some (.inl (0)))) h) ∧ ((x1) = 0 → ((¬ (x2) = 0 → Q (.inl (some (.inl (0)))) h) ∧ ((x2) = 0 → Q (.inl (some (.inl (1)))) h))))
set_option maxRecDepth 20000 in
theorem vX1_isUsage_12 {g : jg} {x1 : Int32} {x2 : Int32} {h : jh} {k n : Nat} {Q : jq} (hv : VX1_isUsage_12 g x1 x2 h k n Q) : jG g mX1_isUsage 12 [(1, .inl (x1)), (2, .inl (x2))] [] h k n Q := by
  unfold VX1_isUsage_12 at hv
  refine jg_iload_n dX1_isUsage_12 rfl (List.Mem.head _) ?_
  refine jg_if_ne (tgt := 24) dX1_isUsage_13 (by decide) (fun c1 => ?_) (fun c1 => ?_)
  · replace hv := hv.1 c1
    refine jg_iconst (v := 0) dX1_isUsage_24 (by decide) ?_
    exact jg_bret dX1_isUsage_25 rfl (by decide) hv
  · replace hv := hv.2 c1
    refine jg_iload_n dX1_isUsage_16 rfl (List.Mem.tail _ (List.Mem.head _)) ?_
    refine jg_if_ne (tgt := 24) dX1_isUsage_17 (by decide) (fun c2 => ?_) (fun c2 => ?_)
    · replace hv := hv.1 c2
      refine jg_iconst (v := 0) dX1_isUsage_24 (by decide) ?_
      exact jg_bret dX1_isUsage_25 rfl (by decide) hv
    · replace hv := hv.2 c2
      refine jg_iconst (v := 1) dX1_isUsage_20 (by decide) ?_
      refine jg_goto (tgt := 25) dX1_isUsage_21 (by decide) ?_
      exact jg_bret dX1_isUsage_25 rfl (by decide) hv
def VX1_isUsage_0 (g : jg) (x0 : Int32) (x1 : Int32) (x2 : Int32) (h : jh) (k n : Nat) (Q : jq) : Prop := (((x0) = (66) → VX1_isUsage_12 g (x1) (x2) h k n Q) ∧ (¬ (x0) = (66) → ((¬ (x0) = (88) → (((x1) = 0 → ((¬ (x2) = 0 → Q (.inl (some (.inl (0)))) h) ∧ ((x2) = 0 → Q (.inl (some (.inl (1)))) h))) ∧ ((x1) = 1 → (((x2) < (1) → Q (.inl (some (.inl (0)))) h) ∧ (¬ (x2) < (1) → (((200 : Int32) < (x2) → Q (.inl (some (.inl (0)))) h) ∧ (¬ (200 : Int32) < (x2) → Q (.inl (some (.inl (1)))) h))))) ∧ ((x1) = 2 → (((x2) < (1) → Q (.inl (some (.inl (0)))) h) ∧ (¬ (x2) < (1) → (((100 : Int32) < (x2) → Q (.inl (some (.inl (0)))) h) ∧ (¬ (100 : Int32) < (x2) → Q (.inl (some (.inl (1)))) h))))) ∧ ((x1) = 3 → jM g mX1_isNumeric [.inl (x1)] h 0 0 (jki (fun (r14 : Int32) (h15 : jh) => (((r14) = 0 → Q (.inl (some (.inl (0)))) h15) ∧ (¬ (r14) = 0 → (((x2) < (1) → Q (.inl (some (.inl (0)))) h15) ∧ (¬ (x2) < (1) → (((18 : Int32) < (x2) → Q (.inl (some (.inl (0)))) h15) ∧ (¬ (18 : Int32) < (x2) → Q (.inl (some (.inl (1)))) h15))))))) (fun e h9 => Q (.inr e) h9))) ∧ ((x1) = 4 → jM g mX1_isNumeric [.inl (x1)] h 0 0 (jki (fun (r20 : Int32) (h21 : jh) => (((r20) = 0 → Q (.inl (some (.inl (0)))) h21) ∧ (¬ (r20) = 0 → (((x2) < (1) → Q (.inl (some (.inl (0)))) h21) ∧ (¬ (x2) < (1) → (((18 : Int32) < (x2) → Q (.inl (some (.inl (0)))) h21) ∧ (¬ (18 : Int32) < (x2) → Q (.inl (some (.inl (1)))) h21))))))) (fun e h9 => Q (.inr e) h9))) ∧ ((x1) = 5 → jM g mX1_isNumeric [.inl (x1)] h 0 0 (jki (fun (r26 : Int32) (h27 : jh) => (((r26) = 0 → Q (.inl (some (.inl (0)))) h27) ∧ (¬ (r26) = 0 → (((x2) < (1) → Q (.inl (some (.inl (0)))) h27) ∧ (¬ (x2) < (1) → (((18 : Int32) < (x2) → Q (.inl (some (.inl (0)))) h27) ∧ (¬ (18 : Int32) < (x2) → Q (.inl (some (.inl (1)))) h27))))))) (fun e h9 => Q (.inr e) h9))) ∧ ((x1) = 6 → jM g mX1_isNumeric [.inl (x1)] h 0 0 (jki (fun (r32 : Int32) (h33 : jh) => (((r32) = 0 → Q (.inl (some (.inl (0)))) h33) ∧ (¬ (r32) = 0 → (((x2) < (1) → Q (.inl (some (.inl (0)))) h33) ∧ (¬ (x2) < (1) → (((18 : Int32) < (x2) → Q (.inl (some (.inl (0)))) h33) ∧ (¬ (18 : Int32) < (x2) → Q (.inl (some (.inl (1)))) h33))))))) (fun e h9 => Q (.inr e) h9))) ∧ ((x1) = 7 → jM g mX1_isNumeric [.inl (x1)] h 0 0 (jki (fun (r38 : Int32) (h39 : jh) => (((r38) = 0 → Q (.inl (some (.inl (0)))) h39) ∧ (¬ (r38) = 0 → (((x2) < (1) → Q (.inl (some (.inl (0)))) h39) ∧ (¬ (x2) < (1) → (((18 : Int32) < (x2) → Q (.inl (some (.inl (0)))) h39) ∧ (¬ (18 : Int32) < (x2) → Q (.inl (some (.inl (1)))) h39))))))) (fun e h9 => Q (.inr e) h9))) ∧ ((x1) = 8 → jM g mX1_isNumeric [.inl (x1)] h 0 0 (jki (fun (r44 : Int32) (h45 : jh) => (((r44) = 0 → Q (.inl (some (.inl (0)))) h45) ∧ (¬ (r44) = 0 → (((x2) < (1) → Q (.inl (some (.inl (0)))) h45) ∧ (¬ (x2) < (1) → (((18 : Int32) < (x2) → Q (.inl (some (.inl (0)))) h45) ∧ (¬ (18 : Int32) < (x2) → Q (.inl (some (.inl (1)))) h45))))))) (fun e h9 => Q (.inr e) h9))) ∧ ((x1) = 9 → ((¬ (x2) = 0 → Q (.inl (some (.inl (0)))) h) ∧ ((x2) = 0 → Q (.inl (some (.inl (1)))) h))) ∧ ((x1) = 10 → ((¬ (x2) = 0 → Q (.inl (some (.inl (0)))) h) ∧ ((x2) = 0 → Q (.inl (some (.inl (1)))) h))) ∧ ((x1) = 11 → ((¬ (x2) = 0 → Q (.inl (some (.inl (0)))) h) ∧ ((x2) = 0 → Q (.inl (some (.inl (1)))) h))) ∧ ((x1 : Int32).toInt < 0 ∨ 11 < (x1 : Int32).toInt → jM g mX1_isNumeric [.inl (x1)] h 0 0 (jki (fun (r55 : Int32) (h56 : jh) => (((r55) = 0 → Q (.inl (some (.inl (0)))) h56) ∧ (¬ (r55) = 0 → (((x2) < (1) → Q (.inl (some (.inl (0)))) h56) ∧ (¬ (x2) < (1) → (((18 : Int32) < (x2) → Q (.inl (some (.inl (0)))) h56) ∧ (¬ (18 : Int32) < (x2) → Q (.inl (some (.inl (1)))) h56))))))) (fun e h9 => Q (.inr e) h9))))) ∧ ((x0) = (88) → VX1_isUsage_12 g (x1) (x2) h k n Q))))
set_option maxRecDepth 20000 in
theorem vX1_isUsage_0 {g : jg} {x0 : Int32} {x1 : Int32} {x2 : Int32} {h : jh} {k n : Nat} {Q : jq} (hv : VX1_isUsage_0 g x0 x1 x2 h k n Q) : jG g mX1_isUsage 0 [(0, .inl (x0)), (1, .inl (x1)), (2, .inl (x2))] [] h k n Q := by
  unfold VX1_isUsage_0 at hv
  refine jg_iload_n dX1_isUsage_0 rfl (List.Mem.head _) ?_
  refine jg_bipush (v := 66) dX1_isUsage_1 (by decide) ?_
  refine jg_icmp_eq (tgt := 12) dX1_isUsage_3 (by decide) (fun c3 => ?_) (fun c3 => ?_)
  · replace hv := hv.1 c3
    refine jG.sub (lv' := [(1, .inl (x1)), (2, .inl (x2))]) (by simp) ?_
    exact vX1_isUsage_12 hv
  · replace hv := hv.2 c3
    refine jg_iload_n dX1_isUsage_6 rfl (List.Mem.head _) ?_
    refine jg_bipush (v := 88) dX1_isUsage_7 (by decide) ?_
    refine jg_icmp_ne (tgt := 26) dX1_isUsage_9 (by decide) (fun c4 => ?_) (fun c4 => ?_)
    · replace hv := hv.1 c4
      refine jg_iload_n dX1_isUsage_26 rfl (List.Mem.tail _ (List.Mem.head _)) ?_
      by_cases c5 : (x1) = 0
      · replace hv := hv.1 c5
        refine jg_tsIn 0 0 (tgt := 123) dX1_isUsage_27 c5 (by decide) (by decide) rfl (by decide) ?_
        refine jg_iload_n dX1_isUsage_123 rfl (List.Mem.tail _ (List.Mem.tail _ (List.Mem.head _))) ?_
        refine jg_if_ne (tgt := 131) dX1_isUsage_124 (by decide) (fun c6 => ?_) (fun c6 => ?_)
        · replace hv := hv.1 c6
          refine jg_iconst (v := 0) dX1_isUsage_131 (by decide) ?_
          exact jg_bret dX1_isUsage_132 rfl (by decide) hv
        · replace hv := hv.2 c6
          refine jg_iconst (v := 1) dX1_isUsage_127 (by decide) ?_
          refine jg_goto (tgt := 132) dX1_isUsage_128 (by decide) ?_
          exact jg_bret dX1_isUsage_132 rfl (by decide) hv
      by_cases c7 : (x1) = 1
      · replace hv := hv.2.1 c7
        refine jg_tsIn 1 1 (tgt := 88) dX1_isUsage_27 c7 (by decide) (by decide) rfl (by decide) ?_
        refine jg_iload_n dX1_isUsage_88 rfl (List.Mem.tail _ (List.Mem.tail _ (List.Mem.head _))) ?_
        refine jg_iconst (v := 1) dX1_isUsage_89 (by decide) ?_
        refine jg_icmp_lt (tgt := 104) dX1_isUsage_90 (by decide) (fun c8 => ?_) (fun c8 => ?_)
        · replace hv := hv.1 c8
          refine jg_iconst (v := 0) dX1_isUsage_104 (by decide) ?_
          exact jg_bret dX1_isUsage_105 rfl (by decide) hv
        · replace hv := hv.2 c8
          refine jg_iload_n dX1_isUsage_93 rfl (List.Mem.tail _ (List.Mem.tail _ (List.Mem.head _))) ?_
          refine jg_sipush (v := 200) dX1_isUsage_94 (by decide) ?_
          refine jg_icmp_gt (tgt := 104) dX1_isUsage_97 (by decide) (fun c9 => ?_) (fun c9 => ?_)
          · replace hv := hv.1 c9
            refine jg_iconst (v := 0) dX1_isUsage_104 (by decide) ?_
            exact jg_bret dX1_isUsage_105 rfl (by decide) hv
          · replace hv := hv.2 c9
            refine jg_iconst (v := 1) dX1_isUsage_100 (by decide) ?_
            refine jg_goto (tgt := 105) dX1_isUsage_101 (by decide) ?_
            exact jg_bret dX1_isUsage_105 rfl (by decide) hv
      by_cases c10 : (x1) = 2
      · replace hv := hv.2.2.1 c10
        refine jg_tsIn 2 2 (tgt := 106) dX1_isUsage_27 c10 (by decide) (by decide) rfl (by decide) ?_
        refine jg_iload_n dX1_isUsage_106 rfl (List.Mem.tail _ (List.Mem.tail _ (List.Mem.head _))) ?_
        refine jg_iconst (v := 1) dX1_isUsage_107 (by decide) ?_
        refine jg_icmp_lt (tgt := 121) dX1_isUsage_108 (by decide) (fun c11 => ?_) (fun c11 => ?_)
        · replace hv := hv.1 c11
          refine jg_iconst (v := 0) dX1_isUsage_121 (by decide) ?_
          exact jg_bret dX1_isUsage_122 rfl (by decide) hv
        · replace hv := hv.2 c11
          refine jg_iload_n dX1_isUsage_111 rfl (List.Mem.tail _ (List.Mem.tail _ (List.Mem.head _))) ?_
          refine jg_bipush (v := 100) dX1_isUsage_112 (by decide) ?_
          refine jg_icmp_gt (tgt := 121) dX1_isUsage_114 (by decide) (fun c12 => ?_) (fun c12 => ?_)
          · replace hv := hv.1 c12
            refine jg_iconst (v := 0) dX1_isUsage_121 (by decide) ?_
            exact jg_bret dX1_isUsage_122 rfl (by decide) hv
          · replace hv := hv.2 c12
            refine jg_iconst (v := 1) dX1_isUsage_117 (by decide) ?_
            refine jg_goto (tgt := 122) dX1_isUsage_118 (by decide) ?_
            exact jg_bret dX1_isUsage_122 rfl (by decide) hv
      by_cases c13 : (x1) = 3
      · replace hv := hv.2.2.2.1 c13
        refine jg_tsIn 3 3 (tgt := 133) dX1_isUsage_27 c13 (by decide) (by decide) rfl (by decide) ?_
        refine jg_iload_n dX1_isUsage_133 rfl (List.Mem.tail _ (List.Mem.head _)) ?_
        refine jg_callS mX1_isNumeric [.inl (x1)] [] dX1_isUsage_134 rfl cl_RX1_9 ⟨⟨by decide, by decide⟩, by decide⟩ (Nat.zero_le _) (Nat.zero_le _) (jM.mono (jki_k (fun r14 h15 hv => ?_)) hv)
        refine jg_if_eq (tgt := 155) dX1_isUsage_137 (by decide) (fun c16 => ?_) (fun c16 => ?_)
        · replace hv := hv.1 c16
          refine jg_iconst (v := 0) dX1_isUsage_155 (by decide) ?_
          exact jg_bret dX1_isUsage_156 rfl (by decide) hv
        · replace hv := hv.2 c16
          refine jg_iload_n dX1_isUsage_140 rfl (List.Mem.tail _ (List.Mem.tail _ (List.Mem.head _))) ?_
          refine jg_iconst (v := 1) dX1_isUsage_141 (by decide) ?_
          refine jg_icmp_lt (tgt := 155) dX1_isUsage_142 (by decide) (fun c17 => ?_) (fun c17 => ?_)
          · replace hv := hv.1 c17
            refine jg_iconst (v := 0) dX1_isUsage_155 (by decide) ?_
            exact jg_bret dX1_isUsage_156 rfl (by decide) hv
          · replace hv := hv.2 c17
            refine jg_iload_n dX1_isUsage_145 rfl (List.Mem.tail _ (List.Mem.tail _ (List.Mem.head _))) ?_
            refine jg_bipush (v := 18) dX1_isUsage_146 (by decide) ?_
            refine jg_icmp_gt (tgt := 155) dX1_isUsage_148 (by decide) (fun c18 => ?_) (fun c18 => ?_)
            · replace hv := hv.1 c18
              refine jg_iconst (v := 0) dX1_isUsage_155 (by decide) ?_
              exact jg_bret dX1_isUsage_156 rfl (by decide) hv
            · replace hv := hv.2 c18
              refine jg_iconst (v := 1) dX1_isUsage_151 (by decide) ?_
              refine jg_goto (tgt := 156) dX1_isUsage_152 (by decide) ?_
              exact jg_bret dX1_isUsage_156 rfl (by decide) hv
      by_cases c19 : (x1) = 4
      · replace hv := hv.2.2.2.2.1 c19
        refine jg_tsIn 4 4 (tgt := 133) dX1_isUsage_27 c19 (by decide) (by decide) rfl (by decide) ?_
        refine jg_iload_n dX1_isUsage_133 rfl (List.Mem.tail _ (List.Mem.head _)) ?_
        refine jg_callS mX1_isNumeric [.inl (x1)] [] dX1_isUsage_134 rfl cl_RX1_9 ⟨⟨by decide, by decide⟩, by decide⟩ (Nat.zero_le _) (Nat.zero_le _) (jM.mono (jki_k (fun r20 h21 hv => ?_)) hv)
        refine jg_if_eq (tgt := 155) dX1_isUsage_137 (by decide) (fun c22 => ?_) (fun c22 => ?_)
        · replace hv := hv.1 c22
          refine jg_iconst (v := 0) dX1_isUsage_155 (by decide) ?_
          exact jg_bret dX1_isUsage_156 rfl (by decide) hv
        · replace hv := hv.2 c22
          refine jg_iload_n dX1_isUsage_140 rfl (List.Mem.tail _ (List.Mem.tail _ (List.Mem.head _))) ?_
          refine jg_iconst (v := 1) dX1_isUsage_141 (by decide) ?_
          refine jg_icmp_lt (tgt := 155) dX1_isUsage_142 (by decide) (fun c23 => ?_) (fun c23 => ?_)
          · replace hv := hv.1 c23
            refine jg_iconst (v := 0) dX1_isUsage_155 (by decide) ?_
            exact jg_bret dX1_isUsage_156 rfl (by decide) hv
          · replace hv := hv.2 c23
            refine jg_iload_n dX1_isUsage_145 rfl (List.Mem.tail _ (List.Mem.tail _ (List.Mem.head _))) ?_
            refine jg_bipush (v := 18) dX1_isUsage_146 (by decide) ?_
            refine jg_icmp_gt (tgt := 155) dX1_isUsage_148 (by decide) (fun c24 => ?_) (fun c24 => ?_)
            · replace hv := hv.1 c24
              refine jg_iconst (v := 0) dX1_isUsage_155 (by decide) ?_
              exact jg_bret dX1_isUsage_156 rfl (by decide) hv
            · replace hv := hv.2 c24
              refine jg_iconst (v := 1) dX1_isUsage_151 (by decide) ?_
              refine jg_goto (tgt := 156) dX1_isUsage_152 (by decide) ?_
              exact jg_bret dX1_isUsage_156 rfl (by decide) hv
      by_cases c25 : (x1) = 5
      · replace hv := hv.2.2.2.2.2.1 c25
        refine jg_tsIn 5 5 (tgt := 133) dX1_isUsage_27 c25 (by decide) (by decide) rfl (by decide) ?_
        refine jg_iload_n dX1_isUsage_133 rfl (List.Mem.tail _ (List.Mem.head _)) ?_
        refine jg_callS mX1_isNumeric [.inl (x1)] [] dX1_isUsage_134 rfl cl_RX1_9 ⟨⟨by decide, by decide⟩, by decide⟩ (Nat.zero_le _) (Nat.zero_le _) (jM.mono (jki_k (fun r26 h27 hv => ?_)) hv)
        refine jg_if_eq (tgt := 155) dX1_isUsage_137 (by decide) (fun c28 => ?_) (fun c28 => ?_)
        · replace hv := hv.1 c28
          refine jg_iconst (v := 0) dX1_isUsage_155 (by decide) ?_
          exact jg_bret dX1_isUsage_156 rfl (by decide) hv
        · replace hv := hv.2 c28
          refine jg_iload_n dX1_isUsage_140 rfl (List.Mem.tail _ (List.Mem.tail _ (List.Mem.head _))) ?_
          refine jg_iconst (v := 1) dX1_isUsage_141 (by decide) ?_
          refine jg_icmp_lt (tgt := 155) dX1_isUsage_142 (by decide) (fun c29 => ?_) (fun c29 => ?_)
          · replace hv := hv.1 c29
            refine jg_iconst (v := 0) dX1_isUsage_155 (by decide) ?_
            exact jg_bret dX1_isUsage_156 rfl (by decide) hv
          · replace hv := hv.2 c29
            refine jg_iload_n dX1_isUsage_145 rfl (List.Mem.tail _ (List.Mem.tail _ (List.Mem.head _))) ?_
            refine jg_bipush (v := 18) dX1_isUsage_146 (by decide) ?_
            refine jg_icmp_gt (tgt := 155) dX1_isUsage_148 (by decide) (fun c30 => ?_) (fun c30 => ?_)
            · replace hv := hv.1 c30
              refine jg_iconst (v := 0) dX1_isUsage_155 (by decide) ?_
              exact jg_bret dX1_isUsage_156 rfl (by decide) hv
            · replace hv := hv.2 c30
              refine jg_iconst (v := 1) dX1_isUsage_151 (by decide) ?_
              refine jg_goto (tgt := 156) dX1_isUsage_152 (by decide) ?_
              exact jg_bret dX1_isUsage_156 rfl (by decide) hv
      by_cases c31 : (x1) = 6
      · replace hv := hv.2.2.2.2.2.2.1 c31
        refine jg_tsIn 6 6 (tgt := 133) dX1_isUsage_27 c31 (by decide) (by decide) rfl (by decide) ?_
        refine jg_iload_n dX1_isUsage_133 rfl (List.Mem.tail _ (List.Mem.head _)) ?_
        refine jg_callS mX1_isNumeric [.inl (x1)] [] dX1_isUsage_134 rfl cl_RX1_9 ⟨⟨by decide, by decide⟩, by decide⟩ (Nat.zero_le _) (Nat.zero_le _) (jM.mono (jki_k (fun r32 h33 hv => ?_)) hv)
        refine jg_if_eq (tgt := 155) dX1_isUsage_137 (by decide) (fun c34 => ?_) (fun c34 => ?_)
        · replace hv := hv.1 c34
          refine jg_iconst (v := 0) dX1_isUsage_155 (by decide) ?_
          exact jg_bret dX1_isUsage_156 rfl (by decide) hv
        · replace hv := hv.2 c34
          refine jg_iload_n dX1_isUsage_140 rfl (List.Mem.tail _ (List.Mem.tail _ (List.Mem.head _))) ?_
          refine jg_iconst (v := 1) dX1_isUsage_141 (by decide) ?_
          refine jg_icmp_lt (tgt := 155) dX1_isUsage_142 (by decide) (fun c35 => ?_) (fun c35 => ?_)
          · replace hv := hv.1 c35
            refine jg_iconst (v := 0) dX1_isUsage_155 (by decide) ?_
            exact jg_bret dX1_isUsage_156 rfl (by decide) hv
          · replace hv := hv.2 c35
            refine jg_iload_n dX1_isUsage_145 rfl (List.Mem.tail _ (List.Mem.tail _ (List.Mem.head _))) ?_
            refine jg_bipush (v := 18) dX1_isUsage_146 (by decide) ?_
            refine jg_icmp_gt (tgt := 155) dX1_isUsage_148 (by decide) (fun c36 => ?_) (fun c36 => ?_)
            · replace hv := hv.1 c36
              refine jg_iconst (v := 0) dX1_isUsage_155 (by decide) ?_
              exact jg_bret dX1_isUsage_156 rfl (by decide) hv
            · replace hv := hv.2 c36
              refine jg_iconst (v := 1) dX1_isUsage_151 (by decide) ?_
              refine jg_goto (tgt := 156) dX1_isUsage_152 (by decide) ?_
              exact jg_bret dX1_isUsage_156 rfl (by decide) hv
      by_cases c37 : (x1) = 7
      · replace hv := hv.2.2.2.2.2.2.2.1 c37
        refine jg_tsIn 7 7 (tgt := 133) dX1_isUsage_27 c37 (by decide) (by decide) rfl (by decide) ?_
        refine jg_iload_n dX1_isUsage_133 rfl (List.Mem.tail _ (List.Mem.head _)) ?_
        refine jg_callS mX1_isNumeric [.inl (x1)] [] dX1_isUsage_134 rfl cl_RX1_9 ⟨⟨by decide, by decide⟩, by decide⟩ (Nat.zero_le _) (Nat.zero_le _) (jM.mono (jki_k (fun r38 h39 hv => ?_)) hv)
        refine jg_if_eq (tgt := 155) dX1_isUsage_137 (by decide) (fun c40 => ?_) (fun c40 => ?_)
        · replace hv := hv.1 c40
          refine jg_iconst (v := 0) dX1_isUsage_155 (by decide) ?_
          exact jg_bret dX1_isUsage_156 rfl (by decide) hv
        · replace hv := hv.2 c40
          refine jg_iload_n dX1_isUsage_140 rfl (List.Mem.tail _ (List.Mem.tail _ (List.Mem.head _))) ?_
          refine jg_iconst (v := 1) dX1_isUsage_141 (by decide) ?_
          refine jg_icmp_lt (tgt := 155) dX1_isUsage_142 (by decide) (fun c41 => ?_) (fun c41 => ?_)
          · replace hv := hv.1 c41
            refine jg_iconst (v := 0) dX1_isUsage_155 (by decide) ?_
            exact jg_bret dX1_isUsage_156 rfl (by decide) hv
          · replace hv := hv.2 c41
            refine jg_iload_n dX1_isUsage_145 rfl (List.Mem.tail _ (List.Mem.tail _ (List.Mem.head _))) ?_
            refine jg_bipush (v := 18) dX1_isUsage_146 (by decide) ?_
            refine jg_icmp_gt (tgt := 155) dX1_isUsage_148 (by decide) (fun c42 => ?_) (fun c42 => ?_)
            · replace hv := hv.1 c42
              refine jg_iconst (v := 0) dX1_isUsage_155 (by decide) ?_
              exact jg_bret dX1_isUsage_156 rfl (by decide) hv
            · replace hv := hv.2 c42
              refine jg_iconst (v := 1) dX1_isUsage_151 (by decide) ?_
              refine jg_goto (tgt := 156) dX1_isUsage_152 (by decide) ?_
              exact jg_bret dX1_isUsage_156 rfl (by decide) hv
      by_cases c43 : (x1) = 8
      · replace hv := hv.2.2.2.2.2.2.2.2.1 c43
        refine jg_tsIn 8 8 (tgt := 133) dX1_isUsage_27 c43 (by decide) (by decide) rfl (by decide) ?_
        refine jg_iload_n dX1_isUsage_133 rfl (List.Mem.tail _ (List.Mem.head _)) ?_
        refine jg_callS mX1_isNumeric [.inl (x1)] [] dX1_isUsage_134 rfl cl_RX1_9 ⟨⟨by decide, by decide⟩, by decide⟩ (Nat.zero_le _) (Nat.zero_le _) (jM.mono (jki_k (fun r44 h45 hv => ?_)) hv)
        refine jg_if_eq (tgt := 155) dX1_isUsage_137 (by decide) (fun c46 => ?_) (fun c46 => ?_)
        · replace hv := hv.1 c46
          refine jg_iconst (v := 0) dX1_isUsage_155 (by decide) ?_
          exact jg_bret dX1_isUsage_156 rfl (by decide) hv
        · replace hv := hv.2 c46
          refine jg_iload_n dX1_isUsage_140 rfl (List.Mem.tail _ (List.Mem.tail _ (List.Mem.head _))) ?_
          refine jg_iconst (v := 1) dX1_isUsage_141 (by decide) ?_
          refine jg_icmp_lt (tgt := 155) dX1_isUsage_142 (by decide) (fun c47 => ?_) (fun c47 => ?_)
          · replace hv := hv.1 c47
            refine jg_iconst (v := 0) dX1_isUsage_155 (by decide) ?_
            exact jg_bret dX1_isUsage_156 rfl (by decide) hv
          · replace hv := hv.2 c47
            refine jg_iload_n dX1_isUsage_145 rfl (List.Mem.tail _ (List.Mem.tail _ (List.Mem.head _))) ?_
            refine jg_bipush (v := 18) dX1_isUsage_146 (by decide) ?_
            refine jg_icmp_gt (tgt := 155) dX1_isUsage_148 (by decide) (fun c48 => ?_) (fun c48 => ?_)
            · replace hv := hv.1 c48
              refine jg_iconst (v := 0) dX1_isUsage_155 (by decide) ?_
              exact jg_bret dX1_isUsage_156 rfl (by decide) hv
            · replace hv := hv.2 c48
              refine jg_iconst (v := 1) dX1_isUsage_151 (by decide) ?_
              refine jg_goto (tgt := 156) dX1_isUsage_152 (by decide) ?_
              exact jg_bret dX1_isUsage_156 rfl (by decide) hv
      by_cases c49 : (x1) = 9
      · replace hv := hv.2.2.2.2.2.2.2.2.2.1 c49
        refine jg_tsIn 9 9 (tgt := 123) dX1_isUsage_27 c49 (by decide) (by decide) rfl (by decide) ?_
        refine jg_iload_n dX1_isUsage_123 rfl (List.Mem.tail _ (List.Mem.tail _ (List.Mem.head _))) ?_
        refine jg_if_ne (tgt := 131) dX1_isUsage_124 (by decide) (fun c50 => ?_) (fun c50 => ?_)
        · replace hv := hv.1 c50
          refine jg_iconst (v := 0) dX1_isUsage_131 (by decide) ?_
          exact jg_bret dX1_isUsage_132 rfl (by decide) hv
        · replace hv := hv.2 c50
          refine jg_iconst (v := 1) dX1_isUsage_127 (by decide) ?_
          refine jg_goto (tgt := 132) dX1_isUsage_128 (by decide) ?_
          exact jg_bret dX1_isUsage_132 rfl (by decide) hv
      by_cases c51 : (x1) = 10
      · replace hv := hv.2.2.2.2.2.2.2.2.2.2.1 c51
        refine jg_tsIn 10 10 (tgt := 123) dX1_isUsage_27 c51 (by decide) (by decide) rfl (by decide) ?_
        refine jg_iload_n dX1_isUsage_123 rfl (List.Mem.tail _ (List.Mem.tail _ (List.Mem.head _))) ?_
        refine jg_if_ne (tgt := 131) dX1_isUsage_124 (by decide) (fun c52 => ?_) (fun c52 => ?_)
        · replace hv := hv.1 c52
          refine jg_iconst (v := 0) dX1_isUsage_131 (by decide) ?_
          exact jg_bret dX1_isUsage_132 rfl (by decide) hv
        · replace hv := hv.2 c52
          refine jg_iconst (v := 1) dX1_isUsage_127 (by decide) ?_
          refine jg_goto (tgt := 132) dX1_isUsage_128 (by decide) ?_
          exact jg_bret dX1_isUsage_132 rfl (by decide) hv
      by_cases c53 : (x1) = 11
      · replace hv := hv.2.2.2.2.2.2.2.2.2.2.2.1 c53
        refine jg_tsIn 11 11 (tgt := 123) dX1_isUsage_27 c53 (by decide) (by decide) rfl (by decide) ?_
        refine jg_iload_n dX1_isUsage_123 rfl (List.Mem.tail _ (List.Mem.tail _ (List.Mem.head _))) ?_
        refine jg_if_ne (tgt := 131) dX1_isUsage_124 (by decide) (fun c54 => ?_) (fun c54 => ?_)
        · replace hv := hv.1 c54
          refine jg_iconst (v := 0) dX1_isUsage_131 (by decide) ?_
          exact jg_bret dX1_isUsage_132 rfl (by decide) hv
        · replace hv := hv.2 c54
          refine jg_iconst (v := 1) dX1_isUsage_127 (by decide) ?_
          refine jg_goto (tgt := 132) dX1_isUsage_128 (by decide) ?_
          exact jg_bret dX1_isUsage_132 rfl (by decide) hv
      have c60 : (x1 : Int32).toInt < 0 ∨ 11 < (x1 : Int32).toInt := by
        have c5n : ¬ (x1 : Int32).toInt = 0 := fun q => c5 (Int32.toInt_inj.mp (q.trans (by decide)))
        have c7n : ¬ (x1 : Int32).toInt = 1 := fun q => c7 (Int32.toInt_inj.mp (q.trans (by decide)))
        have c10n : ¬ (x1 : Int32).toInt = 2 := fun q => c10 (Int32.toInt_inj.mp (q.trans (by decide)))
        have c13n : ¬ (x1 : Int32).toInt = 3 := fun q => c13 (Int32.toInt_inj.mp (q.trans (by decide)))
        have c19n : ¬ (x1 : Int32).toInt = 4 := fun q => c19 (Int32.toInt_inj.mp (q.trans (by decide)))
        have c25n : ¬ (x1 : Int32).toInt = 5 := fun q => c25 (Int32.toInt_inj.mp (q.trans (by decide)))
        have c31n : ¬ (x1 : Int32).toInt = 6 := fun q => c31 (Int32.toInt_inj.mp (q.trans (by decide)))
        have c37n : ¬ (x1 : Int32).toInt = 7 := fun q => c37 (Int32.toInt_inj.mp (q.trans (by decide)))
        have c43n : ¬ (x1 : Int32).toInt = 8 := fun q => c43 (Int32.toInt_inj.mp (q.trans (by decide)))
        have c49n : ¬ (x1 : Int32).toInt = 9 := fun q => c49 (Int32.toInt_inj.mp (q.trans (by decide)))
        have c51n : ¬ (x1 : Int32).toInt = 10 := fun q => c51 (Int32.toInt_inj.mp (q.trans (by decide)))
        have c53n : ¬ (x1 : Int32).toInt = 11 := fun q => c53 (Int32.toInt_inj.mp (q.trans (by decide)))
        omega
      replace hv := hv.2.2.2.2.2.2.2.2.2.2.2.2 c60
      refine jg_tsOut (tgt := 133) dX1_isUsage_27 c60 (by decide) ?_
      refine jg_iload_n dX1_isUsage_133 rfl (List.Mem.tail _ (List.Mem.head _)) ?_
      refine jg_callS mX1_isNumeric [.inl (x1)] [] dX1_isUsage_134 rfl cl_RX1_9 ⟨⟨by decide, by decide⟩, by decide⟩ (Nat.zero_le _) (Nat.zero_le _) (jM.mono (jki_k (fun r55 h56 hv => ?_)) hv)
      refine jg_if_eq (tgt := 155) dX1_isUsage_137 (by decide) (fun c57 => ?_) (fun c57 => ?_)
      · replace hv := hv.1 c57
        refine jg_iconst (v := 0) dX1_isUsage_155 (by decide) ?_
        exact jg_bret dX1_isUsage_156 rfl (by decide) hv
      · replace hv := hv.2 c57
        refine jg_iload_n dX1_isUsage_140 rfl (List.Mem.tail _ (List.Mem.tail _ (List.Mem.head _))) ?_
        refine jg_iconst (v := 1) dX1_isUsage_141 (by decide) ?_
        refine jg_icmp_lt (tgt := 155) dX1_isUsage_142 (by decide) (fun c58 => ?_) (fun c58 => ?_)
        · replace hv := hv.1 c58
          refine jg_iconst (v := 0) dX1_isUsage_155 (by decide) ?_
          exact jg_bret dX1_isUsage_156 rfl (by decide) hv
        · replace hv := hv.2 c58
          refine jg_iload_n dX1_isUsage_145 rfl (List.Mem.tail _ (List.Mem.tail _ (List.Mem.head _))) ?_
          refine jg_bipush (v := 18) dX1_isUsage_146 (by decide) ?_
          refine jg_icmp_gt (tgt := 155) dX1_isUsage_148 (by decide) (fun c59 => ?_) (fun c59 => ?_)
          · replace hv := hv.1 c59
            refine jg_iconst (v := 0) dX1_isUsage_155 (by decide) ?_
            exact jg_bret dX1_isUsage_156 rfl (by decide) hv
          · replace hv := hv.2 c59
            refine jg_iconst (v := 1) dX1_isUsage_151 (by decide) ?_
            refine jg_goto (tgt := 156) dX1_isUsage_152 (by decide) ?_
            exact jg_bret dX1_isUsage_156 rfl (by decide) hv
    · replace hv := hv.2 c4
      refine jG.sub (lv' := [(1, .inl (x1)), (2, .inl (x2))]) (by simp) ?_
      exact vX1_isUsage_12 hv
theorem eX1_isUsage {g : jg} {x0 : Int32} {x1 : Int32} {x2 : Int32} {h : jh} {mc ms : Nat} {Q : jq} (hv : VX1_isUsage_0 g x0 x1 x2 h mc ms Q) : jM g mX1_isUsage [.inl (x0), .inl (x1), .inl (x2)] h mc ms Q := jM.of (by decide) (Nat.le_of_ble_eq_true rfl) (lv := [(0, .inl (x0)), (1, .inl (x1)), (2, .inl (x2))]) rfl (vX1_isUsage_0 hv)
theorem dX1_isClause_0 : decode cX1_isClause 0 = .ok (.iload_n 0, 1) := by decide +kernel
theorem dX1_isClause_1 : decode cX1_isClause 1 = .ok (.tableswitch 91 0 4 #[35, 53, 91, 91, 80], 35) := by decide +kernel
theorem dX1_isClause_36 : decode cX1_isClause 36 = .ok (.iload_n 1, 1) := by decide +kernel
theorem dX1_isClause_37 : decode cX1_isClause 37 = .ok (.iconst 1, 1) := by decide +kernel
theorem dX1_isClause_38 : decode cX1_isClause 38 = .ok (.if_icmp .lt 14, 3) := by decide +kernel
theorem dX1_isClause_41 : decode cX1_isClause 41 = .ok (.iload_n 1, 1) := by decide +kernel
theorem dX1_isClause_42 : decode cX1_isClause 42 = .ok (.sipush 999, 3) := by decide +kernel
theorem dX1_isClause_45 : decode cX1_isClause 45 = .ok (.if_icmp .gt 7, 3) := by decide +kernel
theorem dX1_isClause_48 : decode cX1_isClause 48 = .ok (.iconst 1, 1) := by decide +kernel
theorem dX1_isClause_49 : decode cX1_isClause 49 = .ok (.goto 4, 3) := by decide +kernel
theorem dX1_isClause_52 : decode cX1_isClause 52 = .ok (.iconst 0, 1) := by decide +kernel
theorem dX1_isClause_53 : decode cX1_isClause 53 = .ok (.ireturn, 1) := by decide +kernel
theorem dX1_isClause_54 : decode cX1_isClause 54 = .ok (.iload_n 1, 1) := by decide +kernel
theorem dX1_isClause_55 : decode cX1_isClause 55 = .ok (.ifCond .lt 24, 3) := by decide +kernel
theorem dX1_isClause_58 : decode cX1_isClause 58 = .ok (.iload_n 1, 1) := by decide +kernel
theorem dX1_isClause_59 : decode cX1_isClause 59 = .ok (.iload_n 2, 1) := by decide +kernel
theorem dX1_isClause_60 : decode cX1_isClause 60 = .ok (.if_icmp .gt 19, 3) := by decide +kernel
theorem dX1_isClause_63 : decode cX1_isClause 63 = .ok (.iload_n 2, 1) := by decide +kernel
theorem dX1_isClause_64 : decode cX1_isClause 64 = .ok (.iconst 1, 1) := by decide +kernel
theorem dX1_isClause_65 : decode cX1_isClause 65 = .ok (.if_icmp .lt 14, 3) := by decide +kernel
theorem dX1_isClause_68 : decode cX1_isClause 68 = .ok (.iload_n 2, 1) := by decide +kernel
theorem dX1_isClause_69 : decode cX1_isClause 69 = .ok (.sipush 999, 3) := by decide +kernel
theorem dX1_isClause_72 : decode cX1_isClause 72 = .ok (.if_icmp .gt 7, 3) := by decide +kernel
theorem dX1_isClause_75 : decode cX1_isClause 75 = .ok (.iconst 1, 1) := by decide +kernel
theorem dX1_isClause_76 : decode cX1_isClause 76 = .ok (.goto 4, 3) := by decide +kernel
theorem dX1_isClause_79 : decode cX1_isClause 79 = .ok (.iconst 0, 1) := by decide +kernel
theorem dX1_isClause_80 : decode cX1_isClause 80 = .ok (.ireturn, 1) := by decide +kernel
theorem dX1_isClause_81 : decode cX1_isClause 81 = .ok (.iload_n 1, 1) := by decide +kernel
theorem dX1_isClause_82 : decode cX1_isClause 82 = .ok (.iload_n 2, 1) := by decide +kernel
theorem dX1_isClause_83 : decode cX1_isClause 83 = .ok (.if_icmp .gt 7, 3) := by decide +kernel
theorem dX1_isClause_86 : decode cX1_isClause 86 = .ok (.iconst 1, 1) := by decide +kernel
theorem dX1_isClause_87 : decode cX1_isClause 87 = .ok (.goto 4, 3) := by decide +kernel
theorem dX1_isClause_90 : decode cX1_isClause 90 = .ok (.iconst 0, 1) := by decide +kernel
theorem dX1_isClause_91 : decode cX1_isClause 91 = .ok (.ireturn, 1) := by decide +kernel
theorem dX1_isClause_92 : decode cX1_isClause 92 = .ok (.iload_n 0, 1) := by decide +kernel
theorem dX1_isClause_93 : decode cX1_isClause 93 = .ok (.iconst 2, 1) := by decide +kernel
theorem dX1_isClause_94 : decode cX1_isClause 94 = .ok (.if_icmp .eq 13, 3) := by decide +kernel
theorem dX1_isClause_97 : decode cX1_isClause 97 = .ok (.iload_n 0, 1) := by decide +kernel
theorem dX1_isClause_98 : decode cX1_isClause 98 = .ok (.iconst 3, 1) := by decide +kernel
theorem dX1_isClause_99 : decode cX1_isClause 99 = .ok (.if_icmp .eq 8, 3) := by decide +kernel
theorem dX1_isClause_102 : decode cX1_isClause 102 = .ok (.iload_n 0, 1) := by decide +kernel
theorem dX1_isClause_103 : decode cX1_isClause 103 = .ok (.iconst 5, 1) := by decide +kernel
theorem dX1_isClause_104 : decode cX1_isClause 104 = .ok (.if_icmp .ne 7, 3) := by decide +kernel
theorem dX1_isClause_107 : decode cX1_isClause 107 = .ok (.iconst 1, 1) := by decide +kernel
theorem dX1_isClause_108 : decode cX1_isClause 108 = .ok (.goto 4, 3) := by decide +kernel
theorem dX1_isClause_111 : decode cX1_isClause 111 = .ok (.iconst 0, 1) := by decide +kernel
theorem dX1_isClause_112 : decode cX1_isClause 112 = .ok (.ireturn, 1) := by decide +kernel
def VX1_isClause_0 (g : jg) (x0 : Int32) (x1 : Int32) (x2 : Int32) (h : jh) (k n : Nat) (Q : jq) : Prop := (((x0) = 0 → (((x1) < (1) → Q (.inl (some (.inl (0)))) h) ∧ (¬ (x1) < (1) → (((999 : Int32) < (x1) → Q (.inl (some (.inl (0)))) h) ∧ (¬ (999 : Int32) < (x1) → Q (.inl (some (.inl (1)))) h))))) ∧ ((x0) = 1 → (((x1) < 0 → Q (.inl (some (.inl (0)))) h) ∧ (¬ (x1) < 0 → (((x2) < (x1) → Q (.inl (some (.inl (0)))) h) ∧ (¬ (x2) < (x1) → (((x2) < (1) → Q (.inl (some (.inl (0)))) h) ∧ (¬ (x2) < (1) → (((999 : Int32) < (x2) → Q (.inl (some (.inl (0)))) h) ∧ (¬ (999 : Int32) < (x2) → Q (.inl (some (.inl (1)))) h))))))))) ∧ ((x0) = 2 → (((x0) = (2) → Q (.inl (some (.inl (1)))) h) ∧ (¬ (x0) = (2) → (((x0) = (3) → Q (.inl (some (.inl (1)))) h) ∧ (¬ (x0) = (3) → ((¬ (x0) = (5) → Q (.inl (some (.inl (0)))) h) ∧ ((x0) = (5) → Q (.inl (some (.inl (1)))) h))))))) ∧ ((x0) = 3 → (((x0) = (2) → Q (.inl (some (.inl (1)))) h) ∧ (¬ (x0) = (2) → (((x0) = (3) → Q (.inl (some (.inl (1)))) h) ∧ (¬ (x0) = (3) → ((¬ (x0) = (5) → Q (.inl (some (.inl (0)))) h) ∧ ((x0) = (5) → Q (.inl (some (.inl (1)))) h))))))) ∧ ((x0) = 4 → (((x2) < (x1) → Q (.inl (some (.inl (0)))) h) ∧ (¬ (x2) < (x1) → Q (.inl (some (.inl (1)))) h))) ∧ ((x0 : Int32).toInt < 0 ∨ 4 < (x0 : Int32).toInt → (((x0) = (2) → Q (.inl (some (.inl (1)))) h) ∧ (¬ (x0) = (2) → (((x0) = (3) → Q (.inl (some (.inl (1)))) h) ∧ (¬ (x0) = (3) → ((¬ (x0) = (5) → Q (.inl (some (.inl (0)))) h) ∧ ((x0) = (5) → Q (.inl (some (.inl (1)))) h))))))))
set_option maxRecDepth 20000 in
theorem vX1_isClause_0 {g : jg} {x0 : Int32} {x1 : Int32} {x2 : Int32} {h : jh} {k n : Nat} {Q : jq} (hv : VX1_isClause_0 g x0 x1 x2 h k n Q) : jG g mX1_isClause 0 [(0, .inl (x0)), (1, .inl (x1)), (2, .inl (x2))] [] h k n Q := by
  unfold VX1_isClause_0 at hv
  refine jg_iload_n dX1_isClause_0 rfl (List.Mem.head _) ?_
  by_cases c1 : (x0) = 0
  · replace hv := hv.1 c1
    refine jg_tsIn 0 0 (tgt := 36) dX1_isClause_1 c1 (by decide) (by decide) rfl (by decide) ?_
    refine jg_iload_n dX1_isClause_36 rfl (List.Mem.tail _ (List.Mem.head _)) ?_
    refine jg_iconst (v := 1) dX1_isClause_37 (by decide) ?_
    refine jg_icmp_lt (tgt := 52) dX1_isClause_38 (by decide) (fun c2 => ?_) (fun c2 => ?_)
    · replace hv := hv.1 c2
      refine jg_iconst (v := 0) dX1_isClause_52 (by decide) ?_
      exact jg_bret dX1_isClause_53 rfl (by decide) hv
    · replace hv := hv.2 c2
      refine jg_iload_n dX1_isClause_41 rfl (List.Mem.tail _ (List.Mem.head _)) ?_
      refine jg_sipush (v := 999) dX1_isClause_42 (by decide) ?_
      refine jg_icmp_gt (tgt := 52) dX1_isClause_45 (by decide) (fun c3 => ?_) (fun c3 => ?_)
      · replace hv := hv.1 c3
        refine jg_iconst (v := 0) dX1_isClause_52 (by decide) ?_
        exact jg_bret dX1_isClause_53 rfl (by decide) hv
      · replace hv := hv.2 c3
        refine jg_iconst (v := 1) dX1_isClause_48 (by decide) ?_
        refine jg_goto (tgt := 53) dX1_isClause_49 (by decide) ?_
        exact jg_bret dX1_isClause_53 rfl (by decide) hv
  by_cases c4 : (x0) = 1
  · replace hv := hv.2.1 c4
    refine jg_tsIn 1 1 (tgt := 54) dX1_isClause_1 c4 (by decide) (by decide) rfl (by decide) ?_
    refine jg_iload_n dX1_isClause_54 rfl (List.Mem.tail _ (List.Mem.head _)) ?_
    refine jg_if_lt (tgt := 79) dX1_isClause_55 (by decide) (fun c5 => ?_) (fun c5 => ?_)
    · replace hv := hv.1 c5
      refine jg_iconst (v := 0) dX1_isClause_79 (by decide) ?_
      exact jg_bret dX1_isClause_80 rfl (by decide) hv
    · replace hv := hv.2 c5
      refine jg_iload_n dX1_isClause_58 rfl (List.Mem.tail _ (List.Mem.head _)) ?_
      refine jg_iload_n dX1_isClause_59 rfl (List.Mem.tail _ (List.Mem.tail _ (List.Mem.head _))) ?_
      refine jg_icmp_gt (tgt := 79) dX1_isClause_60 (by decide) (fun c6 => ?_) (fun c6 => ?_)
      · replace hv := hv.1 c6
        refine jg_iconst (v := 0) dX1_isClause_79 (by decide) ?_
        exact jg_bret dX1_isClause_80 rfl (by decide) hv
      · replace hv := hv.2 c6
        refine jg_iload_n dX1_isClause_63 rfl (List.Mem.tail _ (List.Mem.tail _ (List.Mem.head _))) ?_
        refine jg_iconst (v := 1) dX1_isClause_64 (by decide) ?_
        refine jg_icmp_lt (tgt := 79) dX1_isClause_65 (by decide) (fun c7 => ?_) (fun c7 => ?_)
        · replace hv := hv.1 c7
          refine jg_iconst (v := 0) dX1_isClause_79 (by decide) ?_
          exact jg_bret dX1_isClause_80 rfl (by decide) hv
        · replace hv := hv.2 c7
          refine jg_iload_n dX1_isClause_68 rfl (List.Mem.tail _ (List.Mem.tail _ (List.Mem.head _))) ?_
          refine jg_sipush (v := 999) dX1_isClause_69 (by decide) ?_
          refine jg_icmp_gt (tgt := 79) dX1_isClause_72 (by decide) (fun c8 => ?_) (fun c8 => ?_)
          · replace hv := hv.1 c8
            refine jg_iconst (v := 0) dX1_isClause_79 (by decide) ?_
            exact jg_bret dX1_isClause_80 rfl (by decide) hv
          · replace hv := hv.2 c8
            refine jg_iconst (v := 1) dX1_isClause_75 (by decide) ?_
            refine jg_goto (tgt := 80) dX1_isClause_76 (by decide) ?_
            exact jg_bret dX1_isClause_80 rfl (by decide) hv
  by_cases c9 : (x0) = 2
  · replace hv := hv.2.2.1 c9
    refine jg_tsIn 2 2 (tgt := 92) dX1_isClause_1 c9 (by decide) (by decide) rfl (by decide) ?_
    refine jg_iload_n dX1_isClause_92 rfl (List.Mem.head _) ?_
    refine jg_iconst (v := 2) dX1_isClause_93 (by decide) ?_
    refine jg_icmp_eq (tgt := 107) dX1_isClause_94 (by decide) (fun c10 => ?_) (fun c10 => ?_)
    · replace hv := hv.1 c10
      refine jg_iconst (v := 1) dX1_isClause_107 (by decide) ?_
      refine jg_goto (tgt := 112) dX1_isClause_108 (by decide) ?_
      exact jg_bret dX1_isClause_112 rfl (by decide) hv
    · replace hv := hv.2 c10
      refine jg_iload_n dX1_isClause_97 rfl (List.Mem.head _) ?_
      refine jg_iconst (v := 3) dX1_isClause_98 (by decide) ?_
      refine jg_icmp_eq (tgt := 107) dX1_isClause_99 (by decide) (fun c11 => ?_) (fun c11 => ?_)
      · replace hv := hv.1 c11
        refine jg_iconst (v := 1) dX1_isClause_107 (by decide) ?_
        refine jg_goto (tgt := 112) dX1_isClause_108 (by decide) ?_
        exact jg_bret dX1_isClause_112 rfl (by decide) hv
      · replace hv := hv.2 c11
        refine jg_iload_n dX1_isClause_102 rfl (List.Mem.head _) ?_
        refine jg_iconst (v := 5) dX1_isClause_103 (by decide) ?_
        refine jg_icmp_ne (tgt := 111) dX1_isClause_104 (by decide) (fun c12 => ?_) (fun c12 => ?_)
        · replace hv := hv.1 c12
          refine jg_iconst (v := 0) dX1_isClause_111 (by decide) ?_
          exact jg_bret dX1_isClause_112 rfl (by decide) hv
        · replace hv := hv.2 c12
          refine jg_iconst (v := 1) dX1_isClause_107 (by decide) ?_
          refine jg_goto (tgt := 112) dX1_isClause_108 (by decide) ?_
          exact jg_bret dX1_isClause_112 rfl (by decide) hv
  by_cases c13 : (x0) = 3
  · replace hv := hv.2.2.2.1 c13
    refine jg_tsIn 3 3 (tgt := 92) dX1_isClause_1 c13 (by decide) (by decide) rfl (by decide) ?_
    refine jg_iload_n dX1_isClause_92 rfl (List.Mem.head _) ?_
    refine jg_iconst (v := 2) dX1_isClause_93 (by decide) ?_
    refine jg_icmp_eq (tgt := 107) dX1_isClause_94 (by decide) (fun c14 => ?_) (fun c14 => ?_)
    · replace hv := hv.1 c14
      refine jg_iconst (v := 1) dX1_isClause_107 (by decide) ?_
      refine jg_goto (tgt := 112) dX1_isClause_108 (by decide) ?_
      exact jg_bret dX1_isClause_112 rfl (by decide) hv
    · replace hv := hv.2 c14
      refine jg_iload_n dX1_isClause_97 rfl (List.Mem.head _) ?_
      refine jg_iconst (v := 3) dX1_isClause_98 (by decide) ?_
      refine jg_icmp_eq (tgt := 107) dX1_isClause_99 (by decide) (fun c15 => ?_) (fun c15 => ?_)
      · replace hv := hv.1 c15
        refine jg_iconst (v := 1) dX1_isClause_107 (by decide) ?_
        refine jg_goto (tgt := 112) dX1_isClause_108 (by decide) ?_
        exact jg_bret dX1_isClause_112 rfl (by decide) hv
      · replace hv := hv.2 c15
        refine jg_iload_n dX1_isClause_102 rfl (List.Mem.head _) ?_
        refine jg_iconst (v := 5) dX1_isClause_103 (by decide) ?_
        refine jg_icmp_ne (tgt := 111) dX1_isClause_104 (by decide) (fun c16 => ?_) (fun c16 => ?_)
        · replace hv := hv.1 c16
          refine jg_iconst (v := 0) dX1_isClause_111 (by decide) ?_
          exact jg_bret dX1_isClause_112 rfl (by decide) hv
        · replace hv := hv.2 c16
          refine jg_iconst (v := 1) dX1_isClause_107 (by decide) ?_
          refine jg_goto (tgt := 112) dX1_isClause_108 (by decide) ?_
          exact jg_bret dX1_isClause_112 rfl (by decide) hv
  by_cases c17 : (x0) = 4
  · replace hv := hv.2.2.2.2.1 c17
    refine jg_tsIn 4 4 (tgt := 81) dX1_isClause_1 c17 (by decide) (by decide) rfl (by decide) ?_
    refine jg_iload_n dX1_isClause_81 rfl (List.Mem.tail _ (List.Mem.head _)) ?_
    refine jg_iload_n dX1_isClause_82 rfl (List.Mem.tail _ (List.Mem.tail _ (List.Mem.head _))) ?_
    refine jg_icmp_gt (tgt := 90) dX1_isClause_83 (by decide) (fun c18 => ?_) (fun c18 => ?_)
    · replace hv := hv.1 c18
      refine jg_iconst (v := 0) dX1_isClause_90 (by decide) ?_
      exact jg_bret dX1_isClause_91 rfl (by decide) hv
    · replace hv := hv.2 c18
      refine jg_iconst (v := 1) dX1_isClause_86 (by decide) ?_
      refine jg_goto (tgt := 91) dX1_isClause_87 (by decide) ?_
      exact jg_bret dX1_isClause_91 rfl (by decide) hv
  have c22 : (x0 : Int32).toInt < 0 ∨ 4 < (x0 : Int32).toInt := by
    have c1n : ¬ (x0 : Int32).toInt = 0 := fun q => c1 (Int32.toInt_inj.mp (q.trans (by decide)))
    have c4n : ¬ (x0 : Int32).toInt = 1 := fun q => c4 (Int32.toInt_inj.mp (q.trans (by decide)))
    have c9n : ¬ (x0 : Int32).toInt = 2 := fun q => c9 (Int32.toInt_inj.mp (q.trans (by decide)))
    have c13n : ¬ (x0 : Int32).toInt = 3 := fun q => c13 (Int32.toInt_inj.mp (q.trans (by decide)))
    have c17n : ¬ (x0 : Int32).toInt = 4 := fun q => c17 (Int32.toInt_inj.mp (q.trans (by decide)))
    omega
  replace hv := hv.2.2.2.2.2 c22
  refine jg_tsOut (tgt := 92) dX1_isClause_1 c22 (by decide) ?_
  refine jg_iload_n dX1_isClause_92 rfl (List.Mem.head _) ?_
  refine jg_iconst (v := 2) dX1_isClause_93 (by decide) ?_
  refine jg_icmp_eq (tgt := 107) dX1_isClause_94 (by decide) (fun c19 => ?_) (fun c19 => ?_)
  · replace hv := hv.1 c19
    refine jg_iconst (v := 1) dX1_isClause_107 (by decide) ?_
    refine jg_goto (tgt := 112) dX1_isClause_108 (by decide) ?_
    exact jg_bret dX1_isClause_112 rfl (by decide) hv
  · replace hv := hv.2 c19
    refine jg_iload_n dX1_isClause_97 rfl (List.Mem.head _) ?_
    refine jg_iconst (v := 3) dX1_isClause_98 (by decide) ?_
    refine jg_icmp_eq (tgt := 107) dX1_isClause_99 (by decide) (fun c20 => ?_) (fun c20 => ?_)
    · replace hv := hv.1 c20
      refine jg_iconst (v := 1) dX1_isClause_107 (by decide) ?_
      refine jg_goto (tgt := 112) dX1_isClause_108 (by decide) ?_
      exact jg_bret dX1_isClause_112 rfl (by decide) hv
    · replace hv := hv.2 c20
      refine jg_iload_n dX1_isClause_102 rfl (List.Mem.head _) ?_
      refine jg_iconst (v := 5) dX1_isClause_103 (by decide) ?_
      refine jg_icmp_ne (tgt := 111) dX1_isClause_104 (by decide) (fun c21 => ?_) (fun c21 => ?_)
      · replace hv := hv.1 c21
        refine jg_iconst (v := 0) dX1_isClause_111 (by decide) ?_
        exact jg_bret dX1_isClause_112 rfl (by decide) hv
      · replace hv := hv.2 c21
        refine jg_iconst (v := 1) dX1_isClause_107 (by decide) ?_
        refine jg_goto (tgt := 112) dX1_isClause_108 (by decide) ?_
        exact jg_bret dX1_isClause_112 rfl (by decide) hv
theorem eX1_isClause {g : jg} {x0 : Int32} {x1 : Int32} {x2 : Int32} {h : jh} {mc ms : Nat} {Q : jq} (hv : VX1_isClause_0 g x0 x1 x2 h mc ms Q) : jM g mX1_isClause [.inl (x0), .inl (x1), .inl (x2)] h mc ms Q := jM.of (by decide) (Nat.le_of_ble_eq_true rfl) (lv := [(0, .inl (x0)), (1, .inl (x1)), (2, .inl (x2))]) rfl (vX1_isClause_0 hv)
theorem dX1_bytesOf_0 : decode cX1_bytesOf 0 = .ok (.iload_n 0, 1) := by decide +kernel
theorem dX1_bytesOf_1 : decode cX1_bytesOf 1 = .ok (.tableswitch 102 1 11 #[59, 61, 59, 59, 65, 65, 69, 75, 97, 99, 97], 59) := by decide +kernel
theorem dX1_bytesOf_60 : decode cX1_bytesOf 60 = .ok (.iload_n 1, 1) := by decide +kernel
theorem dX1_bytesOf_61 : decode cX1_bytesOf 61 = .ok (.ireturn, 1) := by decide +kernel
theorem dX1_bytesOf_62 : decode cX1_bytesOf 62 = .ok (.iconst 2, 1) := by decide +kernel
theorem dX1_bytesOf_63 : decode cX1_bytesOf 63 = .ok (.iload_n 1, 1) := by decide +kernel
theorem dX1_bytesOf_64 : decode cX1_bytesOf 64 = .ok (.imul, 1) := by decide +kernel
theorem dX1_bytesOf_65 : decode cX1_bytesOf 65 = .ok (.ireturn, 1) := by decide +kernel
theorem dX1_bytesOf_66 : decode cX1_bytesOf 66 = .ok (.iload_n 1, 1) := by decide +kernel
theorem dX1_bytesOf_67 : decode cX1_bytesOf 67 = .ok (.iconst 1, 1) := by decide +kernel
theorem dX1_bytesOf_68 : decode cX1_bytesOf 68 = .ok (.iadd, 1) := by decide +kernel
theorem dX1_bytesOf_69 : decode cX1_bytesOf 69 = .ok (.ireturn, 1) := by decide +kernel
theorem dX1_bytesOf_70 : decode cX1_bytesOf 70 = .ok (.iload_n 1, 1) := by decide +kernel
theorem dX1_bytesOf_71 : decode cX1_bytesOf 71 = .ok (.iconst 1, 1) := by decide +kernel
theorem dX1_bytesOf_72 : decode cX1_bytesOf 72 = .ok (.ishr, 1) := by decide +kernel
theorem dX1_bytesOf_73 : decode cX1_bytesOf 73 = .ok (.iconst 1, 1) := by decide +kernel
theorem dX1_bytesOf_74 : decode cX1_bytesOf 74 = .ok (.iadd, 1) := by decide +kernel
theorem dX1_bytesOf_75 : decode cX1_bytesOf 75 = .ok (.ireturn, 1) := by decide +kernel
theorem dX1_bytesOf_76 : decode cX1_bytesOf 76 = .ok (.iload_n 1, 1) := by decide +kernel
theorem dX1_bytesOf_77 : decode cX1_bytesOf 77 = .ok (.iconst 4, 1) := by decide +kernel
theorem dX1_bytesOf_78 : decode cX1_bytesOf 78 = .ok (.if_icmp .gt 7, 3) := by decide +kernel
theorem dX1_bytesOf_81 : decode cX1_bytesOf 81 = .ok (.iconst 2, 1) := by decide +kernel
theorem dX1_bytesOf_82 : decode cX1_bytesOf 82 = .ok (.goto 15, 3) := by decide +kernel
theorem dX1_bytesOf_85 : decode cX1_bytesOf 85 = .ok (.iload_n 1, 1) := by decide +kernel
theorem dX1_bytesOf_86 : decode cX1_bytesOf 86 = .ok (.bipush 9, 2) := by decide +kernel
theorem dX1_bytesOf_88 : decode cX1_bytesOf 88 = .ok (.if_icmp .gt 7, 3) := by decide +kernel
theorem dX1_bytesOf_91 : decode cX1_bytesOf 91 = .ok (.iconst 4, 1) := by decide +kernel
theorem dX1_bytesOf_92 : decode cX1_bytesOf 92 = .ok (.goto 5, 3) := by decide +kernel
theorem dX1_bytesOf_95 : decode cX1_bytesOf 95 = .ok (.bipush 8, 2) := by decide +kernel
theorem dX1_bytesOf_97 : decode cX1_bytesOf 97 = .ok (.ireturn, 1) := by decide +kernel
theorem dX1_bytesOf_98 : decode cX1_bytesOf 98 = .ok (.iconst 4, 1) := by decide +kernel
theorem dX1_bytesOf_99 : decode cX1_bytesOf 99 = .ok (.ireturn, 1) := by decide +kernel
theorem dX1_bytesOf_100 : decode cX1_bytesOf 100 = .ok (.bipush 8, 2) := by decide +kernel
theorem dX1_bytesOf_102 : decode cX1_bytesOf 102 = .ok (.ireturn, 1) := by decide +kernel
theorem dX1_bytesOf_103 : decode cX1_bytesOf 103 = .ok (.iconst 0, 1) := by decide +kernel
theorem dX1_bytesOf_104 : decode cX1_bytesOf 104 = .ok (.ireturn, 1) := by decide +kernel
def VX1_bytesOf_0 (g : jg) (x0 : Int32) (x1 : Int32) (h : jh) (k n : Nat) (Q : jq) : Prop := (((x0) = 1 → Q (.inl (some (.inl (x1)))) h) ∧ ((x0) = 2 → Q (.inl (some (.inl ((2) * (x1))))) h) ∧ ((x0) = 3 → Q (.inl (some (.inl (x1)))) h) ∧ ((x0) = 4 → Q (.inl (some (.inl (x1)))) h) ∧ ((x0) = 5 → Q (.inl (some (.inl ((x1) + (1))))) h) ∧ ((x0) = 6 → Q (.inl (some (.inl ((x1) + (1))))) h) ∧ ((x0) = 7 → Q (.inl (some (.inl (((x1) >>> ((1 : Int32) &&& 31)) + (1))))) h) ∧ ((x0) = 8 → (((4 : Int32) < (x1) → (((9 : Int32) < (x1) → Q (.inl (some (.inl (8)))) h) ∧ (¬ (9 : Int32) < (x1) → Q (.inl (some (.inl (4)))) h))) ∧ (¬ (4 : Int32) < (x1) → Q (.inl (some (.inl (2)))) h))) ∧ ((x0) = 9 → Q (.inl (some (.inl (4)))) h) ∧ ((x0) = 10 → Q (.inl (some (.inl (8)))) h) ∧ ((x0) = 11 → Q (.inl (some (.inl (4)))) h) ∧ ((x0 : Int32).toInt < 1 ∨ 11 < (x0 : Int32).toInt → Q (.inl (some (.inl (0)))) h))
set_option maxRecDepth 20000 in
theorem vX1_bytesOf_0 {g : jg} {x0 : Int32} {x1 : Int32} {h : jh} {k n : Nat} {Q : jq} (hv : VX1_bytesOf_0 g x0 x1 h k n Q) : jG g mX1_bytesOf 0 [(0, .inl (x0)), (1, .inl (x1))] [] h k n Q := by
  unfold VX1_bytesOf_0 at hv
  refine jg_iload_n dX1_bytesOf_0 rfl (List.Mem.head _) ?_
  by_cases c1 : (x0) = 1
  · replace hv := hv.1 c1
    refine jg_tsIn 1 0 (tgt := 60) dX1_bytesOf_1 c1 (by decide) (by decide) rfl (by decide) ?_
    refine jg_iload_n dX1_bytesOf_60 rfl (List.Mem.tail _ (List.Mem.head _)) ?_
    exact jg_iret dX1_bytesOf_61 rfl hv
  by_cases c2 : (x0) = 2
  · replace hv := hv.2.1 c2
    refine jg_tsIn 2 1 (tgt := 62) dX1_bytesOf_1 c2 (by decide) (by decide) rfl (by decide) ?_
    refine jg_iconst (v := 2) dX1_bytesOf_62 (by decide) ?_
    refine jg_iload_n dX1_bytesOf_63 rfl (List.Mem.tail _ (List.Mem.head _)) ?_
    refine jg_imul dX1_bytesOf_64 ?_
    exact jg_iret dX1_bytesOf_65 rfl hv
  by_cases c3 : (x0) = 3
  · replace hv := hv.2.2.1 c3
    refine jg_tsIn 3 2 (tgt := 60) dX1_bytesOf_1 c3 (by decide) (by decide) rfl (by decide) ?_
    refine jg_iload_n dX1_bytesOf_60 rfl (List.Mem.tail _ (List.Mem.head _)) ?_
    exact jg_iret dX1_bytesOf_61 rfl hv
  by_cases c4 : (x0) = 4
  · replace hv := hv.2.2.2.1 c4
    refine jg_tsIn 4 3 (tgt := 60) dX1_bytesOf_1 c4 (by decide) (by decide) rfl (by decide) ?_
    refine jg_iload_n dX1_bytesOf_60 rfl (List.Mem.tail _ (List.Mem.head _)) ?_
    exact jg_iret dX1_bytesOf_61 rfl hv
  by_cases c5 : (x0) = 5
  · replace hv := hv.2.2.2.2.1 c5
    refine jg_tsIn 5 4 (tgt := 66) dX1_bytesOf_1 c5 (by decide) (by decide) rfl (by decide) ?_
    refine jg_iload_n dX1_bytesOf_66 rfl (List.Mem.tail _ (List.Mem.head _)) ?_
    refine jg_iconst (v := 1) dX1_bytesOf_67 (by decide) ?_
    refine jg_iadd dX1_bytesOf_68 ?_
    exact jg_iret dX1_bytesOf_69 rfl hv
  by_cases c6 : (x0) = 6
  · replace hv := hv.2.2.2.2.2.1 c6
    refine jg_tsIn 6 5 (tgt := 66) dX1_bytesOf_1 c6 (by decide) (by decide) rfl (by decide) ?_
    refine jg_iload_n dX1_bytesOf_66 rfl (List.Mem.tail _ (List.Mem.head _)) ?_
    refine jg_iconst (v := 1) dX1_bytesOf_67 (by decide) ?_
    refine jg_iadd dX1_bytesOf_68 ?_
    exact jg_iret dX1_bytesOf_69 rfl hv
  by_cases c7 : (x0) = 7
  · replace hv := hv.2.2.2.2.2.2.1 c7
    refine jg_tsIn 7 6 (tgt := 70) dX1_bytesOf_1 c7 (by decide) (by decide) rfl (by decide) ?_
    refine jg_iload_n dX1_bytesOf_70 rfl (List.Mem.tail _ (List.Mem.head _)) ?_
    refine jg_iconst (v := 1) dX1_bytesOf_71 (by decide) ?_
    refine jg_ishr dX1_bytesOf_72 ?_
    refine jg_iconst (v := 1) dX1_bytesOf_73 (by decide) ?_
    refine jg_iadd dX1_bytesOf_74 ?_
    exact jg_iret dX1_bytesOf_75 rfl hv
  by_cases c8 : (x0) = 8
  · replace hv := hv.2.2.2.2.2.2.2.1 c8
    refine jg_tsIn 8 7 (tgt := 76) dX1_bytesOf_1 c8 (by decide) (by decide) rfl (by decide) ?_
    refine jg_iload_n dX1_bytesOf_76 rfl (List.Mem.tail _ (List.Mem.head _)) ?_
    refine jg_iconst (v := 4) dX1_bytesOf_77 (by decide) ?_
    refine jg_icmp_gt (tgt := 85) dX1_bytesOf_78 (by decide) (fun c9 => ?_) (fun c9 => ?_)
    · replace hv := hv.1 c9
      refine jg_iload_n dX1_bytesOf_85 rfl (List.Mem.tail _ (List.Mem.head _)) ?_
      refine jg_bipush (v := 9) dX1_bytesOf_86 (by decide) ?_
      refine jg_icmp_gt (tgt := 95) dX1_bytesOf_88 (by decide) (fun c10 => ?_) (fun c10 => ?_)
      · replace hv := hv.1 c10
        refine jg_bipush (v := 8) dX1_bytesOf_95 (by decide) ?_
        exact jg_iret dX1_bytesOf_97 rfl hv
      · replace hv := hv.2 c10
        refine jg_iconst (v := 4) dX1_bytesOf_91 (by decide) ?_
        refine jg_goto (tgt := 97) dX1_bytesOf_92 (by decide) ?_
        exact jg_iret dX1_bytesOf_97 rfl hv
    · replace hv := hv.2 c9
      refine jg_iconst (v := 2) dX1_bytesOf_81 (by decide) ?_
      refine jg_goto (tgt := 97) dX1_bytesOf_82 (by decide) ?_
      exact jg_iret dX1_bytesOf_97 rfl hv
  by_cases c11 : (x0) = 9
  · replace hv := hv.2.2.2.2.2.2.2.2.1 c11
    refine jg_tsIn 9 8 (tgt := 98) dX1_bytesOf_1 c11 (by decide) (by decide) rfl (by decide) ?_
    refine jg_iconst (v := 4) dX1_bytesOf_98 (by decide) ?_
    exact jg_iret dX1_bytesOf_99 rfl hv
  by_cases c12 : (x0) = 10
  · replace hv := hv.2.2.2.2.2.2.2.2.2.1 c12
    refine jg_tsIn 10 9 (tgt := 100) dX1_bytesOf_1 c12 (by decide) (by decide) rfl (by decide) ?_
    refine jg_bipush (v := 8) dX1_bytesOf_100 (by decide) ?_
    exact jg_iret dX1_bytesOf_102 rfl hv
  by_cases c13 : (x0) = 11
  · replace hv := hv.2.2.2.2.2.2.2.2.2.2.1 c13
    refine jg_tsIn 11 10 (tgt := 98) dX1_bytesOf_1 c13 (by decide) (by decide) rfl (by decide) ?_
    refine jg_iconst (v := 4) dX1_bytesOf_98 (by decide) ?_
    exact jg_iret dX1_bytesOf_99 rfl hv
  have c14 : (x0 : Int32).toInt < 1 ∨ 11 < (x0 : Int32).toInt := by
    have c1n : ¬ (x0 : Int32).toInt = 1 := fun q => c1 (Int32.toInt_inj.mp (q.trans (by decide)))
    have c2n : ¬ (x0 : Int32).toInt = 2 := fun q => c2 (Int32.toInt_inj.mp (q.trans (by decide)))
    have c3n : ¬ (x0 : Int32).toInt = 3 := fun q => c3 (Int32.toInt_inj.mp (q.trans (by decide)))
    have c4n : ¬ (x0 : Int32).toInt = 4 := fun q => c4 (Int32.toInt_inj.mp (q.trans (by decide)))
    have c5n : ¬ (x0 : Int32).toInt = 5 := fun q => c5 (Int32.toInt_inj.mp (q.trans (by decide)))
    have c6n : ¬ (x0 : Int32).toInt = 6 := fun q => c6 (Int32.toInt_inj.mp (q.trans (by decide)))
    have c7n : ¬ (x0 : Int32).toInt = 7 := fun q => c7 (Int32.toInt_inj.mp (q.trans (by decide)))
    have c8n : ¬ (x0 : Int32).toInt = 8 := fun q => c8 (Int32.toInt_inj.mp (q.trans (by decide)))
    have c11n : ¬ (x0 : Int32).toInt = 9 := fun q => c11 (Int32.toInt_inj.mp (q.trans (by decide)))
    have c12n : ¬ (x0 : Int32).toInt = 10 := fun q => c12 (Int32.toInt_inj.mp (q.trans (by decide)))
    have c13n : ¬ (x0 : Int32).toInt = 11 := fun q => c13 (Int32.toInt_inj.mp (q.trans (by decide)))
    omega
  replace hv := hv.2.2.2.2.2.2.2.2.2.2.2 c14
  refine jg_tsOut (tgt := 103) dX1_bytesOf_1 c14 (by decide) ?_
  refine jg_iconst (v := 0) dX1_bytesOf_103 (by decide) ?_
  exact jg_iret dX1_bytesOf_104 rfl hv
theorem eX1_bytesOf {g : jg} {x0 : Int32} {x1 : Int32} {h : jh} {mc ms : Nat} {Q : jq} (hv : VX1_bytesOf_0 g x0 x1 h mc ms Q) : jM g mX1_bytesOf [.inl (x0), .inl (x1)] h mc ms Q := jM.of (by decide) (Nat.le_of_ble_eq_true rfl) (lv := [(0, .inl (x0)), (1, .inl (x1))]) rfl (vX1_bytesOf_0 hv)
theorem dX0_isNumber_0 : decode cX0_isNumber 0 = .ok (.aload_n 0, 1) := by decide +kernel
theorem dX0_isNumber_1 : decode cX0_isNumber 1 = .ok (.getfield 18, 3) := by decide +kernel
theorem dX0_isNumber_4 : decode cX0_isNumber 4 = .ok (.invokestatic 50, 3) := by decide +kernel
theorem dX0_isNumber_7 : decode cX0_isNumber 7 = .ok (.ireturn, 1) := by decide +kernel
def VX0_isNumber_0 (g : jg) (a0 : Nat) (h : jh) (k n : Nat) (Q : jq) : Prop := (jt h a0 = 1) ∧ jM g mX1_isNumeric [.inl (ji h 2 a0)] h 0 0 (jki (fun (r2 : Int32) (h3 : jh) => ((r2) = 0 ∨ (r2) = 1) ∧ Q (.inl (some (.inl (r2)))) h3) (fun e h9 => Q (.inr e) h9))
set_option maxRecDepth 20000 in
theorem vX0_isNumber_0 {g : jg} {a0 : Nat} {h : jh} {k n : Nat} {Q : jq} (hv : VX0_isNumber_0 g a0 h k n Q) : jG g mX0_isNumber 0 [(0, .inr (.inr (some (a0))))] [] h k n Q := by
  unfold VX0_isNumber_0 at hv
  refine jg_aload_n dX0_isNumber_0 rfl (List.Mem.head _) ?_
  obtain ⟨f1, hv⟩ := hv
  refine jg_geti dX0_isNumber_1 fl_RX0_18 rfl jsn f1 ?_
  refine jg_callS mX1_isNumeric [.inl (ji h 2 a0)] [] dX0_isNumber_4 rfl cl_RX0_50 ⟨⟨by decide, by decide⟩, by decide⟩ (Nat.zero_le _) (Nat.zero_le _) (jM.mono (jki_k (fun r2 h3 hv => ?_)) hv)
  obtain ⟨f4, hv⟩ := hv
  exact jg_bret dX0_isNumber_7 rfl f4 hv
theorem eX0_isNumber {g : jg} {a0 : Nat} {h : jh} {mc ms : Nat} {Q : jq} (hv : VX0_isNumber_0 g a0 h mc ms Q) : jM g mX0_isNumber [.inr (.inr (some (a0)))] h mc ms Q := jM.of (by decide) (Nat.le_of_ble_eq_true rfl) (lv := [(0, .inr (.inr (some (a0))))]) rfl (vX0_isNumber_0 hv)
theorem dX0_isInner_0 : decode cX0_isInner 0 = .ok (.aload_n 0, 1) := by decide +kernel
theorem dX0_isInner_1 : decode cX0_isInner 1 = .ok (.getfield 15, 3) := by decide +kernel
theorem dX0_isInner_4 : decode cX0_isInner 4 = .ok (.iconst 1, 1) := by decide +kernel
theorem dX0_isInner_5 : decode cX0_isInner 5 = .ok (.if_icmp .le 16, 3) := by decide +kernel
theorem dX0_isInner_8 : decode cX0_isInner 8 = .ok (.aload_n 0, 1) := by decide +kernel
theorem dX0_isInner_9 : decode cX0_isInner 9 = .ok (.getfield 15, 3) := by decide +kernel
theorem dX0_isInner_12 : decode cX0_isInner 12 = .ok (.bipush 49, 2) := by decide +kernel
theorem dX0_isInner_14 : decode cX0_isInner 14 = .ok (.if_icmp .gt 7, 3) := by decide +kernel
theorem dX0_isInner_17 : decode cX0_isInner 17 = .ok (.iconst 1, 1) := by decide +kernel
theorem dX0_isInner_18 : decode cX0_isInner 18 = .ok (.goto 4, 3) := by decide +kernel
theorem dX0_isInner_21 : decode cX0_isInner 21 = .ok (.iconst 0, 1) := by decide +kernel
theorem dX0_isInner_22 : decode cX0_isInner 22 = .ok (.ireturn, 1) := by decide +kernel
def VX0_isInner_0 (g : jg) (a0 : Nat) (h : jh) (k n : Nat) (Q : jq) : Prop := (jt h a0 = 1) ∧ (((ji h 1 a0) ≤ (1) → Q (.inl (some (.inl (0)))) h) ∧ (¬ (ji h 1 a0) ≤ (1) → (((49 : Int32) < (ji h 1 a0) → Q (.inl (some (.inl (0)))) h) ∧ (¬ (49 : Int32) < (ji h 1 a0) → Q (.inl (some (.inl (1)))) h))))
set_option maxRecDepth 20000 in
theorem vX0_isInner_0 {g : jg} {a0 : Nat} {h : jh} {k n : Nat} {Q : jq} (hv : VX0_isInner_0 g a0 h k n Q) : jG g mX0_isInner 0 [(0, .inr (.inr (some (a0))))] [] h k n Q := by
  unfold VX0_isInner_0 at hv
  refine jg_aload_n dX0_isInner_0 rfl (List.Mem.head _) ?_
  obtain ⟨f1, hv⟩ := hv
  refine jg_geti dX0_isInner_1 fl_RX0_15 rfl jsn f1 ?_
  refine jg_iconst (v := 1) dX0_isInner_4 (by decide) ?_
  refine jg_icmp_le (tgt := 21) dX0_isInner_5 (by decide) (fun c2 => ?_) (fun c2 => ?_)
  · replace hv := hv.1 c2
    refine jg_iconst (v := 0) dX0_isInner_21 (by decide) ?_
    exact jg_bret dX0_isInner_22 rfl (by decide) hv
  · replace hv := hv.2 c2
    refine jg_aload_n dX0_isInner_8 rfl (List.Mem.head _) ?_
    refine jg_geti dX0_isInner_9 fl_RX0_15 rfl jsn f1 ?_
    refine jg_bipush (v := 49) dX0_isInner_12 (by decide) ?_
    refine jg_icmp_gt (tgt := 21) dX0_isInner_14 (by decide) (fun c3 => ?_) (fun c3 => ?_)
    · replace hv := hv.1 c3
      refine jg_iconst (v := 0) dX0_isInner_21 (by decide) ?_
      exact jg_bret dX0_isInner_22 rfl (by decide) hv
    · replace hv := hv.2 c3
      refine jg_iconst (v := 1) dX0_isInner_17 (by decide) ?_
      refine jg_goto (tgt := 22) dX0_isInner_18 (by decide) ?_
      exact jg_bret dX0_isInner_22 rfl (by decide) hv
theorem eX0_isInner {g : jg} {a0 : Nat} {h : jh} {mc ms : Nat} {Q : jq} (hv : VX0_isInner_0 g a0 h mc ms Q) : jM g mX0_isInner [.inr (.inr (some (a0)))] h mc ms Q := jM.of (by decide) (Nat.le_of_ble_eq_true rfl) (lv := [(0, .inr (.inr (some (a0))))]) rfl (vX0_isInner_0 hv)
theorem dX0_lies_0 : decode cX0_lies 0 = .ok (.aload_n 0, 1) := by decide +kernel
theorem dX0_lies_1 : decode cX0_lies 1 = .ok (.getfield 15, 3) := by decide +kernel
theorem dX0_lies_4 : decode cX0_lies 4 = .ok (.bipush 66, 2) := by decide +kernel
theorem dX0_lies_6 : decode cX0_lies 6 = .ok (.if_icmp .eq 16, 3) := by decide +kernel
theorem dX0_lies_9 : decode cX0_lies 9 = .ok (.aload_n 0, 1) := by decide +kernel
theorem dX0_lies_10 : decode cX0_lies 10 = .ok (.getfield 15, 3) := by decide +kernel
theorem dX0_lies_13 : decode cX0_lies 13 = .ok (.bipush 88, 2) := by decide +kernel
theorem dX0_lies_15 : decode cX0_lies 15 = .ok (.if_icmp .eq 7, 3) := by decide +kernel
theorem dX0_lies_18 : decode cX0_lies 18 = .ok (.iconst 1, 1) := by decide +kernel
theorem dX0_lies_19 : decode cX0_lies 19 = .ok (.goto 4, 3) := by decide +kernel
theorem dX0_lies_22 : decode cX0_lies 22 = .ok (.iconst 0, 1) := by decide +kernel
theorem dX0_lies_23 : decode cX0_lies 23 = .ok (.ireturn, 1) := by decide +kernel
def VX0_lies_0 (g : jg) (a0 : Nat) (h : jh) (k n : Nat) (Q : jq) : Prop := (jt h a0 = 1) ∧ (((ji h 1 a0) = (66) → Q (.inl (some (.inl (0)))) h) ∧ (¬ (ji h 1 a0) = (66) → (((ji h 1 a0) = (88) → Q (.inl (some (.inl (0)))) h) ∧ (¬ (ji h 1 a0) = (88) → Q (.inl (some (.inl (1)))) h))))
set_option maxRecDepth 20000 in
theorem vX0_lies_0 {g : jg} {a0 : Nat} {h : jh} {k n : Nat} {Q : jq} (hv : VX0_lies_0 g a0 h k n Q) : jG g mX0_lies 0 [(0, .inr (.inr (some (a0))))] [] h k n Q := by
  unfold VX0_lies_0 at hv
  refine jg_aload_n dX0_lies_0 rfl (List.Mem.head _) ?_
  obtain ⟨f1, hv⟩ := hv
  refine jg_geti dX0_lies_1 fl_RX0_15 rfl jsn f1 ?_
  refine jg_bipush (v := 66) dX0_lies_4 (by decide) ?_
  refine jg_icmp_eq (tgt := 22) dX0_lies_6 (by decide) (fun c2 => ?_) (fun c2 => ?_)
  · replace hv := hv.1 c2
    refine jg_iconst (v := 0) dX0_lies_22 (by decide) ?_
    exact jg_bret dX0_lies_23 rfl (by decide) hv
  · replace hv := hv.2 c2
    refine jg_aload_n dX0_lies_9 rfl (List.Mem.head _) ?_
    refine jg_geti dX0_lies_10 fl_RX0_15 rfl jsn f1 ?_
    refine jg_bipush (v := 88) dX0_lies_13 (by decide) ?_
    refine jg_icmp_eq (tgt := 22) dX0_lies_15 (by decide) (fun c3 => ?_) (fun c3 => ?_)
    · replace hv := hv.1 c3
      refine jg_iconst (v := 0) dX0_lies_22 (by decide) ?_
      exact jg_bret dX0_lies_23 rfl (by decide) hv
    · replace hv := hv.2 c3
      refine jg_iconst (v := 1) dX0_lies_18 (by decide) ?_
      refine jg_goto (tgt := 23) dX0_lies_19 (by decide) ?_
      exact jg_bret dX0_lies_23 rfl (by decide) hv
theorem eX0_lies {g : jg} {a0 : Nat} {h : jh} {mc ms : Nat} {Q : jq} (hv : VX0_lies_0 g a0 h mc ms Q) : jM g mX0_lies [.inr (.inr (some (a0)))] h mc ms Q := jM.of (by decide) (Nat.le_of_ble_eq_true rfl) (lv := [(0, .inr (.inr (some (a0))))]) rfl (vX0_lies_0 hv)
theorem dX0_isBelow_0 : decode cX0_isBelow 0 = .ok (.aload_n 0, 1) := by decide +kernel
theorem dX0_isBelow_1 : decode cX0_isBelow 1 = .ok (.getfield 33, 3) := by decide +kernel
theorem dX0_isBelow_4 : decode cX0_isBelow 4 = .ok (.astore_n 2, 1) := by decide +kernel
theorem dX0_isBelow_5 : decode cX0_isBelow 5 = .ok (.aload_n 2, 1) := by decide +kernel
theorem dX0_isBelow_6 : decode cX0_isBelow 6 = .ok (.ifnull 18, 3) := by decide +kernel
theorem dX0_isBelow_9 : decode cX0_isBelow 9 = .ok (.aload_n 2, 1) := by decide +kernel
theorem dX0_isBelow_10 : decode cX0_isBelow 10 = .ok (.aload_n 1, 1) := by decide +kernel
theorem dX0_isBelow_11 : decode cX0_isBelow 11 = .ok (.if_acmp .ne 5, 3) := by decide +kernel
theorem dX0_isBelow_14 : decode cX0_isBelow 14 = .ok (.iconst 1, 1) := by decide +kernel
theorem dX0_isBelow_15 : decode cX0_isBelow 15 = .ok (.ireturn, 1) := by decide +kernel
theorem dX0_isBelow_16 : decode cX0_isBelow 16 = .ok (.aload_n 2, 1) := by decide +kernel
theorem dX0_isBelow_17 : decode cX0_isBelow 17 = .ok (.getfield 33, 3) := by decide +kernel
theorem dX0_isBelow_20 : decode cX0_isBelow 20 = .ok (.astore_n 2, 1) := by decide +kernel
theorem dX0_isBelow_21 : decode cX0_isBelow 21 = .ok (.goto (-16), 3) := by decide +kernel
theorem dX0_isBelow_24 : decode cX0_isBelow 24 = .ok (.iconst 0, 1) := by decide +kernel
theorem dX0_isBelow_25 : decode cX0_isBelow 25 = .ok (.ireturn, 1) := by decide +kernel
def VX0_isBelow_5 (g : jg) (o1 : Option Nat) (o2 : Option Nat) (h : jh) (k n : Nat) (Q : jq) : Prop := (((o2) = none → Q (.inl (some (.inl (0)))) h) ∧ (¬ (o2) = none → ((¬ (o2) = (o1) → (jt h (jd (o2)) = 1) ∧ jG g mX0_isBelow 5 [(1, .inr (.inr (o1))), (2, .inr (.inr (jr h 5 (jd (o2)))))] [] h k n Q) ∧ ((o2) = (o1) → Q (.inl (some (.inl (1)))) h))))
set_option maxRecDepth 20000 in
theorem vX0_isBelow_5 {g : jg} {o1 : Option Nat} {o2 : Option Nat} {h : jh} {k n : Nat} {Q : jq} (hv : VX0_isBelow_5 g o1 o2 h k n Q) : jG g mX0_isBelow 5 [(1, .inr (.inr (o1))), (2, .inr (.inr (o2)))] [] h k n Q := by
  unfold VX0_isBelow_5 at hv
  refine jg_aload_n dX0_isBelow_5 rfl (List.Mem.tail _ (List.Mem.head _)) ?_
  refine jg_ifnull (tgt := 24) dX0_isBelow_6 (by decide) (fun c1 => ?_) (fun c1 => ?_)
  · replace hv := hv.1 c1
    refine jg_iconst (v := 0) dX0_isBelow_24 (by decide) ?_
    exact jg_bret dX0_isBelow_25 rfl (by decide) hv
  · replace hv := hv.2 c1
    refine jg_aload_n dX0_isBelow_9 rfl (List.Mem.tail _ (List.Mem.head _)) ?_
    refine jg_aload_n dX0_isBelow_10 rfl (List.Mem.head _) ?_
    refine jg_acmp_ne (tgt := 16) dX0_isBelow_11 (by decide) (fun c2 => ?_) (fun c2 => ?_)
    · replace hv := hv.1 c2
      refine jg_aload_n dX0_isBelow_16 rfl (List.Mem.tail _ (List.Mem.head _)) ?_
      obtain ⟨f3, hv⟩ := hv
      refine jg_getr dX0_isBelow_17 fl_RX0_33 rfl c1 f3 ?_
      refine jg_astore_n (lv' := [(2, .inr (.inr (jr h 5 (jd (o2))))), (1, .inr (.inr (o1)))]) dX0_isBelow_20 rfl (by decide) rfl ?_
      refine jg_goto (tgt := 5) dX0_isBelow_21 (by decide) ?_
      refine jG.sub (lv' := [(1, .inr (.inr (o1))), (2, .inr (.inr (jr h 5 (jd (o2)))))]) (by simp) ?_
      exact hv
    · replace hv := hv.2 c2
      refine jg_iconst (v := 1) dX0_isBelow_14 (by decide) ?_
      exact jg_bret dX0_isBelow_15 rfl (by decide) hv
def VX0_isBelow_0 (g : jg) (a0 : Nat) (o1 : Option Nat) (h : jh) (k n : Nat) (Q : jq) : Prop := (jt h a0 = 1) ∧ jG g mX0_isBelow 5 [(1, .inr (.inr (o1))), (2, .inr (.inr (jr h 5 a0)))] [] h k n Q
set_option maxRecDepth 20000 in
theorem vX0_isBelow_0 {g : jg} {a0 : Nat} {o1 : Option Nat} {h : jh} {k n : Nat} {Q : jq} (hv : VX0_isBelow_0 g a0 o1 h k n Q) : jG g mX0_isBelow 0 [(0, .inr (.inr (some (a0)))), (1, .inr (.inr (o1)))] [] h k n Q := by
  unfold VX0_isBelow_0 at hv
  refine jg_aload_n dX0_isBelow_0 rfl (List.Mem.head _) ?_
  obtain ⟨f4, hv⟩ := hv
  refine jg_getr dX0_isBelow_1 fl_RX0_33 rfl jsn f4 ?_
  refine jg_astore_n (lv' := [(2, .inr (.inr (jr h 5 a0))), (0, .inr (.inr (some (a0)))), (1, .inr (.inr (o1)))]) dX0_isBelow_4 rfl (by decide) rfl ?_
  refine jG.sub (lv' := [(1, .inr (.inr (o1))), (2, .inr (.inr (jr h 5 a0)))]) (by simp) ?_
  exact hv
theorem eX0_isBelow {g : jg} {a0 : Nat} {o1 : Option Nat} {h : jh} {mc ms : Nat} {Q : jq} (hv : VX0_isBelow_0 g a0 o1 h mc ms Q) : jM g mX0_isBelow [.inr (.inr (some (a0))), .inr (.inr (o1))] h mc ms Q := jM.of (by decide) (Nat.le_of_ble_eq_true rfl) (lv := [(0, .inr (.inr (some (a0)))), (1, .inr (.inr (o1)))]) rfl (vX0_isBelow_0 hv)
theorem dX0_liesInRedefining_0 : decode cX0_liesInRedefining 0 = .ok (.aload_n 0, 1) := by decide +kernel
theorem dX0_liesInRedefining_1 : decode cX0_liesInRedefining 1 = .ok (.astore_n 1, 1) := by decide +kernel
theorem dX0_liesInRedefining_2 : decode cX0_liesInRedefining 2 = .ok (.aload_n 1, 1) := by decide +kernel
theorem dX0_liesInRedefining_3 : decode cX0_liesInRedefining 3 = .ok (.ifnull 20, 3) := by decide +kernel
theorem dX0_liesInRedefining_6 : decode cX0_liesInRedefining 6 = .ok (.aload_n 1, 1) := by decide +kernel
theorem dX0_liesInRedefining_7 : decode cX0_liesInRedefining 7 = .ok (.getfield 54, 3) := by decide +kernel
theorem dX0_liesInRedefining_10 : decode cX0_liesInRedefining 10 = .ok (.ifnull 5, 3) := by decide +kernel
theorem dX0_liesInRedefining_13 : decode cX0_liesInRedefining 13 = .ok (.iconst 1, 1) := by decide +kernel
theorem dX0_liesInRedefining_14 : decode cX0_liesInRedefining 14 = .ok (.ireturn, 1) := by decide +kernel
theorem dX0_liesInRedefining_15 : decode cX0_liesInRedefining 15 = .ok (.aload_n 1, 1) := by decide +kernel
theorem dX0_liesInRedefining_16 : decode cX0_liesInRedefining 16 = .ok (.getfield 33, 3) := by decide +kernel
theorem dX0_liesInRedefining_19 : decode cX0_liesInRedefining 19 = .ok (.astore_n 1, 1) := by decide +kernel
theorem dX0_liesInRedefining_20 : decode cX0_liesInRedefining 20 = .ok (.goto (-18), 3) := by decide +kernel
theorem dX0_liesInRedefining_23 : decode cX0_liesInRedefining 23 = .ok (.iconst 0, 1) := by decide +kernel
theorem dX0_liesInRedefining_24 : decode cX0_liesInRedefining 24 = .ok (.ireturn, 1) := by decide +kernel
def VX0_liesInRedefining_2 (g : jg) (o1 : Option Nat) (h : jh) (k n : Nat) (Q : jq) : Prop := (((o1) = none → Q (.inl (some (.inl (0)))) h) ∧ (¬ (o1) = none → (jt h (jd (o1)) = 1) ∧ (((jr h 17 (jd (o1))) = none → jG g mX0_liesInRedefining 2 [(1, .inr (.inr (jr h 5 (jd (o1)))))] [] h k n Q) ∧ (¬ (jr h 17 (jd (o1))) = none → Q (.inl (some (.inl (1)))) h))))
set_option maxRecDepth 20000 in
theorem vX0_liesInRedefining_2 {g : jg} {o1 : Option Nat} {h : jh} {k n : Nat} {Q : jq} (hv : VX0_liesInRedefining_2 g o1 h k n Q) : jG g mX0_liesInRedefining 2 [(1, .inr (.inr (o1)))] [] h k n Q := by
  unfold VX0_liesInRedefining_2 at hv
  refine jg_aload_n dX0_liesInRedefining_2 rfl (List.Mem.head _) ?_
  refine jg_ifnull (tgt := 23) dX0_liesInRedefining_3 (by decide) (fun c1 => ?_) (fun c1 => ?_)
  · replace hv := hv.1 c1
    refine jg_iconst (v := 0) dX0_liesInRedefining_23 (by decide) ?_
    exact jg_bret dX0_liesInRedefining_24 rfl (by decide) hv
  · replace hv := hv.2 c1
    refine jg_aload_n dX0_liesInRedefining_6 rfl (List.Mem.head _) ?_
    obtain ⟨f2, hv⟩ := hv
    refine jg_getr dX0_liesInRedefining_7 fl_RX0_54 rfl c1 f2 ?_
    refine jg_ifnull (tgt := 15) dX0_liesInRedefining_10 (by decide) (fun c3 => ?_) (fun c3 => ?_)
    · replace hv := hv.1 c3
      refine jg_aload_n dX0_liesInRedefining_15 rfl (List.Mem.head _) ?_
      refine jg_getr dX0_liesInRedefining_16 fl_RX0_33 rfl c1 f2 ?_
      refine jg_astore_n (lv' := [(1, .inr (.inr (jr h 5 (jd (o1)))))]) dX0_liesInRedefining_19 rfl (by decide) rfl ?_
      refine jg_goto (tgt := 2) dX0_liesInRedefining_20 (by decide) ?_
      exact hv
    · replace hv := hv.2 c3
      refine jg_iconst (v := 1) dX0_liesInRedefining_13 (by decide) ?_
      exact jg_bret dX0_liesInRedefining_14 rfl (by decide) hv
def VX0_liesInRedefining_0 (g : jg) (a0 : Nat) (h : jh) (k n : Nat) (Q : jq) : Prop := jG g mX0_liesInRedefining 2 [(1, .inr (.inr (some (a0))))] [] h k n Q
set_option maxRecDepth 20000 in
theorem vX0_liesInRedefining_0 {g : jg} {a0 : Nat} {h : jh} {k n : Nat} {Q : jq} (hv : VX0_liesInRedefining_0 g a0 h k n Q) : jG g mX0_liesInRedefining 0 [(0, .inr (.inr (some (a0))))] [] h k n Q := by
  unfold VX0_liesInRedefining_0 at hv
  refine jg_aload_n dX0_liesInRedefining_0 rfl (List.Mem.head _) ?_
  refine jg_astore_n (lv' := [(1, .inr (.inr (some (a0)))), (0, .inr (.inr (some (a0))))]) dX0_liesInRedefining_1 rfl (by decide) rfl ?_
  refine jG.sub (lv' := [(1, .inr (.inr (some (a0))))]) (by simp) ?_
  exact hv
theorem eX0_liesInRedefining {g : jg} {a0 : Nat} {h : jh} {mc ms : Nat} {Q : jq} (hv : VX0_liesInRedefining_0 g a0 h mc ms Q) : jM g mX0_liesInRedefining [.inr (.inr (some (a0)))] h mc ms Q := jM.of (by decide) (Nat.le_of_ble_eq_true rfl) (lv := [(0, .inr (.inr (some (a0))))]) rfl (vX0_liesInRedefining_0 hv)
theorem dX0_tablesWithin_0 : decode cX0_tablesWithin 0 = .ok (.iconst 0, 1) := by decide +kernel
theorem dX0_tablesWithin_1 : decode cX0_tablesWithin 1 = .ok (.istore_n 1, 1) := by decide +kernel
theorem dX0_tablesWithin_2 : decode cX0_tablesWithin 2 = .ok (.aload_n 0, 1) := by decide +kernel
theorem dX0_tablesWithin_3 : decode cX0_tablesWithin 3 = .ok (.astore_n 2, 1) := by decide +kernel
theorem dX0_tablesWithin_4 : decode cX0_tablesWithin 4 = .ok (.aload_n 2, 1) := by decide +kernel
theorem dX0_tablesWithin_5 : decode cX0_tablesWithin 5 = .ok (.ifnull 21, 3) := by decide +kernel
theorem dX0_tablesWithin_8 : decode cX0_tablesWithin 8 = .ok (.aload_n 2, 1) := by decide +kernel
theorem dX0_tablesWithin_9 : decode cX0_tablesWithin 9 = .ok (.getfield 57, 3) := by decide +kernel
theorem dX0_tablesWithin_12 : decode cX0_tablesWithin 12 = .ok (.ifnull 6, 3) := by decide +kernel
theorem dX0_tablesWithin_15 : decode cX0_tablesWithin 15 = .ok (.iinc 1 1, 3) := by decide +kernel
theorem dX0_tablesWithin_18 : decode cX0_tablesWithin 18 = .ok (.aload_n 2, 1) := by decide +kernel
theorem dX0_tablesWithin_19 : decode cX0_tablesWithin 19 = .ok (.getfield 33, 3) := by decide +kernel
theorem dX0_tablesWithin_22 : decode cX0_tablesWithin 22 = .ok (.astore_n 2, 1) := by decide +kernel
theorem dX0_tablesWithin_23 : decode cX0_tablesWithin 23 = .ok (.goto (-19), 3) := by decide +kernel
theorem dX0_tablesWithin_26 : decode cX0_tablesWithin 26 = .ok (.iload_n 1, 1) := by decide +kernel
theorem dX0_tablesWithin_27 : decode cX0_tablesWithin 27 = .ok (.ireturn, 1) := by decide +kernel
def VX0_tablesWithin_4 (g : jg) (x1 : Int32) (o2 : Option Nat) (h : jh) (k n : Nat) (Q : jq) : Prop := (((o2) = none → Q (.inl (some (.inl (x1)))) h) ∧ (¬ (o2) = none → (jt h (jd (o2)) = 1) ∧ (((jr h 10 (jd (o2))) = none → jG g mX0_tablesWithin 4 [(1, .inl (x1)), (2, .inr (.inr (jr h 5 (jd (o2)))))] [] h k n Q) ∧ (¬ (jr h 10 (jd (o2))) = none → jG g mX0_tablesWithin 4 [(1, .inl ((x1) + 1)), (2, .inr (.inr (jr h 5 (jd (o2)))))] [] h k n Q))))
set_option maxRecDepth 20000 in
theorem vX0_tablesWithin_4 {g : jg} {x1 : Int32} {o2 : Option Nat} {h : jh} {k n : Nat} {Q : jq} (hv : VX0_tablesWithin_4 g x1 o2 h k n Q) : jG g mX0_tablesWithin 4 [(1, .inl (x1)), (2, .inr (.inr (o2)))] [] h k n Q := by
  unfold VX0_tablesWithin_4 at hv
  refine jg_aload_n dX0_tablesWithin_4 rfl (List.Mem.tail _ (List.Mem.head _)) ?_
  refine jg_ifnull (tgt := 26) dX0_tablesWithin_5 (by decide) (fun c1 => ?_) (fun c1 => ?_)
  · replace hv := hv.1 c1
    refine jg_iload_n dX0_tablesWithin_26 rfl (List.Mem.head _) ?_
    exact jg_iret dX0_tablesWithin_27 rfl hv
  · replace hv := hv.2 c1
    refine jg_aload_n dX0_tablesWithin_8 rfl (List.Mem.tail _ (List.Mem.head _)) ?_
    obtain ⟨f2, hv⟩ := hv
    refine jg_getr dX0_tablesWithin_9 fl_RX0_57 rfl c1 f2 ?_
    refine jg_ifnull (tgt := 18) dX0_tablesWithin_12 (by decide) (fun c3 => ?_) (fun c3 => ?_)
    · replace hv := hv.1 c3
      refine jg_aload_n dX0_tablesWithin_18 rfl (List.Mem.tail _ (List.Mem.head _)) ?_
      refine jg_getr dX0_tablesWithin_19 fl_RX0_33 rfl c1 f2 ?_
      refine jg_astore_n (lv' := [(2, .inr (.inr (jr h 5 (jd (o2))))), (1, .inl (x1))]) dX0_tablesWithin_22 rfl (by decide) rfl ?_
      refine jg_goto (tgt := 4) dX0_tablesWithin_23 (by decide) ?_
      refine jG.sub (lv' := [(1, .inl (x1)), (2, .inr (.inr (jr h 5 (jd (o2)))))]) (by simp) ?_
      exact hv
    · replace hv := hv.2 c3
      refine jg_iinc (v := (x1) + 1) (lv' := [(1, .inl ((x1) + 1)), (2, .inr (.inr (o2)))]) dX0_tablesWithin_15 (List.Mem.head _) rfl (by decide) rfl ?_
      refine jg_aload_n dX0_tablesWithin_18 rfl (List.Mem.tail _ (List.Mem.head _)) ?_
      refine jg_getr dX0_tablesWithin_19 fl_RX0_33 rfl c1 f2 ?_
      refine jg_astore_n (lv' := [(2, .inr (.inr (jr h 5 (jd (o2))))), (1, .inl ((x1) + 1))]) dX0_tablesWithin_22 rfl (by decide) rfl ?_
      refine jg_goto (tgt := 4) dX0_tablesWithin_23 (by decide) ?_
      refine jG.sub (lv' := [(1, .inl ((x1) + 1)), (2, .inr (.inr (jr h 5 (jd (o2)))))]) (by simp) ?_
      exact hv
def VX0_tablesWithin_0 (g : jg) (a0 : Nat) (h : jh) (k n : Nat) (Q : jq) : Prop := jG g mX0_tablesWithin 4 [(1, .inl (0)), (2, .inr (.inr (some (a0))))] [] h k n Q
set_option maxRecDepth 20000 in
theorem vX0_tablesWithin_0 {g : jg} {a0 : Nat} {h : jh} {k n : Nat} {Q : jq} (hv : VX0_tablesWithin_0 g a0 h k n Q) : jG g mX0_tablesWithin 0 [(0, .inr (.inr (some (a0))))] [] h k n Q := by
  unfold VX0_tablesWithin_0 at hv
  refine jg_iconst (v := 0) dX0_tablesWithin_0 (by decide) ?_
  refine jg_istore_n (lv' := [(1, .inl (0)), (0, .inr (.inr (some (a0))))]) dX0_tablesWithin_1 rfl (by decide) rfl ?_
  refine jg_aload_n dX0_tablesWithin_2 rfl (List.Mem.tail _ (List.Mem.head _)) ?_
  refine jg_astore_n (lv' := [(2, .inr (.inr (some (a0)))), (1, .inl (0)), (0, .inr (.inr (some (a0))))]) dX0_tablesWithin_3 rfl (by decide) rfl ?_
  refine jG.sub (lv' := [(1, .inl (0)), (2, .inr (.inr (some (a0))))]) (by simp) ?_
  exact hv
theorem eX0_tablesWithin {g : jg} {a0 : Nat} {h : jh} {mc ms : Nat} {Q : jq} (hv : VX0_tablesWithin_0 g a0 h mc ms Q) : jM g mX0_tablesWithin [.inr (.inr (some (a0)))] h mc ms Q := jM.of (by decide) (Nat.le_of_ble_eq_true rfl) (lv := [(0, .inr (.inr (some (a0))))]) rfl (vX0_tablesWithin_0 hv)
theorem dX0_tableOutwards_0 : decode cX0_tableOutwards 0 = .ok (.iload_n 1, 1) := by decide +kernel
theorem dX0_tableOutwards_1 : decode cX0_tableOutwards 1 = .ok (.istore_n 2, 1) := by decide +kernel
theorem dX0_tableOutwards_2 : decode cX0_tableOutwards 2 = .ok (.aload_n 0, 1) := by decide +kernel
theorem dX0_tableOutwards_3 : decode cX0_tableOutwards 3 = .ok (.astore_n 3, 1) := by decide +kernel
theorem dX0_tableOutwards_4 : decode cX0_tableOutwards 4 = .ok (.aload_n 3, 1) := by decide +kernel
theorem dX0_tableOutwards_5 : decode cX0_tableOutwards 5 = .ok (.ifnull 30, 3) := by decide +kernel
theorem dX0_tableOutwards_8 : decode cX0_tableOutwards 8 = .ok (.aload_n 3, 1) := by decide +kernel
theorem dX0_tableOutwards_9 : decode cX0_tableOutwards 9 = .ok (.getfield 57, 3) := by decide +kernel
theorem dX0_tableOutwards_12 : decode cX0_tableOutwards 12 = .ok (.ifnull 15, 3) := by decide +kernel
theorem dX0_tableOutwards_15 : decode cX0_tableOutwards 15 = .ok (.iload_n 2, 1) := by decide +kernel
theorem dX0_tableOutwards_16 : decode cX0_tableOutwards 16 = .ok (.ifCond .ne 8, 3) := by decide +kernel
theorem dX0_tableOutwards_19 : decode cX0_tableOutwards 19 = .ok (.aload_n 3, 1) := by decide +kernel
theorem dX0_tableOutwards_20 : decode cX0_tableOutwards 20 = .ok (.getfield 57, 3) := by decide +kernel
theorem dX0_tableOutwards_23 : decode cX0_tableOutwards 23 = .ok (.areturn, 1) := by decide +kernel
theorem dX0_tableOutwards_24 : decode cX0_tableOutwards 24 = .ok (.iinc 2 (-1), 3) := by decide +kernel
theorem dX0_tableOutwards_27 : decode cX0_tableOutwards 27 = .ok (.aload_n 3, 1) := by decide +kernel
theorem dX0_tableOutwards_28 : decode cX0_tableOutwards 28 = .ok (.getfield 33, 3) := by decide +kernel
theorem dX0_tableOutwards_31 : decode cX0_tableOutwards 31 = .ok (.astore_n 3, 1) := by decide +kernel
theorem dX0_tableOutwards_32 : decode cX0_tableOutwards 32 = .ok (.goto (-28), 3) := by decide +kernel
theorem dX0_tableOutwards_35 : decode cX0_tableOutwards 35 = .ok (.aconst_null, 1) := by decide +kernel
theorem dX0_tableOutwards_36 : decode cX0_tableOutwards 36 = .ok (.areturn, 1) := by decide +kernel
def VX0_tableOutwards_4 (g : jg) (x2 : Int32) (o3 : Option Nat) (h : jh) (k n : Nat) (Q : jq) : Prop := (((o3) = none → Q (.inl (some (.inr (.inr (none))))) h) ∧ (¬ (o3) = none → (jt h (jd (o3)) = 1) ∧ (((jr h 10 (jd (o3))) = none → jG g mX0_tableOutwards 4 [(2, .inl (x2)), (3, .inr (.inr (jr h 5 (jd (o3)))))] [] h k n Q) ∧ (¬ (jr h 10 (jd (o3))) = none → ((¬ (x2) = 0 → jG g mX0_tableOutwards 4 [(2, .inl ((x2) + (-1))), (3, .inr (.inr (jr h 5 (jd (o3)))))] [] h k n Q) ∧ ((x2) = 0 → Q (.inl (some (.inr (.inr (jr h 10 (jd (o3))))))) h))))))
set_option maxRecDepth 20000 in
theorem vX0_tableOutwards_4 {g : jg} {x2 : Int32} {o3 : Option Nat} {h : jh} {k n : Nat} {Q : jq} (hv : VX0_tableOutwards_4 g x2 o3 h k n Q) : jG g mX0_tableOutwards 4 [(2, .inl (x2)), (3, .inr (.inr (o3)))] [] h k n Q := by
  unfold VX0_tableOutwards_4 at hv
  refine jg_aload_n dX0_tableOutwards_4 rfl (List.Mem.tail _ (List.Mem.head _)) ?_
  refine jg_ifnull (tgt := 35) dX0_tableOutwards_5 (by decide) (fun c1 => ?_) (fun c1 => ?_)
  · replace hv := hv.1 c1
    refine jg_null dX0_tableOutwards_35 ?_
    exact jg_aret dX0_tableOutwards_36 rfl hv
  · replace hv := hv.2 c1
    refine jg_aload_n dX0_tableOutwards_8 rfl (List.Mem.tail _ (List.Mem.head _)) ?_
    obtain ⟨f2, hv⟩ := hv
    refine jg_getr dX0_tableOutwards_9 fl_RX0_57 rfl c1 f2 ?_
    refine jg_ifnull (tgt := 27) dX0_tableOutwards_12 (by decide) (fun c3 => ?_) (fun c3 => ?_)
    · replace hv := hv.1 c3
      refine jg_aload_n dX0_tableOutwards_27 rfl (List.Mem.tail _ (List.Mem.head _)) ?_
      refine jg_getr dX0_tableOutwards_28 fl_RX0_33 rfl c1 f2 ?_
      refine jg_astore_n (lv' := [(3, .inr (.inr (jr h 5 (jd (o3))))), (2, .inl (x2))]) dX0_tableOutwards_31 rfl (by decide) rfl ?_
      refine jg_goto (tgt := 4) dX0_tableOutwards_32 (by decide) ?_
      refine jG.sub (lv' := [(2, .inl (x2)), (3, .inr (.inr (jr h 5 (jd (o3)))))]) (by simp) ?_
      exact hv
    · replace hv := hv.2 c3
      refine jg_iload_n dX0_tableOutwards_15 rfl (List.Mem.head _) ?_
      refine jg_if_ne (tgt := 24) dX0_tableOutwards_16 (by decide) (fun c4 => ?_) (fun c4 => ?_)
      · replace hv := hv.1 c4
        refine jg_iinc (v := (x2) + (-1)) (lv' := [(2, .inl ((x2) + (-1))), (3, .inr (.inr (o3)))]) dX0_tableOutwards_24 (List.Mem.head _) rfl (by decide) rfl ?_
        refine jg_aload_n dX0_tableOutwards_27 rfl (List.Mem.tail _ (List.Mem.head _)) ?_
        refine jg_getr dX0_tableOutwards_28 fl_RX0_33 rfl c1 f2 ?_
        refine jg_astore_n (lv' := [(3, .inr (.inr (jr h 5 (jd (o3))))), (2, .inl ((x2) + (-1)))]) dX0_tableOutwards_31 rfl (by decide) rfl ?_
        refine jg_goto (tgt := 4) dX0_tableOutwards_32 (by decide) ?_
        refine jG.sub (lv' := [(2, .inl ((x2) + (-1))), (3, .inr (.inr (jr h 5 (jd (o3)))))]) (by simp) ?_
        exact hv
      · replace hv := hv.2 c4
        refine jg_aload_n dX0_tableOutwards_19 rfl (List.Mem.tail _ (List.Mem.head _)) ?_
        refine jg_getr dX0_tableOutwards_20 fl_RX0_57 rfl c1 f2 ?_
        exact jg_aret dX0_tableOutwards_23 rfl hv
def VX0_tableOutwards_0 (g : jg) (a0 : Nat) (x1 : Int32) (h : jh) (k n : Nat) (Q : jq) : Prop := jG g mX0_tableOutwards 4 [(2, .inl (x1)), (3, .inr (.inr (some (a0))))] [] h k n Q
set_option maxRecDepth 20000 in
theorem vX0_tableOutwards_0 {g : jg} {a0 : Nat} {x1 : Int32} {h : jh} {k n : Nat} {Q : jq} (hv : VX0_tableOutwards_0 g a0 x1 h k n Q) : jG g mX0_tableOutwards 0 [(0, .inr (.inr (some (a0)))), (1, .inl (x1))] [] h k n Q := by
  unfold VX0_tableOutwards_0 at hv
  refine jg_iload_n dX0_tableOutwards_0 rfl (List.Mem.tail _ (List.Mem.head _)) ?_
  refine jg_istore_n (lv' := [(2, .inl (x1)), (0, .inr (.inr (some (a0)))), (1, .inl (x1))]) dX0_tableOutwards_1 rfl (by decide) rfl ?_
  refine jg_aload_n dX0_tableOutwards_2 rfl (List.Mem.tail _ (List.Mem.head _)) ?_
  refine jg_astore_n (lv' := [(3, .inr (.inr (some (a0)))), (2, .inl (x1)), (0, .inr (.inr (some (a0)))), (1, .inl (x1))]) dX0_tableOutwards_3 rfl (by decide) rfl ?_
  refine jG.sub (lv' := [(2, .inl (x1)), (3, .inr (.inr (some (a0))))]) (by simp) ?_
  exact hv
theorem eX0_tableOutwards {g : jg} {a0 : Nat} {x1 : Int32} {h : jh} {mc ms : Nat} {Q : jq} (hv : VX0_tableOutwards_0 g a0 x1 h mc ms Q) : jM g mX0_tableOutwards [.inr (.inr (some (a0))), .inl (x1)] h mc ms Q := jM.of (by decide) (Nat.le_of_ble_eq_true rfl) (lv := [(0, .inr (.inr (some (a0)))), (1, .inl (x1))]) rfl (vX0_tableOutwards_0 hv)
theorem dX0_length_0 : decode cX0_length 0 = .ok (.aload_n 0, 1) := by decide +kernel
theorem dX0_length_1 : decode cX0_length 1 = .ok (.getfield 43, 3) := by decide +kernel
theorem dX0_length_4 : decode cX0_length 4 = .ok (.getfield 61, 3) := by decide +kernel
theorem dX0_length_7 : decode cX0_length 7 = .ok (.aload_n 0, 1) := by decide +kernel
theorem dX0_length_8 : decode cX0_length 8 = .ok (.getfield 43, 3) := by decide +kernel
theorem dX0_length_11 : decode cX0_length 11 = .ok (.getfield 65, 3) := by decide +kernel
theorem dX0_length_14 : decode cX0_length 14 = .ok (.lsub, 1) := by decide +kernel
theorem dX0_length_15 : decode cX0_length 15 = .ok (.lreturn, 1) := by decide +kernel
def VX0_length_0 (g : jg) (a0 : Nat) (h : jh) (k n : Nat) (Q : jq) : Prop := (jt h a0 = 1) ∧ (¬ (jr h 7 a0) = none) ∧ (jt h (jd (jr h 7 a0)) = 4) ∧ Q (.inl (some (.inr (.inl ((jl h 193 (jd (jr h 7 a0))) - (jl h 192 (jd (jr h 7 a0)))))))) h
set_option maxRecDepth 20000 in
theorem vX0_length_0 {g : jg} {a0 : Nat} {h : jh} {k n : Nat} {Q : jq} (hv : VX0_length_0 g a0 h k n Q) : jG g mX0_length 0 [(0, .inr (.inr (some (a0))))] [] h k n Q := by
  unfold VX0_length_0 at hv
  refine jg_aload_n dX0_length_0 rfl (List.Mem.head _) ?_
  obtain ⟨f1, hv⟩ := hv
  refine jg_getr dX0_length_1 fl_RX0_43 rfl jsn f1 ?_
  obtain ⟨f2, hv⟩ := hv
  obtain ⟨f3, hv⟩ := hv
  refine jg_getl dX0_length_4 fl_RX0_61 rfl f2 f3 ?_
  refine jg_aload_n dX0_length_7 rfl (List.Mem.head _) ?_
  refine jg_getr dX0_length_8 fl_RX0_43 rfl jsn f1 ?_
  refine jg_getl dX0_length_11 fl_RX0_65 rfl f2 f3 ?_
  refine jg_lsub dX0_length_14 ?_
  exact jg_lret dX0_length_15 rfl hv
theorem eX0_length {g : jg} {a0 : Nat} {h : jh} {mc ms : Nat} {Q : jq} (hv : VX0_length_0 g a0 h mc ms Q) : jM g mX0_length [.inr (.inr (some (a0)))] h mc ms Q := jM.of (by decide) (Nat.le_of_ble_eq_true rfl) (lv := [(0, .inr (.inr (some (a0))))]) rfl (vX0_length_0 hv)
theorem dX0_lengthNow_0 : decode cX0_lengthNow 0 = .ok (.aload_n 0, 1) := by decide +kernel
theorem dX0_lengthNow_1 : decode cX0_lengthNow 1 = .ok (.getfield 43, 3) := by decide +kernel
theorem dX0_lengthNow_4 : decode cX0_lengthNow 4 = .ok (.getfield 68, 3) := by decide +kernel
theorem dX0_lengthNow_7 : decode cX0_lengthNow 7 = .ok (.astore_n 1, 1) := by decide +kernel
theorem dX0_lengthNow_8 : decode cX0_lengthNow 8 = .ok (.aload_n 1, 1) := by decide +kernel
theorem dX0_lengthNow_9 : decode cX0_lengthNow 9 = .ok (.ifnonnull 8, 3) := by decide +kernel
theorem dX0_lengthNow_12 : decode cX0_lengthNow 12 = .ok (.aload_n 0, 1) := by decide +kernel
theorem dX0_lengthNow_13 : decode cX0_lengthNow 13 = .ok (.invokevirtual 71, 3) := by decide +kernel
theorem dX0_lengthNow_16 : decode cX0_lengthNow 16 = .ok (.lreturn, 1) := by decide +kernel
theorem dX0_lengthNow_17 : decode cX0_lengthNow 17 = .ok (.aload_n 0, 1) := by decide +kernel
theorem dX0_lengthNow_18 : decode cX0_lengthNow 18 = .ok (.invokevirtual 71, 3) := by decide +kernel
theorem dX0_lengthNow_21 : decode cX0_lengthNow 21 = .ok (.aload_n 1, 1) := by decide +kernel
theorem dX0_lengthNow_22 : decode cX0_lengthNow 22 = .ok (.getfield 75, 3) := by decide +kernel
theorem dX0_lengthNow_25 : decode cX0_lengthNow 25 = .ok (.aload_n 1, 1) := by decide +kernel
theorem dX0_lengthNow_26 : decode cX0_lengthNow 26 = .ok (.getfield 80, 3) := by decide +kernel
theorem dX0_lengthNow_29 : decode cX0_lengthNow 29 = .ok (.isub, 1) := by decide +kernel
theorem dX0_lengthNow_30 : decode cX0_lengthNow 30 = .ok (.i2l, 1) := by decide +kernel
theorem dX0_lengthNow_31 : decode cX0_lengthNow 31 = .ok (.aload_n 1, 1) := by decide +kernel
theorem dX0_lengthNow_32 : decode cX0_lengthNow 32 = .ok (.getfield 83, 3) := by decide +kernel
theorem dX0_lengthNow_35 : decode cX0_lengthNow 35 = .ok (.lmul, 1) := by decide +kernel
theorem dX0_lengthNow_36 : decode cX0_lengthNow 36 = .ok (.lsub, 1) := by decide +kernel
theorem dX0_lengthNow_37 : decode cX0_lengthNow 37 = .ok (.lreturn, 1) := by decide +kernel
def VX0_lengthNow_0 (g : jg) (a0 : Nat) (h : jh) (k n : Nat) (Q : jq) : Prop := (jt h a0 = 1) ∧ (¬ (jr h 7 a0) = none) ∧ (jt h (jd (jr h 7 a0)) = 4) ∧ ((¬ (jr h 197 (jd (jr h 7 a0))) = none → jM g mX0_length [.inr (.inr (some a0))] h 0 0 (jkl (fun (r5 : Int64) (h6 : jh) => (jt h6 (jd (jr h 197 (jd (jr h 7 a0)))) = 6) ∧ Q (.inl (some (.inr (.inl ((r5) - ((((ji h6 321 (jd (jr h 197 (jd (jr h 7 a0))))) - (ji h6 323 (jd (jr h 197 (jd (jr h 7 a0))))) : Int32).toInt64) * (jl h6 324 (jd (jr h 197 (jd (jr h 7 a0))))))))))) h6) (fun e h9 => Q (.inr e) h9))) ∧ ((jr h 197 (jd (jr h 7 a0))) = none → jM g mX0_length [.inr (.inr (some a0))] h 0 0 (jkl (fun (r8 : Int64) (h9 : jh) => Q (.inl (some (.inr (.inl (r8))))) h9) (fun e h9 => Q (.inr e) h9))))
set_option maxRecDepth 20000 in
theorem vX0_lengthNow_0 {g : jg} {a0 : Nat} {h : jh} {k n : Nat} {Q : jq} (hv : VX0_lengthNow_0 g a0 h k n Q) : jG g mX0_lengthNow 0 [(0, .inr (.inr (some (a0))))] [] h k n Q := by
  unfold VX0_lengthNow_0 at hv
  refine jg_aload_n dX0_lengthNow_0 rfl (List.Mem.head _) ?_
  obtain ⟨f1, hv⟩ := hv
  refine jg_getr dX0_lengthNow_1 fl_RX0_43 rfl jsn f1 ?_
  obtain ⟨f2, hv⟩ := hv
  obtain ⟨f3, hv⟩ := hv
  refine jg_getr dX0_lengthNow_4 fl_RX0_68 rfl f2 f3 ?_
  refine jg_astore_n (lv' := [(1, .inr (.inr (jr h 197 (jd (jr h 7 a0))))), (0, .inr (.inr (some (a0))))]) dX0_lengthNow_7 rfl (by decide) rfl ?_
  refine jg_aload_n dX0_lengthNow_8 rfl (List.Mem.head _) ?_
  refine jg_ifnonnull (tgt := 17) dX0_lengthNow_9 (by decide) (fun c4 => ?_) (fun c4 => ?_)
  · replace hv := hv.1 c4
    refine jg_aload_n dX0_lengthNow_17 rfl (List.Mem.tail _ (List.Mem.head _)) ?_
    refine jp_callV mX0_length [] [] dX0_lengthNow_18 rfl cl_RX0_71 ⟨⟨by decide, by decide⟩, by decide⟩ jsn f1 (Nat.zero_le _) (Nat.zero_le _) (jM.mono (jkl_k (fun r5 h6 hv => ?_)) hv)
    refine jg_aload_n dX0_lengthNow_21 rfl (List.Mem.head _) ?_
    obtain ⟨f7, hv⟩ := hv
    refine jg_geti dX0_lengthNow_22 fl_RX0_75 rfl c4 f7 ?_
    refine jg_aload_n dX0_lengthNow_25 rfl (List.Mem.head _) ?_
    refine jg_geti dX0_lengthNow_26 fl_RX0_80 rfl c4 f7 ?_
    refine jg_isub dX0_lengthNow_29 ?_
    refine jg_i2l dX0_lengthNow_30 ?_
    refine jg_aload_n dX0_lengthNow_31 rfl (List.Mem.head _) ?_
    refine jg_getl dX0_lengthNow_32 fl_RX0_83 rfl c4 f7 ?_
    refine jg_lmul dX0_lengthNow_35 ?_
    refine jg_lsub dX0_lengthNow_36 ?_
    exact jg_lret dX0_lengthNow_37 rfl hv
  · replace hv := hv.2 c4
    refine jg_aload_n dX0_lengthNow_12 rfl (List.Mem.tail _ (List.Mem.head _)) ?_
    refine jp_callV mX0_length [] [] dX0_lengthNow_13 rfl cl_RX0_71 ⟨⟨by decide, by decide⟩, by decide⟩ jsn f1 (Nat.zero_le _) (Nat.zero_le _) (jM.mono (jkl_k (fun r8 h9 hv => ?_)) hv)
    exact jg_lret dX0_lengthNow_16 rfl hv
theorem eX0_lengthNow {g : jg} {a0 : Nat} {h : jh} {mc ms : Nat} {Q : jq} (hv : VX0_lengthNow_0 g a0 h mc ms Q) : jM g mX0_lengthNow [.inr (.inr (some (a0)))] h mc ms Q := jM.of (by decide) (Nat.le_of_ble_eq_true rfl) (lv := [(0, .inr (.inr (some (a0))))]) rfl (vX0_lengthNow_0 hv)
theorem dX0_extent_0 : decode cX0_extent 0 = .ok (.aload_n 0, 1) := by decide +kernel
theorem dX0_extent_1 : decode cX0_extent 1 = .ok (.getfield 57, 3) := by decide +kernel
theorem dX0_extent_4 : decode cX0_extent 4 = .ok (.ifnonnull 10, 3) := by decide +kernel
theorem dX0_extent_7 : decode cX0_extent 7 = .ok (.aload_n 0, 1) := by decide +kernel
theorem dX0_extent_8 : decode cX0_extent 8 = .ok (.invokevirtual 71, 3) := by decide +kernel
theorem dX0_extent_11 : decode cX0_extent 11 = .ok (.goto 19, 3) := by decide +kernel
theorem dX0_extent_14 : decode cX0_extent 14 = .ok (.aload_n 0, 1) := by decide +kernel
theorem dX0_extent_15 : decode cX0_extent 15 = .ok (.getfield 57, 3) := by decide +kernel
theorem dX0_extent_18 : decode cX0_extent 18 = .ok (.getfield 75, 3) := by decide +kernel
theorem dX0_extent_21 : decode cX0_extent 21 = .ok (.i2l, 1) := by decide +kernel
theorem dX0_extent_22 : decode cX0_extent 22 = .ok (.aload_n 0, 1) := by decide +kernel
theorem dX0_extent_23 : decode cX0_extent 23 = .ok (.getfield 57, 3) := by decide +kernel
theorem dX0_extent_26 : decode cX0_extent 26 = .ok (.getfield 83, 3) := by decide +kernel
theorem dX0_extent_29 : decode cX0_extent 29 = .ok (.lmul, 1) := by decide +kernel
theorem dX0_extent_30 : decode cX0_extent 30 = .ok (.lreturn, 1) := by decide +kernel
def VX0_extent_0 (g : jg) (a0 : Nat) (h : jh) (k n : Nat) (Q : jq) : Prop := (jt h a0 = 1) ∧ ((¬ (jr h 10 a0) = none → (jt h (jd (jr h 10 a0)) = 6) ∧ Q (.inl (some (.inr (.inl (((ji h 321 (jd (jr h 10 a0)) : Int32).toInt64) * (jl h 324 (jd (jr h 10 a0)))))))) h) ∧ ((jr h 10 a0) = none → jM g mX0_length [.inr (.inr (some a0))] h 0 0 (jkl (fun (r4 : Int64) (h5 : jh) => Q (.inl (some (.inr (.inl (r4))))) h5) (fun e h9 => Q (.inr e) h9))))
set_option maxRecDepth 20000 in
theorem vX0_extent_0 {g : jg} {a0 : Nat} {h : jh} {k n : Nat} {Q : jq} (hv : VX0_extent_0 g a0 h k n Q) : jG g mX0_extent 0 [(0, .inr (.inr (some (a0))))] [] h k n Q := by
  unfold VX0_extent_0 at hv
  refine jg_aload_n dX0_extent_0 rfl (List.Mem.head _) ?_
  obtain ⟨f1, hv⟩ := hv
  refine jg_getr dX0_extent_1 fl_RX0_57 rfl jsn f1 ?_
  refine jg_ifnonnull (tgt := 14) dX0_extent_4 (by decide) (fun c2 => ?_) (fun c2 => ?_)
  · replace hv := hv.1 c2
    refine jg_aload_n dX0_extent_14 rfl (List.Mem.head _) ?_
    refine jg_getr dX0_extent_15 fl_RX0_57 rfl jsn f1 ?_
    obtain ⟨f3, hv⟩ := hv
    refine jg_geti dX0_extent_18 fl_RX0_75 rfl c2 f3 ?_
    refine jg_i2l dX0_extent_21 ?_
    refine jg_aload_n dX0_extent_22 rfl (List.Mem.head _) ?_
    refine jg_getr dX0_extent_23 fl_RX0_57 rfl jsn f1 ?_
    refine jg_getl dX0_extent_26 fl_RX0_83 rfl c2 f3 ?_
    refine jg_lmul dX0_extent_29 ?_
    exact jg_lret dX0_extent_30 rfl hv
  · replace hv := hv.2 c2
    refine jg_aload_n dX0_extent_7 rfl (List.Mem.head _) ?_
    refine jp_callV mX0_length [] [] dX0_extent_8 rfl cl_RX0_71 ⟨⟨by decide, by decide⟩, by decide⟩ jsn f1 (Nat.zero_le _) (Nat.zero_le _) (jM.mono (jkl_k (fun r4 h5 hv => ?_)) hv)
    refine jg_goto (tgt := 30) dX0_extent_11 (by decide) ?_
    exact jg_lret dX0_extent_30 rfl hv
theorem eX0_extent {g : jg} {a0 : Nat} {h : jh} {mc ms : Nat} {Q : jq} (hv : VX0_extent_0 g a0 h mc ms Q) : jM g mX0_extent [.inr (.inr (some (a0)))] h mc ms Q := jM.of (by decide) (Nat.le_of_ble_eq_true rfl) (lv := [(0, .inr (.inr (some (a0))))]) rfl (vX0_extent_0 hv)
theorem dX0_init_0 : decode cX0_init 0 = .ok (.aload_n 0, 1) := by decide +kernel
theorem dX0_init_1 : decode cX0_init 1 = .ok (.invokespecial 3, 3) := by decide +kernel
theorem dX0_init_4 : decode cX0_init 4 = .ok (.aload_n 0, 1) := by decide +kernel
theorem dX0_init_5 : decode cX0_init 5 = .ok (.iload_n 1, 1) := by decide +kernel
theorem dX0_init_6 : decode cX0_init 6 = .ok (.putfield 9, 3) := by decide +kernel
theorem dX0_init_9 : decode cX0_init 9 = .ok (.aload_n 0, 1) := by decide +kernel
theorem dX0_init_10 : decode cX0_init 10 = .ok (.iload_n 2, 1) := by decide +kernel
theorem dX0_init_11 : decode cX0_init 11 = .ok (.putfield 15, 3) := by decide +kernel
theorem dX0_init_14 : decode cX0_init 14 = .ok (.aload_n 0, 1) := by decide +kernel
theorem dX0_init_15 : decode cX0_init 15 = .ok (.iload_n 3, 1) := by decide +kernel
theorem dX0_init_16 : decode cX0_init 16 = .ok (.putfield 18, 3) := by decide +kernel
theorem dX0_init_19 : decode cX0_init 19 = .ok (.aload_n 0, 1) := by decide +kernel
theorem dX0_init_20 : decode cX0_init 20 = .ok (.iload 4, 2) := by decide +kernel
theorem dX0_init_22 : decode cX0_init 22 = .ok (.putfield 21, 3) := by decide +kernel
theorem dX0_init_25 : decode cX0_init 25 = .ok (.aload_n 0, 1) := by decide +kernel
theorem dX0_init_26 : decode cX0_init 26 = .ok (.iload_n 3, 1) := by decide +kernel
theorem dX0_init_27 : decode cX0_init 27 = .ok (.iload 4, 2) := by decide +kernel
theorem dX0_init_29 : decode cX0_init 29 = .ok (.invokestatic 24, 3) := by decide +kernel
theorem dX0_init_32 : decode cX0_init 32 = .ok (.putfield 30, 3) := by decide +kernel
theorem dX0_init_35 : decode cX0_init 35 = .ok (.aload_n 0, 1) := by decide +kernel
theorem dX0_init_36 : decode cX0_init 36 = .ok (.iload_n 2, 1) := by decide +kernel
theorem dX0_init_37 : decode cX0_init 37 = .ok (.bipush 49, 2) := by decide +kernel
theorem dX0_init_39 : decode cX0_init 39 = .ok (.if_icmp .gt 8, 3) := by decide +kernel
theorem dX0_init_42 : decode cX0_init 42 = .ok (.aload 5, 2) := by decide +kernel
theorem dX0_init_44 : decode cX0_init 44 = .ok (.goto 4, 3) := by decide +kernel
theorem dX0_init_47 : decode cX0_init 47 = .ok (.aconst_null, 1) := by decide +kernel
theorem dX0_init_48 : decode cX0_init 48 = .ok (.putfield 33, 3) := by decide +kernel
theorem dX0_init_51 : decode cX0_init 51 = .ok (.aload_n 0, 1) := by decide +kernel
theorem dX0_init_52 : decode cX0_init 52 = .ok (.iload_n 2, 1) := by decide +kernel
theorem dX0_init_53 : decode cX0_init 53 = .ok (.bipush 88, 2) := by decide +kernel
theorem dX0_init_55 : decode cX0_init 55 = .ok (.if_icmp .ne 8, 3) := by decide +kernel
theorem dX0_init_58 : decode cX0_init 58 = .ok (.aload 5, 2) := by decide +kernel
theorem dX0_init_60 : decode cX0_init 60 = .ok (.goto 4, 3) := by decide +kernel
theorem dX0_init_63 : decode cX0_init 63 = .ok (.aconst_null, 1) := by decide +kernel
theorem dX0_init_64 : decode cX0_init 64 = .ok (.putfield 37, 3) := by decide +kernel
theorem dX0_init_67 : decode cX0_init 67 = .ok (.aload_n 0, 1) := by decide +kernel
theorem dX0_init_68 : decode cX0_init 68 = .ok (.new 40, 3) := by decide +kernel
theorem dX0_init_71 : decode cX0_init 71 = .ok (.dup, 1) := by decide +kernel
theorem dX0_init_72 : decode cX0_init 72 = .ok (.invokespecial 42, 3) := by decide +kernel
theorem dX0_init_75 : decode cX0_init 75 = .ok (.putfield 43, 3) := by decide +kernel
theorem dX0_init_78 : decode cX0_init 78 = .ok (.aload_n 0, 1) := by decide +kernel
theorem dX0_init_79 : decode cX0_init 79 = .ok (.iconst (-1), 1) := by decide +kernel
theorem dX0_init_80 : decode cX0_init 80 = .ok (.putfield 47, 3) := by decide +kernel
theorem dX0_init_83 : decode cX0_init 83 = .ok (.return_, 1) := by decide +kernel
def VX0_init_64 (g : jg) (a0 : Nat) (so0 : Option Nat) (so1 : Option Nat) (h : jh) (k n : Nat) (Q : jq) : Prop := (¬ (so0) = none) ∧ (jt h (jd (so0)) = 1) ∧ ∀ h3 : jh, h3 = jsr h 6 (jd (so0)) (so1) → (1 ≤ k) ∧ (6 ≤ n) ∧ ∀ h7 : jh, h7 = jmk h3 4 0 → jM g mX5_init [.inr (.inr (some (jz h3)))] h7 0 0 (jkv (fun (h10 : jh) => (jt h10 a0 = 1) ∧ ∀ h12 : jh, h12 = jsr h10 7 a0 (some (jz h3)) → ∀ h14 : jh, h14 = jsi h12 19 a0 ((-1)) → Q (.inl none) h14) (fun _ _ => False))
set_option maxRecDepth 20000 in
theorem vX0_init_64 {g : jg} {a0 : Nat} {so0 : Option Nat} {so1 : Option Nat} {h : jh} {k n : Nat} {Q : jq} (hv : VX0_init_64 g a0 so0 so1 h k n Q) : jG g mX0_init 64 [(0, .inr (.inr (some (a0))))] [.inr (.inr (so1)), .inr (.inr (so0))] h k n Q := by
  unfold VX0_init_64 at hv
  obtain ⟨f1, hv⟩ := hv
  obtain ⟨f2, hv⟩ := hv
  obtain ⟨h3, e4⟩ : ∃ z : jh, z = jsr h 6 (jd (so0)) (so1) := ⟨_, rfl⟩
  replace hv := hv h3 e4
  refine jp_putr dX0_init_64 (jfp.fin fl_RX0_37 (fun q hq => by cases hq; exact ⟨rfl, rfl⟩) rfl) rfl f1 f2 e4 ?_
  refine jg_aload_n dX0_init_67 rfl (List.Mem.head _) ?_
  obtain ⟨f5, hv⟩ := hv
  obtain ⟨f6, hv⟩ := hv
  obtain ⟨h7, e8⟩ : ∃ z : jh, z = jmk h3 4 0 := ⟨_, rfl⟩
  replace hv := hv h7 e8
  refine jp_new dX0_init_68 nl_RX0_40 f5 f6 e8 ?_
  refine jg_dup dX0_init_71 rfl ?_
  refine jg_callN mX5_init [] [.inr (.inr (some (jz h3))), .inr (.inr (some (a0)))] dX0_init_72 rfl cl_RX0_42 ⟨⟨by decide, by decide⟩, jcat_le _ (Nat.le_of_ble_eq_true rfl)⟩ (Nat.zero_le _) (Nat.zero_le _) (jM.mono (jkv_k (fun h10 hv => ?_)) hv)
  obtain ⟨f11, hv⟩ := hv
  obtain ⟨h12, e13⟩ : ∃ z : jh, z = jsr h10 7 a0 (some (jz h3)) := ⟨_, rfl⟩
  replace hv := hv h12 e13
  refine jp_putr dX0_init_75 (jfp.fin fl_RX0_43 (fun q hq => by cases hq; exact ⟨rfl, rfl⟩) rfl) rfl jsn f11 e13 ?_
  refine jg_aload_n dX0_init_78 rfl (List.Mem.head _) ?_
  refine jg_iconst (v := (-1)) dX0_init_79 (by decide) ?_
  obtain ⟨h14, e15⟩ : ∃ z : jh, z = jsi h12 19 a0 ((-1)) := ⟨_, rfl⟩
  replace hv := hv h14 e15
  refine jp_puti dX0_init_80 (jfp.nf fl_RX0_47 (fun q hq => by cases hq; rfl)) rfl jsn ((congrArg (fun z => jt z a0) e13).trans f11) e15 ?_
  exact jg_vret dX0_init_83 rfl hv
def VX0_init_48 (g : jg) (a0 : Nat) (x2 : Int32) (o5 : Option Nat) (so0 : Option Nat) (so1 : Option Nat) (h : jh) (k n : Nat) (Q : jq) : Prop := (¬ (so0) = none) ∧ (jt h (jd (so0)) = 1) ∧ ∀ h18 : jh, h18 = jsr h 5 (jd (so0)) (so1) → ((¬ (x2) = (88) → VX0_init_64 g (a0) (some (a0)) (none) h18 k n Q) ∧ ((x2) = (88) → VX0_init_64 g (a0) (some (a0)) (o5) h18 k n Q))
set_option maxRecDepth 20000 in
theorem vX0_init_48 {g : jg} {a0 : Nat} {x2 : Int32} {o5 : Option Nat} {so0 : Option Nat} {so1 : Option Nat} {h : jh} {k n : Nat} {Q : jq} (hv : VX0_init_48 g a0 x2 o5 so0 so1 h k n Q) : jG g mX0_init 48 [(0, .inr (.inr (some (a0)))), (2, .inl (x2)), (5, .inr (.inr (o5)))] [.inr (.inr (so1)), .inr (.inr (so0))] h k n Q := by
  unfold VX0_init_48 at hv
  obtain ⟨f16, hv⟩ := hv
  obtain ⟨f17, hv⟩ := hv
  obtain ⟨h18, e19⟩ : ∃ z : jh, z = jsr h 5 (jd (so0)) (so1) := ⟨_, rfl⟩
  replace hv := hv h18 e19
  refine jp_putr dX0_init_48 (jfp.fin fl_RX0_33 (fun q hq => by cases hq; exact ⟨rfl, rfl⟩) rfl) rfl f16 f17 e19 ?_
  refine jg_aload_n dX0_init_51 rfl (List.Mem.head _) ?_
  refine jg_iload_n dX0_init_52 rfl (List.Mem.tail _ (List.Mem.head _)) ?_
  refine jg_bipush (v := 88) dX0_init_53 (by decide) ?_
  refine jg_icmp_ne (tgt := 63) dX0_init_55 (by decide) (fun c20 => ?_) (fun c20 => ?_)
  · replace hv := hv.1 c20
    refine jg_null dX0_init_63 ?_
    refine jG.sub (lv' := [(0, .inr (.inr (some (a0))))]) (by simp) ?_
    exact vX0_init_64 hv
  · replace hv := hv.2 c20
    refine jg_aload dX0_init_58 (List.Mem.tail _ (List.Mem.tail _ (List.Mem.head _))) ?_
    refine jg_goto (tgt := 64) dX0_init_60 (by decide) ?_
    refine jG.sub (lv' := [(0, .inr (.inr (some (a0))))]) (by simp) ?_
    exact vX0_init_64 hv
def VX0_init_0 (g : jg) (a0 : Nat) (x1 : Int32) (x2 : Int32) (x3 : Int32) (x4 : Int32) (o5 : Option Nat) (h : jh) (k n : Nat) (Q : jq) : Prop := (jt h a0 = 1) ∧ ∀ h22 : jh, h22 = jsi h 0 a0 (x1) → ∀ h24 : jh, h24 = jsi h22 1 a0 (x2) → ∀ h26 : jh, h26 = jsi h24 2 a0 (x3) → ∀ h28 : jh, h28 = jsi h26 3 a0 (x4) → jM g mX1_bytesOf [.inl (x3), .inl (x4)] h28 0 0 (jki (fun (r30 : Int32) (h31 : jh) => (jt h31 a0 = 1) ∧ ∀ h33 : jh, h33 = jsi h31 4 a0 (r30) → (((49 : Int32) < (x2) → VX0_init_48 g (a0) (x2) (o5) (some (a0)) (none) h33 k n Q) ∧ (¬ (49 : Int32) < (x2) → VX0_init_48 g (a0) (x2) (o5) (some (a0)) (o5) h33 k n Q))) (fun e h9 => Q (.inr e) h9))
set_option maxRecDepth 20000 in
theorem vX0_init_0 {g : jg} {a0 : Nat} {x1 : Int32} {x2 : Int32} {x3 : Int32} {x4 : Int32} {o5 : Option Nat} {h : jh} {k n : Nat} {Q : jq} (hv : VX0_init_0 g a0 x1 x2 x3 x4 o5 h k n Q) : jG g mX0_init 0 [(0, .inr (.inr (some (a0)))), (1, .inl (x1)), (2, .inl (x2)), (3, .inl (x3)), (4, .inl (x4)), (5, .inr (.inr (o5)))] [] h k n Q := by
  unfold VX0_init_0 at hv
  refine jg_aload_n dX0_init_0 rfl (List.Mem.head _) ?_
  refine jg_objInit dX0_init_1 jsn ol_X0_init oi_i oi_c (by decide) (by decide) ?_
  refine jg_aload_n dX0_init_4 rfl (List.Mem.head _) ?_
  refine jg_iload_n dX0_init_5 rfl (List.Mem.tail _ (List.Mem.head _)) ?_
  obtain ⟨f21, hv⟩ := hv
  obtain ⟨h22, e23⟩ : ∃ z : jh, z = jsi h 0 a0 (x1) := ⟨_, rfl⟩
  replace hv := hv h22 e23
  refine jp_puti dX0_init_6 (jfp.fin fl_RX0_9 (fun q hq => by cases hq; exact ⟨rfl, rfl⟩) rfl) rfl jsn f21 e23 ?_
  refine jg_aload_n dX0_init_9 rfl (List.Mem.head _) ?_
  refine jg_iload_n dX0_init_10 rfl (List.Mem.tail _ (List.Mem.tail _ (List.Mem.head _))) ?_
  obtain ⟨h24, e25⟩ : ∃ z : jh, z = jsi h22 1 a0 (x2) := ⟨_, rfl⟩
  replace hv := hv h24 e25
  refine jp_puti dX0_init_11 (jfp.fin fl_RX0_15 (fun q hq => by cases hq; exact ⟨rfl, rfl⟩) rfl) rfl jsn ((congrArg (fun z => jt z a0) e23).trans f21) e25 ?_
  refine jg_aload_n dX0_init_14 rfl (List.Mem.head _) ?_
  refine jg_iload_n dX0_init_15 rfl (List.Mem.tail _ (List.Mem.tail _ (List.Mem.tail _ (List.Mem.head _)))) ?_
  obtain ⟨h26, e27⟩ : ∃ z : jh, z = jsi h24 2 a0 (x3) := ⟨_, rfl⟩
  replace hv := hv h26 e27
  refine jp_puti dX0_init_16 (jfp.fin fl_RX0_18 (fun q hq => by cases hq; exact ⟨rfl, rfl⟩) rfl) rfl jsn ((congrArg (fun z => jt z a0) e25).trans ((congrArg (fun z => jt z a0) e23).trans f21)) e27 ?_
  refine jg_aload_n dX0_init_19 rfl (List.Mem.head _) ?_
  refine jg_iload dX0_init_20 (List.Mem.tail _ (List.Mem.tail _ (List.Mem.tail _ (List.Mem.tail _ (List.Mem.head _))))) ?_
  obtain ⟨h28, e29⟩ : ∃ z : jh, z = jsi h26 3 a0 (x4) := ⟨_, rfl⟩
  replace hv := hv h28 e29
  refine jp_puti dX0_init_22 (jfp.fin fl_RX0_21 (fun q hq => by cases hq; exact ⟨rfl, rfl⟩) rfl) rfl jsn ((congrArg (fun z => jt z a0) e27).trans ((congrArg (fun z => jt z a0) e25).trans ((congrArg (fun z => jt z a0) e23).trans f21))) e29 ?_
  refine jg_aload_n dX0_init_25 rfl (List.Mem.head _) ?_
  refine jg_iload_n dX0_init_26 rfl (List.Mem.tail _ (List.Mem.tail _ (List.Mem.tail _ (List.Mem.head _)))) ?_
  refine jg_iload dX0_init_27 (List.Mem.tail _ (List.Mem.tail _ (List.Mem.tail _ (List.Mem.tail _ (List.Mem.head _))))) ?_
  refine jg_callS mX1_bytesOf [.inl (x3), .inl (x4)] [.inr (.inr (some (a0)))] dX0_init_29 rfl cl_RX0_24 ⟨⟨by decide, by decide⟩, jcat_le _ (Nat.le_of_ble_eq_true rfl)⟩ (Nat.zero_le _) (Nat.zero_le _) (jM.mono (jki_k (fun r30 h31 hv => ?_)) hv)
  obtain ⟨f32, hv⟩ := hv
  obtain ⟨h33, e34⟩ : ∃ z : jh, z = jsi h31 4 a0 (r30) := ⟨_, rfl⟩
  replace hv := hv h33 e34
  refine jp_puti dX0_init_32 (jfp.fin fl_RX0_30 (fun q hq => by cases hq; exact ⟨rfl, rfl⟩) rfl) rfl jsn f32 e34 ?_
  refine jg_aload_n dX0_init_35 rfl (List.Mem.head _) ?_
  refine jg_iload_n dX0_init_36 rfl (List.Mem.tail _ (List.Mem.tail _ (List.Mem.head _))) ?_
  refine jg_bipush (v := 49) dX0_init_37 (by decide) ?_
  refine jg_icmp_gt (tgt := 47) dX0_init_39 (by decide) (fun c35 => ?_) (fun c35 => ?_)
  · replace hv := hv.1 c35
    refine jg_null dX0_init_47 ?_
    refine jG.sub (lv' := [(0, .inr (.inr (some (a0)))), (2, .inl (x2)), (5, .inr (.inr (o5)))]) (by simp) ?_
    exact vX0_init_48 hv
  · replace hv := hv.2 c35
    refine jg_aload dX0_init_42 (List.Mem.tail _ (List.Mem.tail _ (List.Mem.tail _ (List.Mem.tail _ (List.Mem.tail _ (List.Mem.head _)))))) ?_
    refine jg_goto (tgt := 48) dX0_init_44 (by decide) ?_
    refine jG.sub (lv' := [(0, .inr (.inr (some (a0)))), (2, .inl (x2)), (5, .inr (.inr (o5)))]) (by simp) ?_
    exact vX0_init_48 hv
theorem eX0_init {g : jg} {a0 : Nat} {x1 : Int32} {x2 : Int32} {x3 : Int32} {x4 : Int32} {o5 : Option Nat} {h : jh} {mc ms : Nat} {Q : jq} (hv : VX0_init_0 g a0 x1 x2 x3 x4 o5 h mc ms Q) : jM g mX0_init [.inr (.inr (some (a0))), .inl (x1), .inl (x2), .inl (x3), .inl (x4), .inr (.inr (o5))] h mc ms Q := jM.of (by decide) (Nat.le_of_ble_eq_true rfl) (lv := [(0, .inr (.inr (some (a0)))), (1, .inl (x1)), (2, .inl (x2)), (3, .inl (x3)), (4, .inl (x4)), (5, .inr (.inr (o5)))]) rfl (vX0_init_0 hv)
