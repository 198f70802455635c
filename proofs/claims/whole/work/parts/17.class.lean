/-! what the code asks, by program: X9_init X9_item X9_clause X9_lay X9_place X9_size X9_subscript X9_checks X9_depending X9_redefines X9_refer X9_slack X9_external X9_at X9_octet X9_holds X9_count X9_refusalFor X9_tellClause X9_tellTable X9_tellSynchronised X9_tellValue X9_tellRange X9_tellPart X9_fillFirstEntries X9_fillText X9_fillOtherEntries -/
theorem dX9_init_0 : decode cX9_init 0 = .ok (.aload_n 0, 1) := by decide +kernel
theorem dX9_init_1 : decode cX9_init 1 = .ok (.invokespecial 1, 3) := by decide +kernel
theorem dX9_init_4 : decode cX9_init 4 = .ok (.aload_n 0, 1) := by decide +kernel
theorem dX9_init_5 : decode cX9_init 5 = .ok (.new 7, 3) := by decide +kernel
theorem dX9_init_8 : decode cX9_init 8 = .ok (.dup, 1) := by decide +kernel
theorem dX9_init_9 : decode cX9_init 9 = .ok (.invokespecial 9, 3) := by decide +kernel
theorem dX9_init_12 : decode cX9_init 12 = .ok (.putfield 10, 3) := by decide +kernel
theorem dX9_init_15 : decode cX9_init 15 = .ok (.aload_n 0, 1) := by decide +kernel
theorem dX9_init_16 : decode cX9_init 16 = .ok (.new 16, 3) := by decide +kernel
theorem dX9_init_19 : decode cX9_init 19 = .ok (.dup, 1) := by decide +kernel
theorem dX9_init_20 : decode cX9_init 20 = .ok (.aload_n 0, 1) := by decide +kernel
theorem dX9_init_21 : decode cX9_init 21 = .ok (.getfield 10, 3) := by decide +kernel
theorem dX9_init_24 : decode cX9_init 24 = .ok (.invokespecial 18, 3) := by decide +kernel
theorem dX9_init_27 : decode cX9_init 27 = .ok (.putfield 21, 3) := by decide +kernel
theorem dX9_init_30 : decode cX9_init 30 = .ok (.aload_n 0, 1) := by decide +kernel
theorem dX9_init_31 : decode cX9_init 31 = .ok (.new 25, 3) := by decide +kernel
theorem dX9_init_34 : decode cX9_init 34 = .ok (.dup, 1) := by decide +kernel
theorem dX9_init_35 : decode cX9_init 35 = .ok (.invokespecial 27, 3) := by decide +kernel
theorem dX9_init_38 : decode cX9_init 38 = .ok (.putfield 28, 3) := by decide +kernel
theorem dX9_init_41 : decode cX9_init 41 = .ok (.aload_n 0, 1) := by decide +kernel
theorem dX9_init_42 : decode cX9_init 42 = .ok (.iconst 0, 1) := by decide +kernel
theorem dX9_init_43 : decode cX9_init 43 = .ok (.putfield 32, 3) := by decide +kernel
theorem dX9_init_46 : decode cX9_init 46 = .ok (.aload_n 0, 1) := by decide +kernel
theorem dX9_init_47 : decode cX9_init 47 = .ok (.iconst 1, 1) := by decide +kernel
theorem dX9_init_48 : decode cX9_init 48 = .ok (.putfield 36, 3) := by decide +kernel
theorem dX9_init_51 : decode cX9_init 51 = .ok (.aload_n 0, 1) := by decide +kernel
theorem dX9_init_52 : decode cX9_init 52 = .ok (.iconst 0, 1) := by decide +kernel
theorem dX9_init_53 : decode cX9_init 53 = .ok (.putfield 39, 3) := by decide +kernel
theorem dX9_init_56 : decode cX9_init 56 = .ok (.return_, 1) := by decide +kernel
def VX9_init_0 (g : jg) (a0 : Nat) (h : jh) (k n : Nat) (Q : jq) : Prop := (1 ≤ k) ∧ (2 ≤ n) ∧ ∀ h3 : jh, h3 = jmk h 7 0 → ∃ mc7 ms8 : Nat, mc7 ≤ (k - 1) ∧ ms8 ≤ (n - 2) ∧ jM g mX8_init [.inr (.inr (some (jz h)))] h3 mc7 ms8 (jkv (fun (h6 : jh) => (jt h6 a0 = 8) ∧ ∀ h12 : jh, h12 = jsr h6 448 a0 (some (jz h)) → (1 ≤ ((k - 1) - mc7)) ∧ (2 ≤ ((n - 2) - ms8)) ∧ ∀ h16 : jh, h16 = jmk h12 2 0 → (jt h16 a0 = 8) ∧ jM g mX3_init [.inr (.inr (some (jz h12))), .inr (.inr (jr h16 448 a0))] h16 0 0 (jkv (fun (h20 : jh) => (jt h20 a0 = 8) ∧ ∀ h22 : jh, h22 = jsr h20 449 a0 (some (jz h12)) → (1 ≤ (((k - 1) - mc7) - 1)) ∧ (2 ≤ (((n - 2) - ms8) - 2)) ∧ ∀ h26 : jh, h26 = jmk h22 5 0 → ∃ mc30 ms31 : Nat, mc30 ≤ ((((k - 1) - mc7) - 1) - 1) ∧ ms31 ≤ ((((n - 2) - ms8) - 2) - 2) ∧ jM g mX6_init [.inr (.inr (some (jz h22)))] h26 mc30 ms31 (jkv (fun (h29 : jh) => (jt h29 a0 = 8) ∧ ∀ h35 : jh, h35 = jsr h29 450 a0 (some (jz h22)) → ∀ h37 : jh, h37 = jsi h35 451 a0 (0) → ∀ h39 : jh, h39 = jsi h37 452 a0 (1) → ∀ h41 : jh, h41 = jsi h39 453 a0 (0) → Q (.inl none) h41) (fun _ _ => False))) (fun _ _ => False))) (fun _ _ => False))
set_option maxRecDepth 20000 in
theorem vX9_init_0 {g : jg} {a0 : Nat} {h : jh} {k n : Nat} {Q : jq} (hv : VX9_init_0 g a0 h k n Q) : jG g mX9_init 0 [(0, .inr (.inr (some (a0))))] [] h k n Q := by
  unfold VX9_init_0 at hv
  refine jg_aload_n dX9_init_0 rfl (List.Mem.head _) ?_
  refine jg_objInit dX9_init_1 jsn ol_X9_init oi_i oi_c (by decide) (by decide) ?_
  refine jg_aload_n dX9_init_4 rfl (List.Mem.head _) ?_
  obtain ⟨f1, hv⟩ := hv
  obtain ⟨f2, hv⟩ := hv
  obtain ⟨h3, e4⟩ : ∃ z : jh, z = jmk h 7 0 := ⟨_, rfl⟩
  replace hv := hv h3 e4
  refine jp_new dX9_init_5 nl_RX9_7 f1 f2 e4 ?_
  refine jg_dup dX9_init_8 rfl ?_
  obtain ⟨mc7, ms8, f9, f10, hv⟩ := hv
  refine jg_callN mX8_init [] [.inr (.inr (some (jz h))), .inr (.inr (some (a0)))] dX9_init_9 rfl cl_RX9_9 ⟨⟨by decide, by decide⟩, jcat_le _ (Nat.le_of_ble_eq_true rfl)⟩ f9 f10 (jM.mono (jkv_k (fun h6 hv => ?_)) hv)
  obtain ⟨f11, hv⟩ := hv
  obtain ⟨h12, e13⟩ : ∃ z : jh, z = jsr h6 448 a0 (some (jz h)) := ⟨_, rfl⟩
  replace hv := hv h12 e13
  refine jp_putr dX9_init_12 (jfp.fin fl_RX9_10 (fun q hq => by cases hq; exact ⟨rfl, rfl⟩) rfl) rfl jsn f11 e13 ?_
  refine jg_aload_n dX9_init_15 rfl (List.Mem.head _) ?_
  obtain ⟨f14, hv⟩ := hv
  obtain ⟨f15, hv⟩ := hv
  obtain ⟨h16, e17⟩ : ∃ z : jh, z = jmk h12 2 0 := ⟨_, rfl⟩
  replace hv := hv h16 e17
  refine jp_new dX9_init_16 nl_RX9_16 f14 f15 e17 ?_
  refine jg_dup dX9_init_19 rfl ?_
  refine jg_aload_n dX9_init_20 rfl (List.Mem.head _) ?_
  obtain ⟨f18, hv⟩ := hv
  refine jg_getr dX9_init_21 fl_RX9_10 rfl jsn f18 ?_
  refine jg_callI mX3_init [.inr (.inr (jr h16 448 a0))] [.inr (.inr (some (jz h12))), .inr (.inr (some (a0)))] dX9_init_24 rfl cl_RX9_18 ⟨⟨by decide, by decide⟩, jcat_le _ (Nat.le_of_ble_eq_true rfl)⟩ (Nat.zero_le _) (Nat.zero_le _) (jM.mono (jkv_k (fun h20 hv => ?_)) hv)
  obtain ⟨f21, hv⟩ := hv
  obtain ⟨h22, e23⟩ : ∃ z : jh, z = jsr h20 449 a0 (some (jz h12)) := ⟨_, rfl⟩
  replace hv := hv h22 e23
  refine jp_putr dX9_init_27 (jfp.fin fl_RX9_21 (fun q hq => by cases hq; exact ⟨rfl, rfl⟩) rfl) rfl jsn f21 e23 ?_
  refine jg_aload_n dX9_init_30 rfl (List.Mem.head _) ?_
  obtain ⟨f24, hv⟩ := hv
  obtain ⟨f25, hv⟩ := hv
  obtain ⟨h26, e27⟩ : ∃ z : jh, z = jmk h22 5 0 := ⟨_, rfl⟩
  replace hv := hv h26 e27
  refine jp_new dX9_init_31 nl_RX9_25 f24 f25 e27 ?_
  refine jg_dup dX9_init_34 rfl ?_
  obtain ⟨mc30, ms31, f32, f33, hv⟩ := hv
  refine jg_callN mX6_init [] [.inr (.inr (some (jz h22))), .inr (.inr (some (a0)))] dX9_init_35 rfl cl_RX9_27 ⟨⟨by decide, by decide⟩, jcat_le _ (Nat.le_of_ble_eq_true rfl)⟩ f32 f33 (jM.mono (jkv_k (fun h29 hv => ?_)) hv)
  obtain ⟨f34, hv⟩ := hv
  obtain ⟨h35, e36⟩ : ∃ z : jh, z = jsr h29 450 a0 (some (jz h22)) := ⟨_, rfl⟩
  replace hv := hv h35 e36
  refine jp_putr dX9_init_38 (jfp.fin fl_RX9_28 (fun q hq => by cases hq; exact ⟨rfl, rfl⟩) rfl) rfl jsn f34 e36 ?_
  refine jg_aload_n dX9_init_41 rfl (List.Mem.head _) ?_
  refine jg_iconst (v := 0) dX9_init_42 (by decide) ?_
  obtain ⟨h37, e38⟩ : ∃ z : jh, z = jsi h35 451 a0 (0) := ⟨_, rfl⟩
  replace hv := hv h37 e38
  refine jp_putz dX9_init_43 (jfp.nf fl_RX9_32 (fun q hq => by cases hq; rfl)) rfl jsn ((congrArg (fun z => jt z a0) e36).trans f34) (by decide) e38 ?_
  refine jg_aload_n dX9_init_46 rfl (List.Mem.head _) ?_
  refine jg_iconst (v := 1) dX9_init_47 (by decide) ?_
  obtain ⟨h39, e40⟩ : ∃ z : jh, z = jsi h37 452 a0 (1) := ⟨_, rfl⟩
  replace hv := hv h39 e40
  refine jp_putz dX9_init_48 (jfp.nf fl_RX9_36 (fun q hq => by cases hq; rfl)) rfl jsn ((congrArg (fun z => jt z a0) e38).trans ((congrArg (fun z => jt z a0) e36).trans f34)) (by decide) e40 ?_
  refine jg_aload_n dX9_init_51 rfl (List.Mem.head _) ?_
  refine jg_iconst (v := 0) dX9_init_52 (by decide) ?_
  obtain ⟨h41, e42⟩ : ∃ z : jh, z = jsi h39 453 a0 (0) := ⟨_, rfl⟩
  replace hv := hv h41 e42
  refine jp_puti dX9_init_53 (jfp.nf fl_RX9_39 (fun q hq => by cases hq; rfl)) rfl jsn ((congrArg (fun z => jt z a0) e40).trans ((congrArg (fun z => jt z a0) e38).trans ((congrArg (fun z => jt z a0) e36).trans f34))) e42 ?_
  exact jg_vret dX9_init_56 rfl hv
theorem eX9_init {g : jg} {a0 : Nat} {h : jh} {mc ms : Nat} {Q : jq} (hv : VX9_init_0 g a0 h mc ms Q) : jM g mX9_init [.inr (.inr (some (a0)))] h mc ms Q := jM.of (by decide) (Nat.le_of_ble_eq_true rfl) (lv := [(0, .inr (.inr (some (a0))))]) rfl (vX9_init_0 hv)
theorem dX9_item_0 : decode cX9_item 0 = .ok (.iload_n 1, 1) := by decide +kernel
theorem dX9_item_1 : decode cX9_item 1 = .ok (.invokestatic 43, 3) := by decide +kernel
theorem dX9_item_4 : decode cX9_item 4 = .ok (.ifCond .eq 12, 3) := by decide +kernel
theorem dX9_item_7 : decode cX9_item 7 = .ok (.iload_n 1, 1) := by decide +kernel
theorem dX9_item_8 : decode cX9_item 8 = .ok (.iload_n 2, 1) := by decide +kernel
theorem dX9_item_9 : decode cX9_item 9 = .ok (.iload_n 3, 1) := by decide +kernel
theorem dX9_item_10 : decode cX9_item 10 = .ok (.invokestatic 49, 3) := by decide +kernel
theorem dX9_item_13 : decode cX9_item 13 = .ok (.ifCond .ne 6, 3) := by decide +kernel
theorem dX9_item_16 : decode cX9_item 16 = .ok (.bipush (-4), 2) := by decide +kernel
theorem dX9_item_18 : decode cX9_item 18 = .ok (.ireturn, 1) := by decide +kernel
theorem dX9_item_19 : decode cX9_item 19 = .ok (.aload_n 0, 1) := by decide +kernel
theorem dX9_item_20 : decode cX9_item 20 = .ok (.getfield 10, 3) := by decide +kernel
theorem dX9_item_23 : decode cX9_item 23 = .ok (.iload_n 1, 1) := by decide +kernel
theorem dX9_item_24 : decode cX9_item 24 = .ok (.invokevirtual 53, 3) := by decide +kernel
theorem dX9_item_27 : decode cX9_item 27 = .ok (.ifCond .ne 6, 3) := by decide +kernel
theorem dX9_item_30 : decode cX9_item 30 = .ok (.bipush (-3), 2) := by decide +kernel
theorem dX9_item_32 : decode cX9_item 32 = .ok (.ireturn, 1) := by decide +kernel
theorem dX9_item_33 : decode cX9_item 33 = .ok (.aload_n 0, 1) := by decide +kernel
theorem dX9_item_34 : decode cX9_item 34 = .ok (.getfield 10, 3) := by decide +kernel
theorem dX9_item_37 : decode cX9_item 37 = .ok (.getfield 56, 3) := by decide +kernel
theorem dX9_item_40 : decode cX9_item 40 = .ok (.bipush 120, 2) := by decide +kernel
theorem dX9_item_42 : decode cX9_item 42 = .ok (.if_icmp .lt 5, 3) := by decide +kernel
theorem dX9_item_45 : decode cX9_item 45 = .ok (.iconst (-1), 1) := by decide +kernel
theorem dX9_item_46 : decode cX9_item 46 = .ok (.ireturn, 1) := by decide +kernel
theorem dX9_item_47 : decode cX9_item 47 = .ok (.aload_n 0, 1) := by decide +kernel
theorem dX9_item_48 : decode cX9_item 48 = .ok (.getfield 10, 3) := by decide +kernel
theorem dX9_item_51 : decode cX9_item 51 = .ok (.iload_n 1, 1) := by decide +kernel
theorem dX9_item_52 : decode cX9_item 52 = .ok (.iload_n 2, 1) := by decide +kernel
theorem dX9_item_53 : decode cX9_item 53 = .ok (.iload_n 3, 1) := by decide +kernel
theorem dX9_item_54 : decode cX9_item 54 = .ok (.invokevirtual 59, 3) := by decide +kernel
theorem dX9_item_57 : decode cX9_item 57 = .ok (.aload_n 0, 1) := by decide +kernel
theorem dX9_item_58 : decode cX9_item 58 = .ok (.iconst 0, 1) := by decide +kernel
theorem dX9_item_59 : decode cX9_item 59 = .ok (.putfield 32, 3) := by decide +kernel
theorem dX9_item_62 : decode cX9_item 62 = .ok (.aload_n 0, 1) := by decide +kernel
theorem dX9_item_63 : decode cX9_item 63 = .ok (.getfield 10, 3) := by decide +kernel
theorem dX9_item_66 : decode cX9_item 66 = .ok (.getfield 56, 3) := by decide +kernel
theorem dX9_item_69 : decode cX9_item 69 = .ok (.ireturn, 1) := by decide +kernel
def VX9_item_0 (g : jg) (a0 : Nat) (x1 : Int32) (x2 : Int32) (x3 : Int32) (h : jh) (k n : Nat) (Q : jq) : Prop := jM g mX1_isLevel [.inl (x1)] h 0 0 (jki (fun (r1 : Int32) (h2 : jh) => (((r1) = 0 → Q (.inl (some (.inl ((-4))))) h2) ∧ (¬ (r1) = 0 → jM g mX1_isUsage [.inl (x1), .inl (x2), .inl (x3)] h2 0 0 (jki (fun (r4 : Int32) (h5 : jh) => ((¬ (r4) = 0 → (jt h5 a0 = 8) ∧ (¬ (jr h5 448 a0) = none) ∧ (jt h5 (jd (jr h5 448 a0)) = 7) ∧ jM g mX8_hasPlaceFor [.inr (.inr (some (jd (jr h5 448 a0)))), .inl (x1)] h5 0 0 (jki (fun (r10 : Int32) (h11 : jh) => ((¬ (r10) = 0 → (jt h11 a0 = 8) ∧ (¬ (jr h11 448 a0) = none) ∧ (jt h11 (jd (jr h11 448 a0)) = 7) ∧ (((ji h11 385 (jd (jr h11 448 a0))) < (120) → ∃ mc19 ms20 : Nat, mc19 ≤ k ∧ ms20 ≤ n ∧ jM g mX8_add [.inr (.inr (some (jd (jr h11 448 a0)))), .inl (x1), .inl (x2), .inl (x3)] h11 mc19 ms20 (jkv (fun (h18 : jh) => (jt h18 a0 = 8) ∧ ∀ h24 : jh, h24 = jsi h18 451 a0 (0) → (¬ (jr h24 448 a0) = none) ∧ (jt h24 (jd (jr h24 448 a0)) = 7) ∧ Q (.inl (some (.inl (ji h24 385 (jd (jr h24 448 a0)))))) h24) (fun e h9 => Q (.inr e) h9))) ∧ (¬ (ji h11 385 (jd (jr h11 448 a0))) < (120) → Q (.inl (some (.inl ((-1))))) h11))) ∧ ((r10) = 0 → Q (.inl (some (.inl ((-3))))) h11))) (fun e h9 => Q (.inr e) h9))) ∧ ((r4) = 0 → Q (.inl (some (.inl ((-4))))) h5))) (fun e h9 => Q (.inr e) h9))))) (fun e h9 => Q (.inr e) h9))
set_option maxRecDepth 20000 in
theorem vX9_item_0 {g : jg} {a0 : Nat} {x1 : Int32} {x2 : Int32} {x3 : Int32} {h : jh} {k n : Nat} {Q : jq} (hv : VX9_item_0 g a0 x1 x2 x3 h k n Q) : jG g mX9_item 0 [(0, .inr (.inr (some (a0)))), (1, .inl (x1)), (2, .inl (x2)), (3, .inl (x3))] [] h k n Q := by
  unfold VX9_item_0 at hv
  refine jg_iload_n dX9_item_0 rfl (List.Mem.tail _ (List.Mem.head _)) ?_
  refine jg_callS mX1_isLevel [.inl (x1)] [] dX9_item_1 rfl cl_RX9_43 ⟨⟨by decide, by decide⟩, by decide⟩ (Nat.zero_le _) (Nat.zero_le _) (jM.mono (jki_k (fun r1 h2 hv => ?_)) hv)
  refine jg_if_eq (tgt := 16) dX9_item_4 (by decide) (fun c3 => ?_) (fun c3 => ?_)
  · replace hv := hv.1 c3
    refine jg_bipush (v := (-4)) dX9_item_16 (by decide) ?_
    exact jg_iret dX9_item_18 rfl hv
  · replace hv := hv.2 c3
    refine jg_iload_n dX9_item_7 rfl (List.Mem.tail _ (List.Mem.head _)) ?_
    refine jg_iload_n dX9_item_8 rfl (List.Mem.tail _ (List.Mem.tail _ (List.Mem.head _))) ?_
    refine jg_iload_n dX9_item_9 rfl (List.Mem.tail _ (List.Mem.tail _ (List.Mem.tail _ (List.Mem.head _)))) ?_
    refine jg_callS mX1_isUsage [.inl (x1), .inl (x2), .inl (x3)] [] dX9_item_10 rfl cl_RX9_49 ⟨⟨by decide, by decide⟩, by decide⟩ (Nat.zero_le _) (Nat.zero_le _) (jM.mono (jki_k (fun r4 h5 hv => ?_)) hv)
    refine jg_if_ne (tgt := 19) dX9_item_13 (by decide) (fun c6 => ?_) (fun c6 => ?_)
    · replace hv := hv.1 c6
      refine jg_aload_n dX9_item_19 rfl (List.Mem.head _) ?_
      obtain ⟨f7, hv⟩ := hv
      refine jg_getr dX9_item_20 fl_RX9_10 rfl jsn f7 ?_
      refine jg_iload_n dX9_item_23 rfl (List.Mem.tail _ (List.Mem.head _)) ?_
      obtain ⟨f8, hv⟩ := hv
      obtain ⟨f9, hv⟩ := hv
      refine jp_callV mX8_hasPlaceFor [.inl (x1)] [] dX9_item_24 rfl cl_RX9_53 ⟨⟨by decide, by decide⟩, by decide⟩ f8 f9 (Nat.zero_le _) (Nat.zero_le _) (jM.mono (jki_k (fun r10 h11 hv => ?_)) hv)
      refine jg_if_ne (tgt := 33) dX9_item_27 (by decide) (fun c12 => ?_) (fun c12 => ?_)
      · replace hv := hv.1 c12
        refine jg_aload_n dX9_item_33 rfl (List.Mem.head _) ?_
        obtain ⟨f13, hv⟩ := hv
        refine jg_getr dX9_item_34 fl_RX9_10 rfl jsn f13 ?_
        obtain ⟨f14, hv⟩ := hv
        obtain ⟨f15, hv⟩ := hv
        refine jg_geti dX9_item_37 fl_RX9_56 rfl f14 f15 ?_
        refine jg_bipush (v := 120) dX9_item_40 (by decide) ?_
        refine jg_icmp_lt (tgt := 47) dX9_item_42 (by decide) (fun c16 => ?_) (fun c16 => ?_)
        · replace hv := hv.1 c16
          refine jg_aload_n dX9_item_47 rfl (List.Mem.head _) ?_
          refine jg_getr dX9_item_48 fl_RX9_10 rfl jsn f13 ?_
          refine jg_iload_n dX9_item_51 rfl (List.Mem.tail _ (List.Mem.head _)) ?_
          refine jg_iload_n dX9_item_52 rfl (List.Mem.tail _ (List.Mem.tail _ (List.Mem.head _))) ?_
          refine jg_iload_n dX9_item_53 rfl (List.Mem.tail _ (List.Mem.tail _ (List.Mem.tail _ (List.Mem.head _)))) ?_
          obtain ⟨mc19, ms20, f21, f22, hv⟩ := hv
          refine jp_callV mX8_add [.inl (x1), .inl (x2), .inl (x3)] [] dX9_item_54 rfl cl_RX9_59 ⟨⟨by decide, by decide⟩, by decide⟩ f14 f15 f21 f22 (jM.mono (jkv_k (fun h18 hv => ?_)) hv)
          refine jg_aload_n dX9_item_57 rfl (List.Mem.head _) ?_
          refine jg_iconst (v := 0) dX9_item_58 (by decide) ?_
          obtain ⟨f23, hv⟩ := hv
          obtain ⟨h24, e25⟩ : ∃ z : jh, z = jsi h18 451 a0 (0) := ⟨_, rfl⟩
          replace hv := hv h24 e25
          refine jp_putz dX9_item_59 (jfp.nf fl_RX9_32 (fun q hq => by cases hq; rfl)) rfl jsn f23 (by decide) e25 ?_
          refine jg_aload_n dX9_item_62 rfl (List.Mem.head _) ?_
          refine jg_getr dX9_item_63 fl_RX9_10 rfl jsn ((congrArg (fun z => jt z a0) e25).trans f23) ?_
          obtain ⟨f26, hv⟩ := hv
          obtain ⟨f27, hv⟩ := hv
          refine jg_geti dX9_item_66 fl_RX9_56 rfl f26 f27 ?_
          exact jg_iret dX9_item_69 rfl hv
        · replace hv := hv.2 c16
          refine jg_iconst (v := (-1)) dX9_item_45 (by decide) ?_
          exact jg_iret dX9_item_46 rfl hv
      · replace hv := hv.2 c12
        refine jg_bipush (v := (-3)) dX9_item_30 (by decide) ?_
        exact jg_iret dX9_item_32 rfl hv
    · replace hv := hv.2 c6
      refine jg_bipush (v := (-4)) dX9_item_16 (by decide) ?_
      exact jg_iret dX9_item_18 rfl hv
theorem eX9_item {g : jg} {a0 : Nat} {x1 : Int32} {x2 : Int32} {x3 : Int32} {h : jh} {mc ms : Nat} {Q : jq} (hv : VX9_item_0 g a0 x1 x2 x3 h mc ms Q) : jM g mX9_item [.inr (.inr (some (a0))), .inl (x1), .inl (x2), .inl (x3)] h mc ms Q := jM.of (by decide) (Nat.le_of_ble_eq_true rfl) (lv := [(0, .inr (.inr (some (a0)))), (1, .inl (x1)), (2, .inl (x2)), (3, .inl (x3))]) rfl (vX9_item_0 hv)
theorem dX9_clause_0 : decode cX9_clause 0 = .ok (.aload_n 0, 1) := by decide +kernel
theorem dX9_clause_1 : decode cX9_clause 1 = .ok (.getfield 10, 3) := by decide +kernel
theorem dX9_clause_4 : decode cX9_clause 4 = .ok (.iload_n 1, 1) := by decide +kernel
theorem dX9_clause_5 : decode cX9_clause 5 = .ok (.invokevirtual 63, 3) := by decide +kernel
theorem dX9_clause_8 : decode cX9_clause 8 = .ok (.astore 5, 2) := by decide +kernel
theorem dX9_clause_10 : decode cX9_clause 10 = .ok (.aload 5, 2) := by decide +kernel
theorem dX9_clause_12 : decode cX9_clause 12 = .ok (.ifnonnull 6, 3) := by decide +kernel
theorem dX9_clause_15 : decode cX9_clause 15 = .ok (.bipush (-2), 2) := by decide +kernel
theorem dX9_clause_17 : decode cX9_clause 17 = .ok (.ireturn, 1) := by decide +kernel
theorem dX9_clause_18 : decode cX9_clause 18 = .ok (.iload_n 2, 1) := by decide +kernel
theorem dX9_clause_19 : decode cX9_clause 19 = .ok (.iconst 5, 1) := by decide +kernel
theorem dX9_clause_20 : decode cX9_clause 20 = .ok (.if_icmp .ne 29, 3) := by decide +kernel
theorem dX9_clause_23 : decode cX9_clause 23 = .ok (.aload_n 0, 1) := by decide +kernel
theorem dX9_clause_24 : decode cX9_clause 24 = .ok (.getfield 10, 3) := by decide +kernel
theorem dX9_clause_27 : decode cX9_clause 27 = .ok (.iload_n 3, 1) := by decide +kernel
theorem dX9_clause_28 : decode cX9_clause 28 = .ok (.invokevirtual 63, 3) := by decide +kernel
theorem dX9_clause_31 : decode cX9_clause 31 = .ok (.ifnull 15, 3) := by decide +kernel
theorem dX9_clause_34 : decode cX9_clause 34 = .ok (.aload_n 0, 1) := by decide +kernel
theorem dX9_clause_35 : decode cX9_clause 35 = .ok (.getfield 10, 3) := by decide +kernel
theorem dX9_clause_38 : decode cX9_clause 38 = .ok (.iload 4, 2) := by decide +kernel
theorem dX9_clause_40 : decode cX9_clause 40 = .ok (.invokevirtual 63, 3) := by decide +kernel
theorem dX9_clause_43 : decode cX9_clause 43 = .ok (.ifnonnull 6, 3) := by decide +kernel
theorem dX9_clause_46 : decode cX9_clause 46 = .ok (.bipush (-2), 2) := by decide +kernel
theorem dX9_clause_48 : decode cX9_clause 48 = .ok (.ireturn, 1) := by decide +kernel
theorem dX9_clause_49 : decode cX9_clause 49 = .ok (.iload_n 2, 1) := by decide +kernel
theorem dX9_clause_50 : decode cX9_clause 50 = .ok (.iload_n 3, 1) := by decide +kernel
theorem dX9_clause_51 : decode cX9_clause 51 = .ok (.iload 4, 2) := by decide +kernel
theorem dX9_clause_53 : decode cX9_clause 53 = .ok (.invokestatic 67, 3) := by decide +kernel
theorem dX9_clause_56 : decode cX9_clause 56 = .ok (.ifCond .ne 6, 3) := by decide +kernel
theorem dX9_clause_59 : decode cX9_clause 59 = .ok (.bipush (-4), 2) := by decide +kernel
theorem dX9_clause_61 : decode cX9_clause 61 = .ok (.ireturn, 1) := by decide +kernel
theorem dX9_clause_62 : decode cX9_clause 62 = .ok (.aload_n 0, 1) := by decide +kernel
theorem dX9_clause_63 : decode cX9_clause 63 = .ok (.aload 5, 2) := by decide +kernel
theorem dX9_clause_65 : decode cX9_clause 65 = .ok (.iload_n 2, 1) := by decide +kernel
theorem dX9_clause_66 : decode cX9_clause 66 = .ok (.iload_n 3, 1) := by decide +kernel
theorem dX9_clause_67 : decode cX9_clause 67 = .ok (.iload 4, 2) := by decide +kernel
theorem dX9_clause_69 : decode cX9_clause 69 = .ok (.invokevirtual 70, 3) := by decide +kernel
theorem dX9_clause_72 : decode cX9_clause 72 = .ok (.ifCond .ne 5, 3) := by decide +kernel
theorem dX9_clause_75 : decode cX9_clause 75 = .ok (.iconst 0, 1) := by decide +kernel
theorem dX9_clause_76 : decode cX9_clause 76 = .ok (.ireturn, 1) := by decide +kernel
theorem dX9_clause_77 : decode cX9_clause 77 = .ok (.aload_n 0, 1) := by decide +kernel
theorem dX9_clause_78 : decode cX9_clause 78 = .ok (.iconst 0, 1) := by decide +kernel
theorem dX9_clause_79 : decode cX9_clause 79 = .ok (.putfield 32, 3) := by decide +kernel
theorem dX9_clause_82 : decode cX9_clause 82 = .ok (.iconst 1, 1) := by decide +kernel
theorem dX9_clause_83 : decode cX9_clause 83 = .ok (.ireturn, 1) := by decide +kernel
def VX9_clause_49 (g : jg) (a0 : Nat) (x2 : Int32) (x3 : Int32) (x4 : Int32) (o5 : Option Nat) (h : jh) (k n : Nat) (Q : jq) : Prop := jM g mX1_isClause [.inl (x2), .inl (x3), .inl (x4)] h 0 0 (jki (fun (r1 : Int32) (h2 : jh) => ((¬ (r1) = 0 → (jt h2 a0 = 8) ∧ ∃ mc7 ms8 : Nat, mc7 ≤ k ∧ ms8 ≤ n ∧ jM g mX9_tellClause [.inr (.inr (some a0)), .inr (.inr (o5)), .inl (x2), .inl (x3), .inl (x4)] h2 mc7 ms8 (jki (fun (r5 : Int32) (h6 : jh) => ((¬ (r5) = 0 → (jt h6 a0 = 8) ∧ ∀ h13 : jh, h13 = jsi h6 451 a0 (0) → Q (.inl (some (.inl (1)))) h13) ∧ ((r5) = 0 → Q (.inl (some (.inl (0)))) h6))) (fun e h9 => Q (.inr e) h9))) ∧ ((r1) = 0 → Q (.inl (some (.inl ((-4))))) h2))) (fun e h9 => Q (.inr e) h9))
set_option maxRecDepth 20000 in
theorem vX9_clause_49 {g : jg} {a0 : Nat} {x2 : Int32} {x3 : Int32} {x4 : Int32} {o5 : Option Nat} {h : jh} {k n : Nat} {Q : jq} (hv : VX9_clause_49 g a0 x2 x3 x4 o5 h k n Q) : jG g mX9_clause 49 [(0, .inr (.inr (some (a0)))), (2, .inl (x2)), (3, .inl (x3)), (4, .inl (x4)), (5, .inr (.inr (o5)))] [] h k n Q := by
  unfold VX9_clause_49 at hv
  refine jg_iload_n dX9_clause_49 rfl (List.Mem.tail _ (List.Mem.head _)) ?_
  refine jg_iload_n dX9_clause_50 rfl (List.Mem.tail _ (List.Mem.tail _ (List.Mem.head _))) ?_
  refine jg_iload dX9_clause_51 (List.Mem.tail _ (List.Mem.tail _ (List.Mem.tail _ (List.Mem.head _)))) ?_
  refine jg_callS mX1_isClause [.inl (x2), .inl (x3), .inl (x4)] [] dX9_clause_53 rfl cl_RX9_67 ⟨⟨by decide, by decide⟩, by decide⟩ (Nat.zero_le _) (Nat.zero_le _) (jM.mono (jki_k (fun r1 h2 hv => ?_)) hv)
  refine jg_if_ne (tgt := 62) dX9_clause_56 (by decide) (fun c3 => ?_) (fun c3 => ?_)
  · replace hv := hv.1 c3
    refine jg_aload_n dX9_clause_62 rfl (List.Mem.head _) ?_
    refine jg_aload dX9_clause_63 (List.Mem.tail _ (List.Mem.tail _ (List.Mem.tail _ (List.Mem.tail _ (List.Mem.head _))))) ?_
    refine jg_iload_n dX9_clause_65 rfl (List.Mem.tail _ (List.Mem.head _)) ?_
    refine jg_iload_n dX9_clause_66 rfl (List.Mem.tail _ (List.Mem.tail _ (List.Mem.head _))) ?_
    refine jg_iload dX9_clause_67 (List.Mem.tail _ (List.Mem.tail _ (List.Mem.tail _ (List.Mem.head _)))) ?_
    obtain ⟨f4, hv⟩ := hv
    obtain ⟨mc7, ms8, f9, f10, hv⟩ := hv
    refine jp_callV mX9_tellClause [.inr (.inr (o5)), .inl (x2), .inl (x3), .inl (x4)] [] dX9_clause_69 rfl cl_RX9_70 ⟨⟨by decide, by decide⟩, by decide⟩ jsn f4 f9 f10 (jM.mono (jki_k (fun r5 h6 hv => ?_)) hv)
    refine jg_if_ne (tgt := 77) dX9_clause_72 (by decide) (fun c11 => ?_) (fun c11 => ?_)
    · replace hv := hv.1 c11
      refine jg_aload_n dX9_clause_77 rfl (List.Mem.head _) ?_
      refine jg_iconst (v := 0) dX9_clause_78 (by decide) ?_
      obtain ⟨f12, hv⟩ := hv
      obtain ⟨h13, e14⟩ : ∃ z : jh, z = jsi h6 451 a0 (0) := ⟨_, rfl⟩
      replace hv := hv h13 e14
      refine jp_putz dX9_clause_79 (jfp.nf fl_RX9_32 (fun q hq => by cases hq; rfl)) rfl jsn f12 (by decide) e14 ?_
      refine jg_iconst (v := 1) dX9_clause_82 (by decide) ?_
      exact jg_iret dX9_clause_83 rfl hv
    · replace hv := hv.2 c11
      refine jg_iconst (v := 0) dX9_clause_75 (by decide) ?_
      exact jg_iret dX9_clause_76 rfl hv
  · replace hv := hv.2 c3
    refine jg_bipush (v := (-4)) dX9_clause_59 (by decide) ?_
    exact jg_iret dX9_clause_61 rfl hv
def VX9_clause_0 (g : jg) (a0 : Nat) (x1 : Int32) (x2 : Int32) (x3 : Int32) (x4 : Int32) (h : jh) (k n : Nat) (Q : jq) : Prop := (jt h a0 = 8) ∧ (¬ (jr h 448 a0) = none) ∧ (jt h (jd (jr h 448 a0)) = 7) ∧ jM g mX8_find [.inr (.inr (some (jd (jr h 448 a0)))), .inl (x1)] h 0 0 (jkr (fun (r18 : Option Nat) (h19 : jh) => ((¬ (r18) = none → ((¬ (x2) = (5) → VX9_clause_49 g (a0) (x2) (x3) (x4) (r18) h19 k n Q) ∧ ((x2) = (5) → (jt h19 a0 = 8) ∧ (¬ (jr h19 448 a0) = none) ∧ (jt h19 (jd (jr h19 448 a0)) = 7) ∧ jM g mX8_find [.inr (.inr (some (jd (jr h19 448 a0)))), .inl (x3)] h19 0 0 (jkr (fun (r25 : Option Nat) (h26 : jh) => (((r25) = none → Q (.inl (some (.inl ((-2))))) h26) ∧ (¬ (r25) = none → (jt h26 a0 = 8) ∧ (¬ (jr h26 448 a0) = none) ∧ (jt h26 (jd (jr h26 448 a0)) = 7) ∧ jM g mX8_find [.inr (.inr (some (jd (jr h26 448 a0)))), .inl (x4)] h26 0 0 (jkr (fun (r31 : Option Nat) (h32 : jh) => ((¬ (r31) = none → VX9_clause_49 g (a0) (x2) (x3) (x4) (r18) h32 k n Q) ∧ ((r31) = none → Q (.inl (some (.inl ((-2))))) h32))) (fun e h9 => Q (.inr e) h9))))) (fun e h9 => Q (.inr e) h9))))) ∧ ((r18) = none → Q (.inl (some (.inl ((-2))))) h19))) (fun e h9 => Q (.inr e) h9))
set_option maxRecDepth 20000 in
theorem vX9_clause_0 {g : jg} {a0 : Nat} {x1 : Int32} {x2 : Int32} {x3 : Int32} {x4 : Int32} {h : jh} {k n : Nat} {Q : jq} (hv : VX9_clause_0 g a0 x1 x2 x3 x4 h k n Q) : jG g mX9_clause 0 [(0, .inr (.inr (some (a0)))), (1, .inl (x1)), (2, .inl (x2)), (3, .inl (x3)), (4, .inl (x4))] [] h k n Q := by
  unfold VX9_clause_0 at hv
  refine jg_aload_n dX9_clause_0 rfl (List.Mem.head _) ?_
  obtain ⟨f15, hv⟩ := hv
  refine jg_getr dX9_clause_1 fl_RX9_10 rfl jsn f15 ?_
  refine jg_iload_n dX9_clause_4 rfl (List.Mem.tail _ (List.Mem.head _)) ?_
  obtain ⟨f16, hv⟩ := hv
  obtain ⟨f17, hv⟩ := hv
  refine jp_callV mX8_find [.inl (x1)] [] dX9_clause_5 rfl cl_RX9_63 ⟨⟨by decide, by decide⟩, by decide⟩ f16 f17 (Nat.zero_le _) (Nat.zero_le _) (jM.mono (jkr_k (fun r18 h19 hv => ?_)) hv)
  refine jg_astore (lv' := [(5, .inr (.inr (r18))), (0, .inr (.inr (some (a0)))), (1, .inl (x1)), (2, .inl (x2)), (3, .inl (x3)), (4, .inl (x4))]) dX9_clause_8 (by decide) rfl ?_
  refine jg_aload dX9_clause_10 (List.Mem.head _) ?_
  refine jg_ifnonnull (tgt := 18) dX9_clause_12 (by decide) (fun c20 => ?_) (fun c20 => ?_)
  · replace hv := hv.1 c20
    refine jg_iload_n dX9_clause_18 rfl (List.Mem.tail _ (List.Mem.tail _ (List.Mem.tail _ (List.Mem.head _)))) ?_
    refine jg_iconst (v := 5) dX9_clause_19 (by decide) ?_
    refine jg_icmp_ne (tgt := 49) dX9_clause_20 (by decide) (fun c21 => ?_) (fun c21 => ?_)
    · replace hv := hv.1 c21
      refine jG.sub (lv' := [(0, .inr (.inr (some (a0)))), (2, .inl (x2)), (3, .inl (x3)), (4, .inl (x4)), (5, .inr (.inr (r18)))]) (by simp) ?_
      exact vX9_clause_49 hv
    · replace hv := hv.2 c21
      refine jg_aload_n dX9_clause_23 rfl (List.Mem.tail _ (List.Mem.head _)) ?_
      obtain ⟨f22, hv⟩ := hv
      refine jg_getr dX9_clause_24 fl_RX9_10 rfl jsn f22 ?_
      refine jg_iload_n dX9_clause_27 rfl (List.Mem.tail _ (List.Mem.tail _ (List.Mem.tail _ (List.Mem.tail _ (List.Mem.head _))))) ?_
      obtain ⟨f23, hv⟩ := hv
      obtain ⟨f24, hv⟩ := hv
      refine jp_callV mX8_find [.inl (x3)] [] dX9_clause_28 rfl cl_RX9_63 ⟨⟨by decide, by decide⟩, by decide⟩ f23 f24 (Nat.zero_le _) (Nat.zero_le _) (jM.mono (jkr_k (fun r25 h26 hv => ?_)) hv)
      refine jg_ifnull (tgt := 46) dX9_clause_31 (by decide) (fun c27 => ?_) (fun c27 => ?_)
      · replace hv := hv.1 c27
        refine jg_bipush (v := (-2)) dX9_clause_46 (by decide) ?_
        exact jg_iret dX9_clause_48 rfl hv
      · replace hv := hv.2 c27
        refine jg_aload_n dX9_clause_34 rfl (List.Mem.tail _ (List.Mem.head _)) ?_
        obtain ⟨f28, hv⟩ := hv
        refine jg_getr dX9_clause_35 fl_RX9_10 rfl jsn f28 ?_
        refine jg_iload dX9_clause_38 (List.Mem.tail _ (List.Mem.tail _ (List.Mem.tail _ (List.Mem.tail _ (List.Mem.tail _ (List.Mem.head _)))))) ?_
        obtain ⟨f29, hv⟩ := hv
        obtain ⟨f30, hv⟩ := hv
        refine jp_callV mX8_find [.inl (x4)] [] dX9_clause_40 rfl cl_RX9_63 ⟨⟨by decide, by decide⟩, by decide⟩ f29 f30 (Nat.zero_le _) (Nat.zero_le _) (jM.mono (jkr_k (fun r31 h32 hv => ?_)) hv)
        refine jg_ifnonnull (tgt := 49) dX9_clause_43 (by decide) (fun c33 => ?_) (fun c33 => ?_)
        · replace hv := hv.1 c33
          refine jG.sub (lv' := [(0, .inr (.inr (some (a0)))), (2, .inl (x2)), (3, .inl (x3)), (4, .inl (x4)), (5, .inr (.inr (r18)))]) (by simp) ?_
          exact vX9_clause_49 hv
        · replace hv := hv.2 c33
          refine jg_bipush (v := (-2)) dX9_clause_46 (by decide) ?_
          exact jg_iret dX9_clause_48 rfl hv
  · replace hv := hv.2 c20
    refine jg_bipush (v := (-2)) dX9_clause_15 (by decide) ?_
    exact jg_iret dX9_clause_17 rfl hv
theorem eX9_clause {g : jg} {a0 : Nat} {x1 : Int32} {x2 : Int32} {x3 : Int32} {x4 : Int32} {h : jh} {mc ms : Nat} {Q : jq} (hv : VX9_clause_0 g a0 x1 x2 x3 x4 h mc ms Q) : jM g mX9_clause [.inr (.inr (some (a0))), .inl (x1), .inl (x2), .inl (x3), .inl (x4)] h mc ms Q := jM.of (by decide) (Nat.le_of_ble_eq_true rfl) (lv := [(0, .inr (.inr (some (a0)))), (1, .inl (x1)), (2, .inl (x2)), (3, .inl (x3)), (4, .inl (x4))]) rfl (vX9_clause_0 hv)
theorem dX9_lay_0 : decode cX9_lay 0 = .ok (.aload_n 0, 1) := by decide +kernel
theorem dX9_lay_1 : decode cX9_lay 1 = .ok (.iconst 0, 1) := by decide +kernel
theorem dX9_lay_2 : decode cX9_lay 2 = .ok (.putfield 32, 3) := by decide +kernel
theorem dX9_lay_5 : decode cX9_lay 5 = .ok (.aload_n 0, 1) := by decide +kernel
theorem dX9_lay_6 : decode cX9_lay 6 = .ok (.getfield 21, 3) := by decide +kernel
theorem dX9_lay_9 : decode cX9_lay 9 = .ok (.invokevirtual 74, 3) := by decide +kernel
theorem dX9_lay_12 : decode cX9_lay 12 = .ok (.aload_n 0, 1) := by decide +kernel
theorem dX9_lay_13 : decode cX9_lay 13 = .ok (.getfield 21, 3) := by decide +kernel
theorem dX9_lay_16 : decode cX9_lay 16 = .ok (.invokevirtual 77, 3) := by decide +kernel
theorem dX9_lay_19 : decode cX9_lay 19 = .ok (.istore_n 1, 1) := by decide +kernel
theorem dX9_lay_20 : decode cX9_lay 20 = .ok (.iload_n 1, 1) := by decide +kernel
theorem dX9_lay_21 : decode cX9_lay 21 = .ok (.iconst (-1), 1) := by decide +kernel
theorem dX9_lay_22 : decode cX9_lay 22 = .ok (.if_icmp .eq 8, 3) := by decide +kernel
theorem dX9_lay_25 : decode cX9_lay 25 = .ok (.bipush (-10), 2) := by decide +kernel
theorem dX9_lay_27 : decode cX9_lay 27 = .ok (.iload_n 1, 1) := by decide +kernel
theorem dX9_lay_28 : decode cX9_lay 28 = .ok (.isub, 1) := by decide +kernel
theorem dX9_lay_29 : decode cX9_lay 29 = .ok (.ireturn, 1) := by decide +kernel
theorem dX9_lay_30 : decode cX9_lay 30 = .ok (.aload_n 0, 1) := by decide +kernel
theorem dX9_lay_31 : decode cX9_lay 31 = .ok (.getfield 21, 3) := by decide +kernel
theorem dX9_lay_34 : decode cX9_lay 34 = .ok (.getfield 81, 3) := by decide +kernel
theorem dX9_lay_37 : decode cX9_lay 37 = .ok (.ldc2_w 85, 3) := by decide +kernel
theorem dX9_lay_40 : decode cX9_lay 40 = .ok (.lcmp, 1) := by decide +kernel
theorem dX9_lay_41 : decode cX9_lay 41 = .ok (.ifCond .le 6, 3) := by decide +kernel
theorem dX9_lay_44 : decode cX9_lay 44 = .ok (.bipush (-9), 2) := by decide +kernel
theorem dX9_lay_46 : decode cX9_lay 46 = .ok (.ireturn, 1) := by decide +kernel
theorem dX9_lay_47 : decode cX9_lay 47 = .ok (.aload_n 0, 1) := by decide +kernel
theorem dX9_lay_48 : decode cX9_lay 48 = .ok (.getfield 28, 3) := by decide +kernel
theorem dX9_lay_51 : decode cX9_lay 51 = .ok (.aload_n 0, 1) := by decide +kernel
theorem dX9_lay_52 : decode cX9_lay 52 = .ok (.getfield 21, 3) := by decide +kernel
theorem dX9_lay_55 : decode cX9_lay 55 = .ok (.getfield 81, 3) := by decide +kernel
theorem dX9_lay_58 : decode cX9_lay 58 = .ok (.l2i, 1) := by decide +kernel
theorem dX9_lay_59 : decode cX9_lay 59 = .ok (.invokevirtual 87, 3) := by decide +kernel
theorem dX9_lay_62 : decode cX9_lay 62 = .ok (.aload_n 0, 1) := by decide +kernel
theorem dX9_lay_63 : decode cX9_lay 63 = .ok (.invokevirtual 91, 3) := by decide +kernel
theorem dX9_lay_66 : decode cX9_lay 66 = .ok (.aload_n 0, 1) := by decide +kernel
theorem dX9_lay_67 : decode cX9_lay 67 = .ok (.invokevirtual 94, 3) := by decide +kernel
theorem dX9_lay_70 : decode cX9_lay 70 = .ok (.aload_n 0, 1) := by decide +kernel
theorem dX9_lay_71 : decode cX9_lay 71 = .ok (.iconst 1, 1) := by decide +kernel
theorem dX9_lay_72 : decode cX9_lay 72 = .ok (.putfield 32, 3) := by decide +kernel
theorem dX9_lay_75 : decode cX9_lay 75 = .ok (.aload_n 0, 1) := by decide +kernel
theorem dX9_lay_76 : decode cX9_lay 76 = .ok (.getfield 28, 3) := by decide +kernel
theorem dX9_lay_79 : decode cX9_lay 79 = .ok (.getfield 97, 3) := by decide +kernel
theorem dX9_lay_82 : decode cX9_lay 82 = .ok (.ireturn, 1) := by decide +kernel
def VX9_lay_0 (g : jg) (a0 : Nat) (h : jh) (k n : Nat) (Q : jq) : Prop := (jt h a0 = 8) ∧ ∀ h2 : jh, h2 = jsi h 451 a0 (0) → (¬ (jr h2 449 a0) = none) ∧ (jt h2 (jd (jr h2 449 a0)) = 2) ∧ jM g mX3_layAll [.inr (.inr (some (jd (jr h2 449 a0))))] h2 0 0 (jkv (fun (h7 : jh) => (jt h7 a0 = 8) ∧ (¬ (jr h7 449 a0) = none) ∧ (jt h7 (jd (jr h7 449 a0)) = 2) ∧ jM g mX3_firstWrong [.inr (.inr (some (jd (jr h7 449 a0))))] h7 0 0 (jki (fun (r11 : Int32) (h12 : jh) => (((r11) = ((-1)) → (jt h12 a0 = 8) ∧ (¬ (jr h12 449 a0) = none) ∧ (jt h12 (jd (jr h12 449 a0)) = 2) ∧ (((jl h12 65 (jd (jr h12 449 a0))) ≤ (20000) → (¬ (jr h12 450 a0) = none) ∧ (jt h12 (jd (jr h12 450 a0)) = 5) ∧ ∃ mc22 ms23 : Nat, mc22 ≤ k ∧ ms23 ≤ n ∧ jM g mX6_clear [.inr (.inr (some (jd (jr h12 450 a0)))), .inl ((jl h12 65 (jd (jr h12 449 a0)) : Int64).toInt32)] h12 mc22 ms23 (jkv (fun (h21 : jh) => (jt h21 a0 = 8) ∧ jM g mX9_fillFirstEntries [.inr (.inr (some a0))] h21 0 0 (jkv (fun (h28 : jh) => (jt h28 a0 = 8) ∧ jM g mX9_fillOtherEntries [.inr (.inr (some a0))] h28 0 0 (jkv (fun (h31 : jh) => (jt h31 a0 = 8) ∧ ∀ h33 : jh, h33 = jsi h31 451 a0 (1) → (¬ (jr h33 450 a0) = none) ∧ (jt h33 (jd (jr h33 450 a0)) = 5) ∧ Q (.inl (some (.inl (ji h33 257 (jd (jr h33 450 a0)))))) h33) (fun e h9 => Q (.inr e) h9))) (fun e h9 => Q (.inr e) h9))) (fun e h9 => Q (.inr e) h9))) ∧ (¬ (jl h12 65 (jd (jr h12 449 a0))) ≤ (20000) → Q (.inl (some (.inl ((-9))))) h12))) ∧ (¬ (r11) = ((-1)) → Q (.inl (some (.inl (((-10)) - (r11))))) h12))) (fun e h9 => Q (.inr e) h9))) (fun e h9 => Q (.inr e) h9))
set_option maxRecDepth 20000 in
theorem vX9_lay_0 {g : jg} {a0 : Nat} {h : jh} {k n : Nat} {Q : jq} (hv : VX9_lay_0 g a0 h k n Q) : jG g mX9_lay 0 [(0, .inr (.inr (some (a0))))] [] h k n Q := by
  unfold VX9_lay_0 at hv
  refine jg_aload_n dX9_lay_0 rfl (List.Mem.head _) ?_
  refine jg_iconst (v := 0) dX9_lay_1 (by decide) ?_
  obtain ⟨f1, hv⟩ := hv
  obtain ⟨h2, e3⟩ : ∃ z : jh, z = jsi h 451 a0 (0) := ⟨_, rfl⟩
  replace hv := hv h2 e3
  refine jp_putz dX9_lay_2 (jfp.nf fl_RX9_32 (fun q hq => by cases hq; rfl)) rfl jsn f1 (by decide) e3 ?_
  refine jg_aload_n dX9_lay_5 rfl (List.Mem.head _) ?_
  refine jg_getr dX9_lay_6 fl_RX9_21 rfl jsn ((congrArg (fun z => jt z a0) e3).trans f1) ?_
  obtain ⟨f4, hv⟩ := hv
  obtain ⟨f5, hv⟩ := hv
  refine jp_callV mX3_layAll [] [] dX9_lay_9 rfl cl_RX9_74 ⟨⟨by decide, by decide⟩, by decide⟩ f4 f5 (Nat.zero_le _) (Nat.zero_le _) (jM.mono (jkv_k (fun h7 hv => ?_)) hv)
  refine jg_aload_n dX9_lay_12 rfl (List.Mem.head _) ?_
  obtain ⟨f8, hv⟩ := hv
  refine jg_getr dX9_lay_13 fl_RX9_21 rfl jsn f8 ?_
  obtain ⟨f9, hv⟩ := hv
  obtain ⟨f10, hv⟩ := hv
  refine jp_callV mX3_firstWrong [] [] dX9_lay_16 rfl cl_RX9_77 ⟨⟨by decide, by decide⟩, by decide⟩ f9 f10 (Nat.zero_le _) (Nat.zero_le _) (jM.mono (jki_k (fun r11 h12 hv => ?_)) hv)
  refine jg_istore_n (lv' := [(1, .inl (r11)), (0, .inr (.inr (some (a0))))]) dX9_lay_19 rfl (by decide) rfl ?_
  refine jg_iload_n dX9_lay_20 rfl (List.Mem.head _) ?_
  refine jg_iconst (v := (-1)) dX9_lay_21 (by decide) ?_
  refine jg_icmp_eq (tgt := 30) dX9_lay_22 (by decide) (fun c13 => ?_) (fun c13 => ?_)
  · replace hv := hv.1 c13
    refine jg_aload_n dX9_lay_30 rfl (List.Mem.tail _ (List.Mem.head _)) ?_
    obtain ⟨f14, hv⟩ := hv
    refine jg_getr dX9_lay_31 fl_RX9_21 rfl jsn f14 ?_
    obtain ⟨f15, hv⟩ := hv
    obtain ⟨f16, hv⟩ := hv
    refine jg_getl dX9_lay_34 fl_RX9_81 rfl f15 f16 ?_
    refine jg_ldc2 (v := 20000) dX9_lay_37 kl_RX9_85 ?_
    refine jg_lcmp_le (tgt := 47) dX9_lay_40 dX9_lay_41 (by decide) (fun c17 => ?_) (fun c17 => ?_)
    · replace hv := hv.1 c17
      refine jg_aload_n dX9_lay_47 rfl (List.Mem.tail _ (List.Mem.head _)) ?_
      refine jg_getr dX9_lay_48 fl_RX9_28 rfl jsn f14 ?_
      refine jg_aload_n dX9_lay_51 rfl (List.Mem.tail _ (List.Mem.head _)) ?_
      refine jg_getr dX9_lay_52 fl_RX9_21 rfl jsn f14 ?_
      refine jg_getl dX9_lay_55 fl_RX9_81 rfl f15 f16 ?_
      refine jg_l2i dX9_lay_58 ?_
      obtain ⟨f18, hv⟩ := hv
      obtain ⟨f19, hv⟩ := hv
      obtain ⟨mc22, ms23, f24, f25, hv⟩ := hv
      refine jp_callV mX6_clear [.inl ((jl h12 65 (jd (jr h12 449 a0)) : Int64).toInt32)] [] dX9_lay_59 rfl cl_RX9_87 ⟨⟨by decide, by decide⟩, by decide⟩ f18 f19 f24 f25 (jM.mono (jkv_k (fun h21 hv => ?_)) hv)
      refine jg_aload_n dX9_lay_62 rfl (List.Mem.tail _ (List.Mem.head _)) ?_
      obtain ⟨f26, hv⟩ := hv
      refine jp_callV mX9_fillFirstEntries [] [] dX9_lay_63 rfl cl_RX9_91 ⟨⟨by decide, by decide⟩, by decide⟩ jsn f26 (Nat.zero_le _) (Nat.zero_le _) (jM.mono (jkv_k (fun h28 hv => ?_)) hv)
      refine jg_aload_n dX9_lay_66 rfl (List.Mem.tail _ (List.Mem.head _)) ?_
      obtain ⟨f29, hv⟩ := hv
      refine jp_callV mX9_fillOtherEntries [] [] dX9_lay_67 rfl cl_RX9_94 ⟨⟨by decide, by decide⟩, by decide⟩ jsn f29 (Nat.zero_le _) (Nat.zero_le _) (jM.mono (jkv_k (fun h31 hv => ?_)) hv)
      refine jg_aload_n dX9_lay_70 rfl (List.Mem.tail _ (List.Mem.head _)) ?_
      refine jg_iconst (v := 1) dX9_lay_71 (by decide) ?_
      obtain ⟨f32, hv⟩ := hv
      obtain ⟨h33, e34⟩ : ∃ z : jh, z = jsi h31 451 a0 (1) := ⟨_, rfl⟩
      replace hv := hv h33 e34
      refine jp_putz dX9_lay_72 (jfp.nf fl_RX9_32 (fun q hq => by cases hq; rfl)) rfl jsn f32 (by decide) e34 ?_
      refine jg_aload_n dX9_lay_75 rfl (List.Mem.tail _ (List.Mem.head _)) ?_
      refine jg_getr dX9_lay_76 fl_RX9_28 rfl jsn ((congrArg (fun z => jt z a0) e34).trans f32) ?_
      obtain ⟨f35, hv⟩ := hv
      obtain ⟨f36, hv⟩ := hv
      refine jg_geti dX9_lay_79 fl_RX9_97 rfl f35 f36 ?_
      exact jg_iret dX9_lay_82 rfl hv
    · replace hv := hv.2 c17
      refine jg_bipush (v := (-9)) dX9_lay_44 (by decide) ?_
      exact jg_iret dX9_lay_46 rfl hv
  · replace hv := hv.2 c13
    refine jg_bipush (v := (-10)) dX9_lay_25 (by decide) ?_
    refine jg_iload_n dX9_lay_27 rfl (List.Mem.head _) ?_
    refine jg_isub dX9_lay_28 ?_
    exact jg_iret dX9_lay_29 rfl hv
theorem eX9_lay {g : jg} {a0 : Nat} {h : jh} {mc ms : Nat} {Q : jq} (hv : VX9_lay_0 g a0 h mc ms Q) : jM g mX9_lay [.inr (.inr (some (a0)))] h mc ms Q := jM.of (by decide) (Nat.le_of_ble_eq_true rfl) (lv := [(0, .inr (.inr (some (a0))))]) rfl (vX9_lay_0 hv)
theorem dX9_place_0 : decode cX9_place 0 = .ok (.aload_n 0, 1) := by decide +kernel
theorem dX9_place_1 : decode cX9_place 1 = .ok (.getfield 10, 3) := by decide +kernel
theorem dX9_place_4 : decode cX9_place 4 = .ok (.iload_n 1, 1) := by decide +kernel
theorem dX9_place_5 : decode cX9_place 5 = .ok (.invokevirtual 63, 3) := by decide +kernel
theorem dX9_place_8 : decode cX9_place 8 = .ok (.astore_n 2, 1) := by decide +kernel
theorem dX9_place_9 : decode cX9_place 9 = .ok (.aload_n 0, 1) := by decide +kernel
theorem dX9_place_10 : decode cX9_place 10 = .ok (.aload_n 2, 1) := by decide +kernel
theorem dX9_place_11 : decode cX9_place 11 = .ok (.iconst 0, 1) := by decide +kernel
theorem dX9_place_12 : decode cX9_place 12 = .ok (.invokevirtual 100, 3) := by decide +kernel
theorem dX9_place_15 : decode cX9_place 15 = .ok (.istore_n 3, 1) := by decide +kernel
theorem dX9_place_16 : decode cX9_place 16 = .ok (.iload_n 3, 1) := by decide +kernel
theorem dX9_place_17 : decode cX9_place 17 = .ok (.ifCond .ne 7, 3) := by decide +kernel
theorem dX9_place_20 : decode cX9_place 20 = .ok (.aload_n 2, 1) := by decide +kernel
theorem dX9_place_21 : decode cX9_place 21 = .ok (.ifnonnull 7, 3) := by decide +kernel
theorem dX9_place_24 : decode cX9_place 24 = .ok (.iload_n 3, 1) := by decide +kernel
theorem dX9_place_25 : decode cX9_place 25 = .ok (.goto 11, 3) := by decide +kernel
theorem dX9_place_28 : decode cX9_place 28 = .ok (.aload_n 2, 1) := by decide +kernel
theorem dX9_place_29 : decode cX9_place 29 = .ok (.getfield 104, 3) := by decide +kernel
theorem dX9_place_32 : decode cX9_place 32 = .ok (.getfield 110, 3) := by decide +kernel
theorem dX9_place_35 : decode cX9_place 35 = .ok (.l2i, 1) := by decide +kernel
theorem dX9_place_36 : decode cX9_place 36 = .ok (.ireturn, 1) := by decide +kernel
def VX9_place_0 (g : jg) (a0 : Nat) (x1 : Int32) (h : jh) (k n : Nat) (Q : jq) : Prop := (jt h a0 = 8) ∧ (¬ (jr h 448 a0) = none) ∧ (jt h (jd (jr h 448 a0)) = 7) ∧ jM g mX8_find [.inr (.inr (some (jd (jr h 448 a0)))), .inl (x1)] h 0 0 (jkr (fun (r4 : Option Nat) (h5 : jh) => (jt h5 a0 = 8) ∧ jM g mX9_refusalFor [.inr (.inr (some a0)), .inr (.inr (r4)), .inl (0)] h5 0 0 (jki (fun (r7 : Int32) (h8 : jh) => ((¬ (r7) = 0 → Q (.inl (some (.inl (r7)))) h8) ∧ ((r7) = 0 → ((¬ (r4) = none → (jt h8 (jd (r4)) = 1) ∧ (¬ (jr h8 7 (jd (r4))) = none) ∧ (jt h8 (jd (jr h8 7 (jd (r4)))) = 4) ∧ Q (.inl (some (.inl ((jl h8 192 (jd (jr h8 7 (jd (r4)))) : Int64).toInt32)))) h8) ∧ ((r4) = none → Q (.inl (some (.inl (r7)))) h8))))) (fun e h9 => Q (.inr e) h9))) (fun e h9 => Q (.inr e) h9))
set_option maxRecDepth 20000 in
theorem vX9_place_0 {g : jg} {a0 : Nat} {x1 : Int32} {h : jh} {k n : Nat} {Q : jq} (hv : VX9_place_0 g a0 x1 h k n Q) : jG g mX9_place 0 [(0, .inr (.inr (some (a0)))), (1, .inl (x1))] [] h k n Q := by
  unfold VX9_place_0 at hv
  refine jg_aload_n dX9_place_0 rfl (List.Mem.head _) ?_
  obtain ⟨f1, hv⟩ := hv
  refine jg_getr dX9_place_1 fl_RX9_10 rfl jsn f1 ?_
  refine jg_iload_n dX9_place_4 rfl (List.Mem.tail _ (List.Mem.head _)) ?_
  obtain ⟨f2, hv⟩ := hv
  obtain ⟨f3, hv⟩ := hv
  refine jp_callV mX8_find [.inl (x1)] [] dX9_place_5 rfl cl_RX9_63 ⟨⟨by decide, by decide⟩, by decide⟩ f2 f3 (Nat.zero_le _) (Nat.zero_le _) (jM.mono (jkr_k (fun r4 h5 hv => ?_)) hv)
  refine jg_astore_n (lv' := [(2, .inr (.inr (r4))), (0, .inr (.inr (some (a0)))), (1, .inl (x1))]) dX9_place_8 rfl (by decide) rfl ?_
  refine jg_aload_n dX9_place_9 rfl (List.Mem.tail _ (List.Mem.head _)) ?_
  refine jg_aload_n dX9_place_10 rfl (List.Mem.head _) ?_
  refine jg_iconst (v := 0) dX9_place_11 (by decide) ?_
  obtain ⟨f6, hv⟩ := hv
  refine jp_callV mX9_refusalFor [.inr (.inr (r4)), .inl (0)] [] dX9_place_12 rfl cl_RX9_100 ⟨⟨by decide, by decide⟩, by decide⟩ jsn f6 (Nat.zero_le _) (Nat.zero_le _) (jM.mono (jki_k (fun r7 h8 hv => ?_)) hv)
  refine jg_istore_n (lv' := [(3, .inl (r7)), (2, .inr (.inr (r4))), (0, .inr (.inr (some (a0)))), (1, .inl (x1))]) dX9_place_15 rfl (by decide) rfl ?_
  refine jg_iload_n dX9_place_16 rfl (List.Mem.head _) ?_
  refine jg_if_ne (tgt := 24) dX9_place_17 (by decide) (fun c9 => ?_) (fun c9 => ?_)
  · replace hv := hv.1 c9
    refine jg_iload_n dX9_place_24 rfl (List.Mem.head _) ?_
    refine jg_goto (tgt := 36) dX9_place_25 (by decide) ?_
    exact jg_iret dX9_place_36 rfl hv
  · replace hv := hv.2 c9
    refine jg_aload_n dX9_place_20 rfl (List.Mem.tail _ (List.Mem.head _)) ?_
    refine jg_ifnonnull (tgt := 28) dX9_place_21 (by decide) (fun c10 => ?_) (fun c10 => ?_)
    · replace hv := hv.1 c10
      refine jg_aload_n dX9_place_28 rfl (List.Mem.tail _ (List.Mem.head _)) ?_
      obtain ⟨f11, hv⟩ := hv
      refine jg_getr dX9_place_29 fl_RX9_104 rfl c10 f11 ?_
      obtain ⟨f12, hv⟩ := hv
      obtain ⟨f13, hv⟩ := hv
      refine jg_getl dX9_place_32 fl_RX9_110 rfl f12 f13 ?_
      refine jg_l2i dX9_place_35 ?_
      exact jg_iret dX9_place_36 rfl hv
    · replace hv := hv.2 c10
      refine jg_iload_n dX9_place_24 rfl (List.Mem.head _) ?_
      refine jg_goto (tgt := 36) dX9_place_25 (by decide) ?_
      exact jg_iret dX9_place_36 rfl hv
theorem eX9_place {g : jg} {a0 : Nat} {x1 : Int32} {h : jh} {mc ms : Nat} {Q : jq} (hv : VX9_place_0 g a0 x1 h mc ms Q) : jM g mX9_place [.inr (.inr (some (a0))), .inl (x1)] h mc ms Q := jM.of (by decide) (Nat.le_of_ble_eq_true rfl) (lv := [(0, .inr (.inr (some (a0)))), (1, .inl (x1))]) rfl (vX9_place_0 hv)
theorem dX9_size_0 : decode cX9_size 0 = .ok (.aload_n 0, 1) := by decide +kernel
theorem dX9_size_1 : decode cX9_size 1 = .ok (.getfield 10, 3) := by decide +kernel
theorem dX9_size_4 : decode cX9_size 4 = .ok (.iload_n 1, 1) := by decide +kernel
theorem dX9_size_5 : decode cX9_size 5 = .ok (.invokevirtual 63, 3) := by decide +kernel
theorem dX9_size_8 : decode cX9_size 8 = .ok (.astore_n 2, 1) := by decide +kernel
theorem dX9_size_9 : decode cX9_size 9 = .ok (.aload_n 0, 1) := by decide +kernel
theorem dX9_size_10 : decode cX9_size 10 = .ok (.aload_n 2, 1) := by decide +kernel
theorem dX9_size_11 : decode cX9_size 11 = .ok (.iconst 0, 1) := by decide +kernel
theorem dX9_size_12 : decode cX9_size 12 = .ok (.invokevirtual 100, 3) := by decide +kernel
theorem dX9_size_15 : decode cX9_size 15 = .ok (.istore_n 3, 1) := by decide +kernel
theorem dX9_size_16 : decode cX9_size 16 = .ok (.iload_n 3, 1) := by decide +kernel
theorem dX9_size_17 : decode cX9_size 17 = .ok (.ifCond .ne 7, 3) := by decide +kernel
theorem dX9_size_20 : decode cX9_size 20 = .ok (.aload_n 2, 1) := by decide +kernel
theorem dX9_size_21 : decode cX9_size 21 = .ok (.ifnonnull 7, 3) := by decide +kernel
theorem dX9_size_24 : decode cX9_size 24 = .ok (.iload_n 3, 1) := by decide +kernel
theorem dX9_size_25 : decode cX9_size 25 = .ok (.goto 8, 3) := by decide +kernel
theorem dX9_size_28 : decode cX9_size 28 = .ok (.aload_n 2, 1) := by decide +kernel
theorem dX9_size_29 : decode cX9_size 29 = .ok (.invokevirtual 115, 3) := by decide +kernel
theorem dX9_size_32 : decode cX9_size 32 = .ok (.l2i, 1) := by decide +kernel
theorem dX9_size_33 : decode cX9_size 33 = .ok (.ireturn, 1) := by decide +kernel
def VX9_size_0 (g : jg) (a0 : Nat) (x1 : Int32) (h : jh) (k n : Nat) (Q : jq) : Prop := (jt h a0 = 8) ∧ (¬ (jr h 448 a0) = none) ∧ (jt h (jd (jr h 448 a0)) = 7) ∧ jM g mX8_find [.inr (.inr (some (jd (jr h 448 a0)))), .inl (x1)] h 0 0 (jkr (fun (r4 : Option Nat) (h5 : jh) => (jt h5 a0 = 8) ∧ jM g mX9_refusalFor [.inr (.inr (some a0)), .inr (.inr (r4)), .inl (0)] h5 0 0 (jki (fun (r7 : Int32) (h8 : jh) => ((¬ (r7) = 0 → Q (.inl (some (.inl (r7)))) h8) ∧ ((r7) = 0 → ((¬ (r4) = none → (jt h8 (jd (r4)) = 1) ∧ jM g mX0_lengthNow [.inr (.inr (some (jd (r4))))] h8 0 0 (jkl (fun (r12 : Int64) (h13 : jh) => Q (.inl (some (.inl ((r12 : Int64).toInt32)))) h13) (fun e h9 => Q (.inr e) h9))) ∧ ((r4) = none → Q (.inl (some (.inl (r7)))) h8))))) (fun e h9 => Q (.inr e) h9))) (fun e h9 => Q (.inr e) h9))
set_option maxRecDepth 20000 in
theorem vX9_size_0 {g : jg} {a0 : Nat} {x1 : Int32} {h : jh} {k n : Nat} {Q : jq} (hv : VX9_size_0 g a0 x1 h k n Q) : jG g mX9_size 0 [(0, .inr (.inr (some (a0)))), (1, .inl (x1))] [] h k n Q := by
  unfold VX9_size_0 at hv
  refine jg_aload_n dX9_size_0 rfl (List.Mem.head _) ?_
  obtain ⟨f1, hv⟩ := hv
  refine jg_getr dX9_size_1 fl_RX9_10 rfl jsn f1 ?_
  refine jg_iload_n dX9_size_4 rfl (List.Mem.tail _ (List.Mem.head _)) ?_
  obtain ⟨f2, hv⟩ := hv
  obtain ⟨f3, hv⟩ := hv
  refine jp_callV mX8_find [.inl (x1)] [] dX9_size_5 rfl cl_RX9_63 ⟨⟨by decide, by decide⟩, by decide⟩ f2 f3 (Nat.zero_le _) (Nat.zero_le _) (jM.mono (jkr_k (fun r4 h5 hv => ?_)) hv)
  refine jg_astore_n (lv' := [(2, .inr (.inr (r4))), (0, .inr (.inr (some (a0)))), (1, .inl (x1))]) dX9_size_8 rfl (by decide) rfl ?_
  refine jg_aload_n dX9_size_9 rfl (List.Mem.tail _ (List.Mem.head _)) ?_
  refine jg_aload_n dX9_size_10 rfl (List.Mem.head _) ?_
  refine jg_iconst (v := 0) dX9_size_11 (by decide) ?_
  obtain ⟨f6, hv⟩ := hv
  refine jp_callV mX9_refusalFor [.inr (.inr (r4)), .inl (0)] [] dX9_size_12 rfl cl_RX9_100 ⟨⟨by decide, by decide⟩, by decide⟩ jsn f6 (Nat.zero_le _) (Nat.zero_le _) (jM.mono (jki_k (fun r7 h8 hv => ?_)) hv)
  refine jg_istore_n (lv' := [(3, .inl (r7)), (2, .inr (.inr (r4))), (0, .inr (.inr (some (a0)))), (1, .inl (x1))]) dX9_size_15 rfl (by decide) rfl ?_
  refine jg_iload_n dX9_size_16 rfl (List.Mem.head _) ?_
  refine jg_if_ne (tgt := 24) dX9_size_17 (by decide) (fun c9 => ?_) (fun c9 => ?_)
  · replace hv := hv.1 c9
    refine jg_iload_n dX9_size_24 rfl (List.Mem.head _) ?_
    refine jg_goto (tgt := 33) dX9_size_25 (by decide) ?_
    exact jg_iret dX9_size_33 rfl hv
  · replace hv := hv.2 c9
    refine jg_aload_n dX9_size_20 rfl (List.Mem.tail _ (List.Mem.head _)) ?_
    refine jg_ifnonnull (tgt := 28) dX9_size_21 (by decide) (fun c10 => ?_) (fun c10 => ?_)
    · replace hv := hv.1 c10
      refine jg_aload_n dX9_size_28 rfl (List.Mem.tail _ (List.Mem.head _)) ?_
      obtain ⟨f11, hv⟩ := hv
      refine jp_callV mX0_lengthNow [] [] dX9_size_29 rfl cl_RX9_115 ⟨⟨by decide, by decide⟩, by decide⟩ c10 f11 (Nat.zero_le _) (Nat.zero_le _) (jM.mono (jkl_k (fun r12 h13 hv => ?_)) hv)
      refine jg_l2i dX9_size_32 ?_
      exact jg_iret dX9_size_33 rfl hv
    · replace hv := hv.2 c10
      refine jg_iload_n dX9_size_24 rfl (List.Mem.head _) ?_
      refine jg_goto (tgt := 33) dX9_size_25 (by decide) ?_
      exact jg_iret dX9_size_33 rfl hv
theorem eX9_size {g : jg} {a0 : Nat} {x1 : Int32} {h : jh} {mc ms : Nat} {Q : jq} (hv : VX9_size_0 g a0 x1 h mc ms Q) : jM g mX9_size [.inr (.inr (some (a0))), .inl (x1)] h mc ms Q := jM.of (by decide) (Nat.le_of_ble_eq_true rfl) (lv := [(0, .inr (.inr (some (a0)))), (1, .inl (x1))]) rfl (vX9_size_0 hv)
theorem dX9_subscript_0 : decode cX9_subscript 0 = .ok (.aload_n 0, 1) := by decide +kernel
theorem dX9_subscript_1 : decode cX9_subscript 1 = .ok (.getfield 10, 3) := by decide +kernel
theorem dX9_subscript_4 : decode cX9_subscript 4 = .ok (.iload_n 1, 1) := by decide +kernel
theorem dX9_subscript_5 : decode cX9_subscript 5 = .ok (.invokevirtual 63, 3) := by decide +kernel
theorem dX9_subscript_8 : decode cX9_subscript 8 = .ok (.astore 5, 2) := by decide +kernel
theorem dX9_subscript_10 : decode cX9_subscript 10 = .ok (.aload_n 0, 1) := by decide +kernel
theorem dX9_subscript_11 : decode cX9_subscript 11 = .ok (.aload 5, 2) := by decide +kernel
theorem dX9_subscript_13 : decode cX9_subscript 13 = .ok (.iconst 1, 1) := by decide +kernel
theorem dX9_subscript_14 : decode cX9_subscript 14 = .ok (.invokevirtual 100, 3) := by decide +kernel
theorem dX9_subscript_17 : decode cX9_subscript 17 = .ok (.istore 6, 2) := by decide +kernel
theorem dX9_subscript_19 : decode cX9_subscript 19 = .ok (.iload 6, 2) := by decide +kernel
theorem dX9_subscript_21 : decode cX9_subscript 21 = .ok (.ifCond .ne 8, 3) := by decide +kernel
theorem dX9_subscript_24 : decode cX9_subscript 24 = .ok (.aload 5, 2) := by decide +kernel
theorem dX9_subscript_26 : decode cX9_subscript 26 = .ok (.ifnonnull 6, 3) := by decide +kernel
theorem dX9_subscript_29 : decode cX9_subscript 29 = .ok (.iload 6, 2) := by decide +kernel
theorem dX9_subscript_31 : decode cX9_subscript 31 = .ok (.ireturn, 1) := by decide +kernel
theorem dX9_subscript_32 : decode cX9_subscript 32 = .ok (.aload 5, 2) := by decide +kernel
theorem dX9_subscript_34 : decode cX9_subscript 34 = .ok (.getfield 104, 3) := by decide +kernel
theorem dX9_subscript_37 : decode cX9_subscript 37 = .ok (.getfield 110, 3) := by decide +kernel
theorem dX9_subscript_40 : decode cX9_subscript 40 = .ok (.lstore 7, 2) := by decide +kernel
theorem dX9_subscript_42 : decode cX9_subscript 42 = .ok (.aload 5, 2) := by decide +kernel
theorem dX9_subscript_44 : decode cX9_subscript 44 = .ok (.invokevirtual 119, 3) := by decide +kernel
theorem dX9_subscript_47 : decode cX9_subscript 47 = .ok (.istore 9, 2) := by decide +kernel
theorem dX9_subscript_49 : decode cX9_subscript 49 = .ok (.iconst 1, 1) := by decide +kernel
theorem dX9_subscript_50 : decode cX9_subscript 50 = .ok (.istore 10, 2) := by decide +kernel
theorem dX9_subscript_52 : decode cX9_subscript 52 = .ok (.iload 10, 2) := by decide +kernel
theorem dX9_subscript_54 : decode cX9_subscript 54 = .ok (.iload 9, 2) := by decide +kernel
theorem dX9_subscript_56 : decode cX9_subscript 56 = .ok (.if_icmp .gt 111, 3) := by decide +kernel
theorem dX9_subscript_59 : decode cX9_subscript 59 = .ok (.iload 10, 2) := by decide +kernel
theorem dX9_subscript_61 : decode cX9_subscript 61 = .ok (.iconst 3, 1) := by decide +kernel
theorem dX9_subscript_62 : decode cX9_subscript 62 = .ok (.if_icmp .gt 105, 3) := by decide +kernel
theorem dX9_subscript_65 : decode cX9_subscript 65 = .ok (.iload 10, 2) := by decide +kernel
theorem dX9_subscript_67 : decode cX9_subscript 67 = .ok (.iconst 1, 1) := by decide +kernel
theorem dX9_subscript_68 : decode cX9_subscript 68 = .ok (.if_icmp .ne 7, 3) := by decide +kernel
theorem dX9_subscript_71 : decode cX9_subscript 71 = .ok (.iload_n 2, 1) := by decide +kernel
theorem dX9_subscript_72 : decode cX9_subscript 72 = .ok (.goto 15, 3) := by decide +kernel
theorem dX9_subscript_75 : decode cX9_subscript 75 = .ok (.iload 10, 2) := by decide +kernel
theorem dX9_subscript_77 : decode cX9_subscript 77 = .ok (.iconst 2, 1) := by decide +kernel
theorem dX9_subscript_78 : decode cX9_subscript 78 = .ok (.if_icmp .ne 7, 3) := by decide +kernel
theorem dX9_subscript_81 : decode cX9_subscript 81 = .ok (.iload_n 3, 1) := by decide +kernel
theorem dX9_subscript_82 : decode cX9_subscript 82 = .ok (.goto 5, 3) := by decide +kernel
theorem dX9_subscript_85 : decode cX9_subscript 85 = .ok (.iload 4, 2) := by decide +kernel
theorem dX9_subscript_87 : decode cX9_subscript 87 = .ok (.istore 11, 2) := by decide +kernel
theorem dX9_subscript_89 : decode cX9_subscript 89 = .ok (.aload 5, 2) := by decide +kernel
theorem dX9_subscript_91 : decode cX9_subscript 91 = .ok (.iload 9, 2) := by decide +kernel
theorem dX9_subscript_93 : decode cX9_subscript 93 = .ok (.iload 10, 2) := by decide +kernel
theorem dX9_subscript_95 : decode cX9_subscript 95 = .ok (.isub, 1) := by decide +kernel
theorem dX9_subscript_96 : decode cX9_subscript 96 = .ok (.invokevirtual 122, 3) := by decide +kernel
theorem dX9_subscript_99 : decode cX9_subscript 99 = .ok (.astore 12, 2) := by decide +kernel
theorem dX9_subscript_101 : decode cX9_subscript 101 = .ok (.aload 12, 2) := by decide +kernel
theorem dX9_subscript_103 : decode cX9_subscript 103 = .ok (.ifnonnull 6, 3) := by decide +kernel
theorem dX9_subscript_106 : decode cX9_subscript 106 = .ok (.goto 55, 3) := by decide +kernel
theorem dX9_subscript_109 : decode cX9_subscript 109 = .ok (.aload_n 0, 1) := by decide +kernel
theorem dX9_subscript_110 : decode cX9_subscript 110 = .ok (.getfield 36, 3) := by decide +kernel
theorem dX9_subscript_113 : decode cX9_subscript 113 = .ok (.ifCond .eq 32, 3) := by decide +kernel
theorem dX9_subscript_116 : decode cX9_subscript 116 = .ok (.aload_n 0, 1) := by decide +kernel
theorem dX9_subscript_117 : decode cX9_subscript 117 = .ok (.dup, 1) := by decide +kernel
theorem dX9_subscript_118 : decode cX9_subscript 118 = .ok (.getfield 39, 3) := by decide +kernel
theorem dX9_subscript_121 : decode cX9_subscript 121 = .ok (.iconst 1, 1) := by decide +kernel
theorem dX9_subscript_122 : decode cX9_subscript 122 = .ok (.iadd, 1) := by decide +kernel
theorem dX9_subscript_123 : decode cX9_subscript 123 = .ok (.putfield 39, 3) := by decide +kernel
theorem dX9_subscript_126 : decode cX9_subscript 126 = .ok (.iload 11, 2) := by decide +kernel
theorem dX9_subscript_128 : decode cX9_subscript 128 = .ok (.iconst 1, 1) := by decide +kernel
theorem dX9_subscript_129 : decode cX9_subscript 129 = .ok (.if_icmp .lt 13, 3) := by decide +kernel
theorem dX9_subscript_132 : decode cX9_subscript 132 = .ok (.iload 11, 2) := by decide +kernel
theorem dX9_subscript_134 : decode cX9_subscript 134 = .ok (.aload 12, 2) := by decide +kernel
theorem dX9_subscript_136 : decode cX9_subscript 136 = .ok (.getfield 126, 3) := by decide +kernel
theorem dX9_subscript_139 : decode cX9_subscript 139 = .ok (.if_icmp .le 6, 3) := by decide +kernel
theorem dX9_subscript_142 : decode cX9_subscript 142 = .ok (.bipush (-6), 2) := by decide +kernel
theorem dX9_subscript_144 : decode cX9_subscript 144 = .ok (.ireturn, 1) := by decide +kernel
theorem dX9_subscript_145 : decode cX9_subscript 145 = .ok (.lload 7, 2) := by decide +kernel
theorem dX9_subscript_147 : decode cX9_subscript 147 = .ok (.iload 11, 2) := by decide +kernel
theorem dX9_subscript_149 : decode cX9_subscript 149 = .ok (.i2l, 1) := by decide +kernel
theorem dX9_subscript_150 : decode cX9_subscript 150 = .ok (.lconst 1, 1) := by decide +kernel
theorem dX9_subscript_151 : decode cX9_subscript 151 = .ok (.lsub, 1) := by decide +kernel
theorem dX9_subscript_152 : decode cX9_subscript 152 = .ok (.aload 12, 2) := by decide +kernel
theorem dX9_subscript_154 : decode cX9_subscript 154 = .ok (.getfield 131, 3) := by decide +kernel
theorem dX9_subscript_157 : decode cX9_subscript 157 = .ok (.lmul, 1) := by decide +kernel
theorem dX9_subscript_158 : decode cX9_subscript 158 = .ok (.ladd, 1) := by decide +kernel
theorem dX9_subscript_159 : decode cX9_subscript 159 = .ok (.lstore 7, 2) := by decide +kernel
theorem dX9_subscript_161 : decode cX9_subscript 161 = .ok (.iinc 10 1, 3) := by decide +kernel
theorem dX9_subscript_164 : decode cX9_subscript 164 = .ok (.goto (-112), 3) := by decide +kernel
theorem dX9_subscript_167 : decode cX9_subscript 167 = .ok (.lload 7, 2) := by decide +kernel
theorem dX9_subscript_169 : decode cX9_subscript 169 = .ok (.lconst 0, 1) := by decide +kernel
theorem dX9_subscript_170 : decode cX9_subscript 170 = .ok (.lcmp, 1) := by decide +kernel
theorem dX9_subscript_171 : decode cX9_subscript 171 = .ok (.ifCond .lt 23, 3) := by decide +kernel
theorem dX9_subscript_174 : decode cX9_subscript 174 = .ok (.lload 7, 2) := by decide +kernel
theorem dX9_subscript_176 : decode cX9_subscript 176 = .ok (.aload 5, 2) := by decide +kernel
theorem dX9_subscript_178 : decode cX9_subscript 178 = .ok (.invokevirtual 134, 3) := by decide +kernel
theorem dX9_subscript_181 : decode cX9_subscript 181 = .ok (.ladd, 1) := by decide +kernel
theorem dX9_subscript_182 : decode cX9_subscript 182 = .ok (.aload_n 0, 1) := by decide +kernel
theorem dX9_subscript_183 : decode cX9_subscript 183 = .ok (.getfield 28, 3) := by decide +kernel
theorem dX9_subscript_186 : decode cX9_subscript 186 = .ok (.getfield 97, 3) := by decide +kernel
theorem dX9_subscript_189 : decode cX9_subscript 189 = .ok (.i2l, 1) := by decide +kernel
theorem dX9_subscript_190 : decode cX9_subscript 190 = .ok (.lcmp, 1) := by decide +kernel
theorem dX9_subscript_191 : decode cX9_subscript 191 = .ok (.ifCond .le 13, 3) := by decide +kernel
theorem dX9_subscript_194 : decode cX9_subscript 194 = .ok (.new 137, 3) := by decide +kernel
theorem dX9_subscript_197 : decode cX9_subscript 197 = .ok (.dup, 1) := by decide +kernel
theorem dX9_subscript_198 : decode cX9_subscript 198 = .ok (.ldc 139, 2) := by decide +kernel
theorem dX9_subscript_200 : decode cX9_subscript 200 = .ok (.invokespecial 141, 3) := by decide +kernel
theorem dX9_subscript_203 : decode cX9_subscript 203 = .ok (.athrow, 1) := by decide +kernel
theorem dX9_subscript_204 : decode cX9_subscript 204 = .ok (.lload 7, 2) := by decide +kernel
theorem dX9_subscript_206 : decode cX9_subscript 206 = .ok (.l2i, 1) := by decide +kernel
theorem dX9_subscript_207 : decode cX9_subscript 207 = .ok (.ireturn, 1) := by decide +kernel
def VX9_subscript_167 (g : jg) (a0 : Nat) (o5 : Option Nat) (x7 : Int64) (h : jh) (k n : Nat) (Q : jq) : Prop := (((x7) < (0) → (1 ≤ k) ∧ (6 ≤ n) ∧ (∀ z : Nat, jz h ≤ z → Q (.inr 0) (jgr h z))) ∧ (¬ (x7) < (0) → (¬ (o5) = none) ∧ (jt h (jd (o5)) = 1) ∧ jM g mX0_length [.inr (.inr (some (jd (o5))))] h 0 0 (jkl (fun (r6 : Int64) (h7 : jh) => (jt h7 a0 = 8) ∧ (¬ (jr h7 450 a0) = none) ∧ (jt h7 (jd (jr h7 450 a0)) = 5) ∧ ((((x7) + (r6)) ≤ ((ji h7 257 (jd (jr h7 450 a0)) : Int32).toInt64) → Q (.inl (some (.inl ((x7 : Int64).toInt32)))) h7) ∧ (¬ ((x7) + (r6)) ≤ ((ji h7 257 (jd (jr h7 450 a0)) : Int32).toInt64) → (1 ≤ k) ∧ (6 ≤ n) ∧ (∀ z : Nat, jz h7 ≤ z → Q (.inr 0) (jgr h7 z))))) (fun e h9 => Q (.inr e) h9))))
set_option maxRecDepth 20000 in
theorem vX9_subscript_167 {g : jg} {a0 : Nat} {o5 : Option Nat} {x7 : Int64} {h : jh} {k n : Nat} {Q : jq} (hv : VX9_subscript_167 g a0 o5 x7 h k n Q) : jG g mX9_subscript 167 [(0, .inr (.inr (some (a0)))), (5, .inr (.inr (o5))), (7, .inr (.inl (x7)))] [] h k n Q := by
  unfold VX9_subscript_167 at hv
  refine jg_lload dX9_subscript_167 (List.Mem.tail _ (List.Mem.tail _ (List.Mem.head _))) ?_
  refine jg_lconst (v := 0) dX9_subscript_169 (by decide) ?_
  refine jg_lcmp_lt (tgt := 194) dX9_subscript_170 dX9_subscript_171 (by decide) (fun c1 => ?_) (fun c1 => ?_)
  · replace hv := hv.1 c1
    obtain ⟨f2, hv⟩ := hv
    obtain ⟨f3, hv⟩ := hv
    exact jg_throw 0 ["java/lang/IndexOutOfBoundsException", "java/lang/RuntimeException", "java/lang/Exception"] "the subscripts lead out of all bytes" dX9_subscript_194 dX9_subscript_197 dX9_subscript_198 dX9_subscript_200 dX9_subscript_203 tl_RX9_137_139 (by decide) (by decide) f2 f3 hv
  · replace hv := hv.2 c1
    refine jg_lload dX9_subscript_174 (List.Mem.tail _ (List.Mem.tail _ (List.Mem.head _))) ?_
    refine jg_aload dX9_subscript_176 (List.Mem.tail _ (List.Mem.head _)) ?_
    obtain ⟨f4, hv⟩ := hv
    obtain ⟨f5, hv⟩ := hv
    refine jp_callV mX0_length [] [.inr (.inl (x7))] dX9_subscript_178 rfl cl_RX9_134 ⟨⟨by decide, by decide⟩, jcat_le _ (Nat.le_of_ble_eq_true rfl)⟩ f4 f5 (Nat.zero_le _) (Nat.zero_le _) (jM.mono (jkl_k (fun r6 h7 hv => ?_)) hv)
    refine jg_ladd dX9_subscript_181 ?_
    refine jg_aload_n dX9_subscript_182 rfl (List.Mem.head _) ?_
    obtain ⟨f8, hv⟩ := hv
    refine jg_getr dX9_subscript_183 fl_RX9_28 rfl jsn f8 ?_
    obtain ⟨f9, hv⟩ := hv
    obtain ⟨f10, hv⟩ := hv
    refine jg_geti dX9_subscript_186 fl_RX9_97 rfl f9 f10 ?_
    refine jg_i2l dX9_subscript_189 ?_
    refine jg_lcmp_le (tgt := 204) dX9_subscript_190 dX9_subscript_191 (by decide) (fun c11 => ?_) (fun c11 => ?_)
    · replace hv := hv.1 c11
      refine jg_lload dX9_subscript_204 (List.Mem.tail _ (List.Mem.tail _ (List.Mem.head _))) ?_
      refine jg_l2i dX9_subscript_206 ?_
      exact jg_iret dX9_subscript_207 rfl hv
    · replace hv := hv.2 c11
      obtain ⟨f12, hv⟩ := hv
      obtain ⟨f13, hv⟩ := hv
      exact jg_throw 0 ["java/lang/IndexOutOfBoundsException", "java/lang/RuntimeException", "java/lang/Exception"] "the subscripts lead out of all bytes" dX9_subscript_194 dX9_subscript_197 dX9_subscript_198 dX9_subscript_200 dX9_subscript_203 tl_RX9_137_139 (by decide) (by decide) f12 f13 hv
def VX9_subscript_145 (g : jg) (a0 : Nat) (x2 : Int32) (x3 : Int32) (x4 : Int32) (o5 : Option Nat) (x7 : Int64) (x9 : Int32) (x10 : Int32) (x11 : Int32) (o12 : Option Nat) (h : jh) (k n : Nat) (Q : jq) : Prop := (¬ (o12) = none) ∧ (jt h (jd (o12)) = 6) ∧ jG g mX9_subscript 52 [(0, .inr (.inr (some (a0)))), (2, .inl (x2)), (3, .inl (x3)), (4, .inl (x4)), (5, .inr (.inr (o5))), (7, .inr (.inl ((x7) + ((((x11 : Int32).toInt64) - (1)) * (jl h 324 (jd (o12))))))), (9, .inl (x9)), (10, .inl ((x10) + 1))] [] h k n Q
set_option maxRecDepth 20000 in
theorem vX9_subscript_145 {g : jg} {a0 : Nat} {x2 : Int32} {x3 : Int32} {x4 : Int32} {o5 : Option Nat} {x7 : Int64} {x9 : Int32} {x10 : Int32} {x11 : Int32} {o12 : Option Nat} {h : jh} {k n : Nat} {Q : jq} (hv : VX9_subscript_145 g a0 x2 x3 x4 o5 x7 x9 x10 x11 o12 h k n Q) : jG g mX9_subscript 145 [(0, .inr (.inr (some (a0)))), (2, .inl (x2)), (3, .inl (x3)), (4, .inl (x4)), (5, .inr (.inr (o5))), (7, .inr (.inl (x7))), (9, .inl (x9)), (10, .inl (x10)), (11, .inl (x11)), (12, .inr (.inr (o12)))] [] h k n Q := by
  unfold VX9_subscript_145 at hv
  refine jg_lload dX9_subscript_145 (List.Mem.tail _ (List.Mem.tail _ (List.Mem.tail _ (List.Mem.tail _ (List.Mem.tail _ (List.Mem.head _)))))) ?_
  refine jg_iload dX9_subscript_147 (List.Mem.tail _ (List.Mem.tail _ (List.Mem.tail _ (List.Mem.tail _ (List.Mem.tail _ (List.Mem.tail _ (List.Mem.tail _ (List.Mem.tail _ (List.Mem.head _))))))))) ?_
  refine jg_i2l dX9_subscript_149 ?_
  refine jg_lconst (v := 1) dX9_subscript_150 (by decide) ?_
  refine jg_lsub dX9_subscript_151 ?_
  refine jg_aload dX9_subscript_152 (List.Mem.tail _ (List.Mem.tail _ (List.Mem.tail _ (List.Mem.tail _ (List.Mem.tail _ (List.Mem.tail _ (List.Mem.tail _ (List.Mem.tail _ (List.Mem.tail _ (List.Mem.head _)))))))))) ?_
  obtain ⟨f14, hv⟩ := hv
  obtain ⟨f15, hv⟩ := hv
  refine jg_getl dX9_subscript_154 fl_RX9_131 rfl f14 f15 ?_
  refine jg_lmul dX9_subscript_157 ?_
  refine jg_ladd dX9_subscript_158 ?_
  refine jg_lstore (lv' := [(7, .inr (.inl ((x7) + ((((x11 : Int32).toInt64) - (1)) * (jl h 324 (jd (o12))))))), (0, .inr (.inr (some (a0)))), (2, .inl (x2)), (3, .inl (x3)), (4, .inl (x4)), (5, .inr (.inr (o5))), (9, .inl (x9)), (10, .inl (x10)), (11, .inl (x11)), (12, .inr (.inr (o12)))]) dX9_subscript_159 (by decide) rfl ?_
  refine jg_iinc (v := (x10) + 1) (lv' := [(10, .inl ((x10) + 1)), (7, .inr (.inl ((x7) + ((((x11 : Int32).toInt64) - (1)) * (jl h 324 (jd (o12))))))), (0, .inr (.inr (some (a0)))), (2, .inl (x2)), (3, .inl (x3)), (4, .inl (x4)), (5, .inr (.inr (o5))), (9, .inl (x9)), (11, .inl (x11)), (12, .inr (.inr (o12)))]) dX9_subscript_161 (List.Mem.tail _ (List.Mem.tail _ (List.Mem.tail _ (List.Mem.tail _ (List.Mem.tail _ (List.Mem.tail _ (List.Mem.tail _ (List.Mem.head _)))))))) rfl (by decide) rfl ?_
  refine jg_goto (tgt := 52) dX9_subscript_164 (by decide) ?_
  refine jG.sub (lv' := [(0, .inr (.inr (some (a0)))), (2, .inl (x2)), (3, .inl (x3)), (4, .inl (x4)), (5, .inr (.inr (o5))), (7, .inr (.inl ((x7) + ((((x11 : Int32).toInt64) - (1)) * (jl h 324 (jd (o12))))))), (9, .inl (x9)), (10, .inl ((x10) + 1))]) (by simp) ?_
  exact hv
def VX9_subscript_87 (g : jg) (a0 : Nat) (x2 : Int32) (x3 : Int32) (x4 : Int32) (o5 : Option Nat) (x7 : Int64) (x9 : Int32) (x10 : Int32) (s0 : Int32) (h : jh) (k n : Nat) (Q : jq) : Prop := (¬ (o5) = none) ∧ (jt h (jd (o5)) = 1) ∧ jM g mX0_tableOutwards [.inr (.inr (some (jd (o5)))), .inl ((x9) - (x10))] h 0 0 (jkr (fun (r18 : Option Nat) (h19 : jh) => ((¬ (r18) = none → (jt h19 a0 = 8) ∧ (((ji h19 452 a0) = 0 → VX9_subscript_145 g (a0) (x2) (x3) (x4) (o5) (x7) (x9) (x10) (s0) (r18) h19 k n Q) ∧ (¬ (ji h19 452 a0) = 0 → ∀ h23 : jh, h23 = jsi h19 453 a0 ((ji h19 453 a0) + (1)) → (((s0) < (1) → Q (.inl (some (.inl ((-6))))) h23) ∧ (¬ (s0) < (1) → (jt h23 (jd (r18)) = 6) ∧ (((s0) ≤ (ji h23 323 (jd (r18))) → VX9_subscript_145 g (a0) (x2) (x3) (x4) (o5) (x7) (x9) (x10) (s0) (r18) h23 k n Q) ∧ (¬ (s0) ≤ (ji h23 323 (jd (r18))) → Q (.inl (some (.inl ((-6))))) h23))))))) ∧ ((r18) = none → jG g mX9_subscript 52 [(0, .inr (.inr (some (a0)))), (2, .inl (x2)), (3, .inl (x3)), (4, .inl (x4)), (5, .inr (.inr (o5))), (7, .inr (.inl (x7))), (9, .inl (x9)), (10, .inl ((x10) + 1))] [] h19 k n Q))) (fun e h9 => Q (.inr e) h9))
set_option maxRecDepth 20000 in
theorem vX9_subscript_87 {g : jg} {a0 : Nat} {x2 : Int32} {x3 : Int32} {x4 : Int32} {o5 : Option Nat} {x7 : Int64} {x9 : Int32} {x10 : Int32} {s0 : Int32} {h : jh} {k n : Nat} {Q : jq} (hv : VX9_subscript_87 g a0 x2 x3 x4 o5 x7 x9 x10 s0 h k n Q) : jG g mX9_subscript 87 [(0, .inr (.inr (some (a0)))), (2, .inl (x2)), (3, .inl (x3)), (4, .inl (x4)), (5, .inr (.inr (o5))), (7, .inr (.inl (x7))), (9, .inl (x9)), (10, .inl (x10))] [.inl (s0)] h k n Q := by
  unfold VX9_subscript_87 at hv
  refine jg_istore (lv' := [(11, .inl (s0)), (0, .inr (.inr (some (a0)))), (2, .inl (x2)), (3, .inl (x3)), (4, .inl (x4)), (5, .inr (.inr (o5))), (7, .inr (.inl (x7))), (9, .inl (x9)), (10, .inl (x10))]) dX9_subscript_87 (by decide) rfl ?_
  refine jg_aload dX9_subscript_89 (List.Mem.tail _ (List.Mem.tail _ (List.Mem.tail _ (List.Mem.tail _ (List.Mem.tail _ (List.Mem.head _)))))) ?_
  refine jg_iload dX9_subscript_91 (List.Mem.tail _ (List.Mem.tail _ (List.Mem.tail _ (List.Mem.tail _ (List.Mem.tail _ (List.Mem.tail _ (List.Mem.tail _ (List.Mem.head _)))))))) ?_
  refine jg_iload dX9_subscript_93 (List.Mem.tail _ (List.Mem.tail _ (List.Mem.tail _ (List.Mem.tail _ (List.Mem.tail _ (List.Mem.tail _ (List.Mem.tail _ (List.Mem.tail _ (List.Mem.head _))))))))) ?_
  refine jg_isub dX9_subscript_95 ?_
  obtain ⟨f16, hv⟩ := hv
  obtain ⟨f17, hv⟩ := hv
  refine jp_callV mX0_tableOutwards [.inl ((x9) - (x10))] [] dX9_subscript_96 rfl cl_RX9_122 ⟨⟨by decide, by decide⟩, by decide⟩ f16 f17 (Nat.zero_le _) (Nat.zero_le _) (jM.mono (jkr_k (fun r18 h19 hv => ?_)) hv)
  refine jg_astore (lv' := [(12, .inr (.inr (r18))), (11, .inl (s0)), (0, .inr (.inr (some (a0)))), (2, .inl (x2)), (3, .inl (x3)), (4, .inl (x4)), (5, .inr (.inr (o5))), (7, .inr (.inl (x7))), (9, .inl (x9)), (10, .inl (x10))]) dX9_subscript_99 (by decide) rfl ?_
  refine jg_aload dX9_subscript_101 (List.Mem.head _) ?_
  refine jg_ifnonnull (tgt := 109) dX9_subscript_103 (by decide) (fun c20 => ?_) (fun c20 => ?_)
  · replace hv := hv.1 c20
    refine jg_aload_n dX9_subscript_109 rfl (List.Mem.tail _ (List.Mem.tail _ (List.Mem.head _))) ?_
    obtain ⟨f21, hv⟩ := hv
    refine jg_geti dX9_subscript_110 fl_RX9_36 rfl jsn f21 ?_
    refine jg_if_eq (tgt := 145) dX9_subscript_113 (by decide) (fun c22 => ?_) (fun c22 => ?_)
    · replace hv := hv.1 c22
      refine jG.sub (lv' := [(0, .inr (.inr (some (a0)))), (2, .inl (x2)), (3, .inl (x3)), (4, .inl (x4)), (5, .inr (.inr (o5))), (7, .inr (.inl (x7))), (9, .inl (x9)), (10, .inl (x10)), (11, .inl (s0)), (12, .inr (.inr (r18)))]) (by simp) ?_
      exact vX9_subscript_145 hv
    · replace hv := hv.2 c22
      refine jg_aload_n dX9_subscript_116 rfl (List.Mem.tail _ (List.Mem.tail _ (List.Mem.head _))) ?_
      refine jg_dup dX9_subscript_117 rfl ?_
      refine jg_geti dX9_subscript_118 fl_RX9_39 rfl jsn f21 ?_
      refine jg_iconst (v := 1) dX9_subscript_121 (by decide) ?_
      refine jg_iadd dX9_subscript_122 ?_
      obtain ⟨h23, e24⟩ : ∃ z : jh, z = jsi h19 453 a0 ((ji h19 453 a0) + (1)) := ⟨_, rfl⟩
      replace hv := hv h23 e24
      refine jp_puti dX9_subscript_123 (jfp.nf fl_RX9_39 (fun q hq => by cases hq; rfl)) rfl jsn f21 e24 ?_
      refine jg_iload dX9_subscript_126 (List.Mem.tail _ (List.Mem.head _)) ?_
      refine jg_iconst (v := 1) dX9_subscript_128 (by decide) ?_
      refine jg_icmp_lt (tgt := 142) dX9_subscript_129 (by decide) (fun c25 => ?_) (fun c25 => ?_)
      · replace hv := hv.1 c25
        refine jg_bipush (v := (-6)) dX9_subscript_142 (by decide) ?_
        exact jg_iret dX9_subscript_144 rfl hv
      · replace hv := hv.2 c25
        refine jg_iload dX9_subscript_132 (List.Mem.tail _ (List.Mem.head _)) ?_
        refine jg_aload dX9_subscript_134 (List.Mem.head _) ?_
        obtain ⟨f26, hv⟩ := hv
        refine jg_geti dX9_subscript_136 fl_RX9_126 rfl c20 f26 ?_
        refine jg_icmp_le (tgt := 145) dX9_subscript_139 (by decide) (fun c27 => ?_) (fun c27 => ?_)
        · replace hv := hv.1 c27
          refine jG.sub (lv' := [(0, .inr (.inr (some (a0)))), (2, .inl (x2)), (3, .inl (x3)), (4, .inl (x4)), (5, .inr (.inr (o5))), (7, .inr (.inl (x7))), (9, .inl (x9)), (10, .inl (x10)), (11, .inl (s0)), (12, .inr (.inr (r18)))]) (by simp) ?_
          exact vX9_subscript_145 hv
        · replace hv := hv.2 c27
          refine jg_bipush (v := (-6)) dX9_subscript_142 (by decide) ?_
          exact jg_iret dX9_subscript_144 rfl hv
  · replace hv := hv.2 c20
    refine jg_goto (tgt := 161) dX9_subscript_106 (by decide) ?_
    refine jg_iinc (v := (x10) + 1) (lv' := [(10, .inl ((x10) + 1)), (12, .inr (.inr (r18))), (11, .inl (s0)), (0, .inr (.inr (some (a0)))), (2, .inl (x2)), (3, .inl (x3)), (4, .inl (x4)), (5, .inr (.inr (o5))), (7, .inr (.inl (x7))), (9, .inl (x9))]) dX9_subscript_161 (List.Mem.tail _ (List.Mem.tail _ (List.Mem.tail _ (List.Mem.tail _ (List.Mem.tail _ (List.Mem.tail _ (List.Mem.tail _ (List.Mem.tail _ (List.Mem.tail _ (List.Mem.head _)))))))))) rfl (by decide) rfl ?_
    refine jg_goto (tgt := 52) dX9_subscript_164 (by decide) ?_
    refine jG.sub (lv' := [(0, .inr (.inr (some (a0)))), (2, .inl (x2)), (3, .inl (x3)), (4, .inl (x4)), (5, .inr (.inr (o5))), (7, .inr (.inl (x7))), (9, .inl (x9)), (10, .inl ((x10) + 1))]) (by simp) ?_
    exact hv
def VX9_subscript_52 (g : jg) (a0 : Nat) (x2 : Int32) (x3 : Int32) (x4 : Int32) (o5 : Option Nat) (x7 : Int64) (x9 : Int32) (x10 : Int32) (h : jh) (k n : Nat) (Q : jq) : Prop := (((x9) < (x10) → VX9_subscript_167 g (a0) (o5) (x7) h k n Q) ∧ (¬ (x9) < (x10) → (((3 : Int32) < (x10) → VX9_subscript_167 g (a0) (o5) (x7) h k n Q) ∧ (¬ (3 : Int32) < (x10) → ((¬ (x10) = (1) → ((¬ (x10) = (2) → VX9_subscript_87 g (a0) (x2) (x3) (x4) (o5) (x7) (x9) (x10) (x4) h k n Q) ∧ ((x10) = (2) → VX9_subscript_87 g (a0) (x2) (x3) (x4) (o5) (x7) (x9) (x10) (x3) h k n Q))) ∧ ((x10) = (1) → VX9_subscript_87 g (a0) (x2) (x3) (x4) (o5) (x7) (x9) (x10) (x2) h k n Q))))))
set_option maxRecDepth 20000 in
theorem vX9_subscript_52 {g : jg} {a0 : Nat} {x2 : Int32} {x3 : Int32} {x4 : Int32} {o5 : Option Nat} {x7 : Int64} {x9 : Int32} {x10 : Int32} {h : jh} {k n : Nat} {Q : jq} (hv : VX9_subscript_52 g a0 x2 x3 x4 o5 x7 x9 x10 h k n Q) : jG g mX9_subscript 52 [(0, .inr (.inr (some (a0)))), (2, .inl (x2)), (3, .inl (x3)), (4, .inl (x4)), (5, .inr (.inr (o5))), (7, .inr (.inl (x7))), (9, .inl (x9)), (10, .inl (x10))] [] h k n Q := by
  unfold VX9_subscript_52 at hv
  refine jg_iload dX9_subscript_52 (List.Mem.tail _ (List.Mem.tail _ (List.Mem.tail _ (List.Mem.tail _ (List.Mem.tail _ (List.Mem.tail _ (List.Mem.tail _ (List.Mem.head _)))))))) ?_
  refine jg_iload dX9_subscript_54 (List.Mem.tail _ (List.Mem.tail _ (List.Mem.tail _ (List.Mem.tail _ (List.Mem.tail _ (List.Mem.tail _ (List.Mem.head _))))))) ?_
  refine jg_icmp_gt (tgt := 167) dX9_subscript_56 (by decide) (fun c28 => ?_) (fun c28 => ?_)
  · replace hv := hv.1 c28
    refine jG.sub (lv' := [(0, .inr (.inr (some (a0)))), (5, .inr (.inr (o5))), (7, .inr (.inl (x7)))]) (by simp) ?_
    exact vX9_subscript_167 hv
  · replace hv := hv.2 c28
    refine jg_iload dX9_subscript_59 (List.Mem.tail _ (List.Mem.tail _ (List.Mem.tail _ (List.Mem.tail _ (List.Mem.tail _ (List.Mem.tail _ (List.Mem.tail _ (List.Mem.head _)))))))) ?_
    refine jg_iconst (v := 3) dX9_subscript_61 (by decide) ?_
    refine jg_icmp_gt (tgt := 167) dX9_subscript_62 (by decide) (fun c29 => ?_) (fun c29 => ?_)
    · replace hv := hv.1 c29
      refine jG.sub (lv' := [(0, .inr (.inr (some (a0)))), (5, .inr (.inr (o5))), (7, .inr (.inl (x7)))]) (by simp) ?_
      exact vX9_subscript_167 hv
    · replace hv := hv.2 c29
      refine jg_iload dX9_subscript_65 (List.Mem.tail _ (List.Mem.tail _ (List.Mem.tail _ (List.Mem.tail _ (List.Mem.tail _ (List.Mem.tail _ (List.Mem.tail _ (List.Mem.head _)))))))) ?_
      refine jg_iconst (v := 1) dX9_subscript_67 (by decide) ?_
      refine jg_icmp_ne (tgt := 75) dX9_subscript_68 (by decide) (fun c30 => ?_) (fun c30 => ?_)
      · replace hv := hv.1 c30
        refine jg_iload dX9_subscript_75 (List.Mem.tail _ (List.Mem.tail _ (List.Mem.tail _ (List.Mem.tail _ (List.Mem.tail _ (List.Mem.tail _ (List.Mem.tail _ (List.Mem.head _)))))))) ?_
        refine jg_iconst (v := 2) dX9_subscript_77 (by decide) ?_
        refine jg_icmp_ne (tgt := 85) dX9_subscript_78 (by decide) (fun c31 => ?_) (fun c31 => ?_)
        · replace hv := hv.1 c31
          refine jg_iload dX9_subscript_85 (List.Mem.tail _ (List.Mem.tail _ (List.Mem.tail _ (List.Mem.head _)))) ?_
          exact vX9_subscript_87 hv
        · replace hv := hv.2 c31
          refine jg_iload_n dX9_subscript_81 rfl (List.Mem.tail _ (List.Mem.tail _ (List.Mem.head _))) ?_
          refine jg_goto (tgt := 87) dX9_subscript_82 (by decide) ?_
          exact vX9_subscript_87 hv
      · replace hv := hv.2 c30
        refine jg_iload_n dX9_subscript_71 rfl (List.Mem.tail _ (List.Mem.head _)) ?_
        refine jg_goto (tgt := 87) dX9_subscript_72 (by decide) ?_
        exact vX9_subscript_87 hv
def VX9_subscript_0 (g : jg) (a0 : Nat) (x1 : Int32) (x2 : Int32) (x3 : Int32) (x4 : Int32) (h : jh) (k n : Nat) (Q : jq) : Prop := (jt h a0 = 8) ∧ (¬ (jr h 448 a0) = none) ∧ (jt h (jd (jr h 448 a0)) = 7) ∧ jM g mX8_find [.inr (.inr (some (jd (jr h 448 a0)))), .inl (x1)] h 0 0 (jkr (fun (r35 : Option Nat) (h36 : jh) => (jt h36 a0 = 8) ∧ jM g mX9_refusalFor [.inr (.inr (some a0)), .inr (.inr (r35)), .inl (1)] h36 0 0 (jki (fun (r38 : Int32) (h39 : jh) => ((¬ (r38) = 0 → Q (.inl (some (.inl (r38)))) h39) ∧ ((r38) = 0 → ((¬ (r35) = none → (jt h39 (jd (r35)) = 1) ∧ (¬ (jr h39 7 (jd (r35))) = none) ∧ (jt h39 (jd (jr h39 7 (jd (r35)))) = 4) ∧ jM g mX0_tablesWithin [.inr (.inr (some (jd (r35))))] h39 0 0 (jki (fun (r45 : Int32) (h46 : jh) => jG g mX9_subscript 52 [(0, .inr (.inr (some (a0)))), (2, .inl (x2)), (3, .inl (x3)), (4, .inl (x4)), (5, .inr (.inr (r35))), (7, .inr (.inl (jl h39 192 (jd (jr h39 7 (jd (r35))))))), (9, .inl (r45)), (10, .inl (1))] [] h46 k n Q) (fun e h9 => Q (.inr e) h9))) ∧ ((r35) = none → Q (.inl (some (.inl (r38)))) h39))))) (fun e h9 => Q (.inr e) h9))) (fun e h9 => Q (.inr e) h9))
set_option maxRecDepth 20000 in
theorem vX9_subscript_0 {g : jg} {a0 : Nat} {x1 : Int32} {x2 : Int32} {x3 : Int32} {x4 : Int32} {h : jh} {k n : Nat} {Q : jq} (hv : VX9_subscript_0 g a0 x1 x2 x3 x4 h k n Q) : jG g mX9_subscript 0 [(0, .inr (.inr (some (a0)))), (1, .inl (x1)), (2, .inl (x2)), (3, .inl (x3)), (4, .inl (x4))] [] h k n Q := by
  unfold VX9_subscript_0 at hv
  refine jg_aload_n dX9_subscript_0 rfl (List.Mem.head _) ?_
  obtain ⟨f32, hv⟩ := hv
  refine jg_getr dX9_subscript_1 fl_RX9_10 rfl jsn f32 ?_
  refine jg_iload_n dX9_subscript_4 rfl (List.Mem.tail _ (List.Mem.head _)) ?_
  obtain ⟨f33, hv⟩ := hv
  obtain ⟨f34, hv⟩ := hv
  refine jp_callV mX8_find [.inl (x1)] [] dX9_subscript_5 rfl cl_RX9_63 ⟨⟨by decide, by decide⟩, by decide⟩ f33 f34 (Nat.zero_le _) (Nat.zero_le _) (jM.mono (jkr_k (fun r35 h36 hv => ?_)) hv)
  refine jg_astore (lv' := [(5, .inr (.inr (r35))), (0, .inr (.inr (some (a0)))), (1, .inl (x1)), (2, .inl (x2)), (3, .inl (x3)), (4, .inl (x4))]) dX9_subscript_8 (by decide) rfl ?_
  refine jg_aload_n dX9_subscript_10 rfl (List.Mem.tail _ (List.Mem.head _)) ?_
  refine jg_aload dX9_subscript_11 (List.Mem.head _) ?_
  refine jg_iconst (v := 1) dX9_subscript_13 (by decide) ?_
  obtain ⟨f37, hv⟩ := hv
  refine jp_callV mX9_refusalFor [.inr (.inr (r35)), .inl (1)] [] dX9_subscript_14 rfl cl_RX9_100 ⟨⟨by decide, by decide⟩, by decide⟩ jsn f37 (Nat.zero_le _) (Nat.zero_le _) (jM.mono (jki_k (fun r38 h39 hv => ?_)) hv)
  refine jg_istore (lv' := [(6, .inl (r38)), (5, .inr (.inr (r35))), (0, .inr (.inr (some (a0)))), (1, .inl (x1)), (2, .inl (x2)), (3, .inl (x3)), (4, .inl (x4))]) dX9_subscript_17 (by decide) rfl ?_
  refine jg_iload dX9_subscript_19 (List.Mem.head _) ?_
  refine jg_if_ne (tgt := 29) dX9_subscript_21 (by decide) (fun c40 => ?_) (fun c40 => ?_)
  · replace hv := hv.1 c40
    refine jg_iload dX9_subscript_29 (List.Mem.head _) ?_
    exact jg_iret dX9_subscript_31 rfl hv
  · replace hv := hv.2 c40
    refine jg_aload dX9_subscript_24 (List.Mem.tail _ (List.Mem.head _)) ?_
    refine jg_ifnonnull (tgt := 32) dX9_subscript_26 (by decide) (fun c41 => ?_) (fun c41 => ?_)
    · replace hv := hv.1 c41
      refine jg_aload dX9_subscript_32 (List.Mem.tail _ (List.Mem.head _)) ?_
      obtain ⟨f42, hv⟩ := hv
      refine jg_getr dX9_subscript_34 fl_RX9_104 rfl c41 f42 ?_
      obtain ⟨f43, hv⟩ := hv
      obtain ⟨f44, hv⟩ := hv
      refine jg_getl dX9_subscript_37 fl_RX9_110 rfl f43 f44 ?_
      refine jg_lstore (lv' := [(7, .inr (.inl (jl h39 192 (jd (jr h39 7 (jd (r35))))))), (6, .inl (r38)), (5, .inr (.inr (r35))), (0, .inr (.inr (some (a0)))), (1, .inl (x1)), (2, .inl (x2)), (3, .inl (x3)), (4, .inl (x4))]) dX9_subscript_40 (by decide) rfl ?_
      refine jg_aload dX9_subscript_42 (List.Mem.tail _ (List.Mem.tail _ (List.Mem.head _))) ?_
      refine jp_callV mX0_tablesWithin [] [] dX9_subscript_44 rfl cl_RX9_119 ⟨⟨by decide, by decide⟩, by decide⟩ c41 f42 (Nat.zero_le _) (Nat.zero_le _) (jM.mono (jki_k (fun r45 h46 hv => ?_)) hv)
      refine jg_istore (lv' := [(9, .inl (r45)), (7, .inr (.inl (jl h39 192 (jd (jr h39 7 (jd (r35))))))), (6, .inl (r38)), (5, .inr (.inr (r35))), (0, .inr (.inr (some (a0)))), (1, .inl (x1)), (2, .inl (x2)), (3, .inl (x3)), (4, .inl (x4))]) dX9_subscript_47 (by decide) rfl ?_
      refine jg_iconst (v := 1) dX9_subscript_49 (by decide) ?_
      refine jg_istore (lv' := [(10, .inl (1)), (9, .inl (r45)), (7, .inr (.inl (jl h39 192 (jd (jr h39 7 (jd (r35))))))), (6, .inl (r38)), (5, .inr (.inr (r35))), (0, .inr (.inr (some (a0)))), (1, .inl (x1)), (2, .inl (x2)), (3, .inl (x3)), (4, .inl (x4))]) dX9_subscript_50 (by decide) rfl ?_
      refine jG.sub (lv' := [(0, .inr (.inr (some (a0)))), (2, .inl (x2)), (3, .inl (x3)), (4, .inl (x4)), (5, .inr (.inr (r35))), (7, .inr (.inl (jl h39 192 (jd (jr h39 7 (jd (r35))))))), (9, .inl (r45)), (10, .inl (1))]) (by simp) ?_
      exact hv
    · replace hv := hv.2 c41
      refine jg_iload dX9_subscript_29 (List.Mem.head _) ?_
      exact jg_iret dX9_subscript_31 rfl hv
theorem eX9_subscript {g : jg} {a0 : Nat} {x1 : Int32} {x2 : Int32} {x3 : Int32} {x4 : Int32} {h : jh} {mc ms : Nat} {Q : jq} (hv : VX9_subscript_0 g a0 x1 x2 x3 x4 h mc ms Q) : jM g mX9_subscript [.inr (.inr (some (a0))), .inl (x1), .inl (x2), .inl (x3), .inl (x4)] h mc ms Q := jM.of (by decide) (Nat.le_of_ble_eq_true rfl) (lv := [(0, .inr (.inr (some (a0)))), (1, .inl (x1)), (2, .inl (x2)), (3, .inl (x3)), (4, .inl (x4))]) rfl (vX9_subscript_0 hv)
theorem dX9_checks_0 : decode cX9_checks 0 = .ok (.aload_n 0, 1) := by decide +kernel
theorem dX9_checks_1 : decode cX9_checks 1 = .ok (.iload_n 1, 1) := by decide +kernel
theorem dX9_checks_2 : decode cX9_checks 2 = .ok (.putfield 36, 3) := by decide +kernel
theorem dX9_checks_5 : decode cX9_checks 5 = .ok (.aload_n 0, 1) := by decide +kernel
theorem dX9_checks_6 : decode cX9_checks 6 = .ok (.getfield 39, 3) := by decide +kernel
theorem dX9_checks_9 : decode cX9_checks 9 = .ok (.ireturn, 1) := by decide +kernel
def VX9_checks_0 (g : jg) (a0 : Nat) (x1 : Int32) (h : jh) (k n : Nat) (Q : jq) : Prop := (jt h a0 = 8) ∧ ((x1) = 0 ∨ (x1) = 1) ∧ ∀ h3 : jh, h3 = jsi h 452 a0 (x1) → Q (.inl (some (.inl (ji h3 453 a0)))) h3
set_option maxRecDepth 20000 in
theorem vX9_checks_0 {g : jg} {a0 : Nat} {x1 : Int32} {h : jh} {k n : Nat} {Q : jq} (hv : VX9_checks_0 g a0 x1 h k n Q) : jG g mX9_checks 0 [(0, .inr (.inr (some (a0)))), (1, .inl (x1))] [] h k n Q := by
  unfold VX9_checks_0 at hv
  refine jg_aload_n dX9_checks_0 rfl (List.Mem.head _) ?_
  refine jg_iload_n dX9_checks_1 rfl (List.Mem.tail _ (List.Mem.head _)) ?_
  obtain ⟨f1, hv⟩ := hv
  obtain ⟨f2, hv⟩ := hv
  obtain ⟨h3, e4⟩ : ∃ z : jh, z = jsi h 452 a0 (x1) := ⟨_, rfl⟩
  replace hv := hv h3 e4
  refine jp_putz dX9_checks_2 (jfp.nf fl_RX9_36 (fun q hq => by cases hq; rfl)) rfl jsn f1 f2 e4 ?_
  refine jg_aload_n dX9_checks_5 rfl (List.Mem.head _) ?_
  refine jg_geti dX9_checks_6 fl_RX9_39 rfl jsn ((congrArg (fun z => jt z a0) e4).trans f1) ?_
  exact jg_iret dX9_checks_9 rfl hv
theorem eX9_checks {g : jg} {a0 : Nat} {x1 : Int32} {h : jh} {mc ms : Nat} {Q : jq} (hv : VX9_checks_0 g a0 x1 h mc ms Q) : jM g mX9_checks [.inr (.inr (some (a0))), .inl (x1)] h mc ms Q := jM.of (by decide) (Nat.le_of_ble_eq_true rfl) (lv := [(0, .inr (.inr (some (a0)))), (1, .inl (x1))]) rfl (vX9_checks_0 hv)
theorem dX9_depending_0 : decode cX9_depending 0 = .ok (.aload_n 0, 1) := by decide +kernel
theorem dX9_depending_1 : decode cX9_depending 1 = .ok (.getfield 10, 3) := by decide +kernel
theorem dX9_depending_4 : decode cX9_depending 4 = .ok (.iload_n 1, 1) := by decide +kernel
theorem dX9_depending_5 : decode cX9_depending 5 = .ok (.invokevirtual 63, 3) := by decide +kernel
theorem dX9_depending_8 : decode cX9_depending 8 = .ok (.astore_n 3, 1) := by decide +kernel
theorem dX9_depending_9 : decode cX9_depending 9 = .ok (.aload_n 3, 1) := by decide +kernel
theorem dX9_depending_10 : decode cX9_depending 10 = .ok (.ifnonnull 6, 3) := by decide +kernel
theorem dX9_depending_13 : decode cX9_depending 13 = .ok (.bipush (-2), 2) := by decide +kernel
theorem dX9_depending_15 : decode cX9_depending 15 = .ok (.ireturn, 1) := by decide +kernel
theorem dX9_depending_16 : decode cX9_depending 16 = .ok (.aload_n 3, 1) := by decide +kernel
theorem dX9_depending_17 : decode cX9_depending 17 = .ok (.getfield 144, 3) := by decide +kernel
theorem dX9_depending_20 : decode cX9_depending 20 = .ok (.astore 4, 2) := by decide +kernel
theorem dX9_depending_22 : decode cX9_depending 22 = .ok (.aload 4, 2) := by decide +kernel
theorem dX9_depending_24 : decode cX9_depending 24 = .ok (.ifnull 11, 3) := by decide +kernel
theorem dX9_depending_27 : decode cX9_depending 27 = .ok (.aload 4, 2) := by decide +kernel
theorem dX9_depending_29 : decode cX9_depending 29 = .ok (.getfield 148, 3) := by decide +kernel
theorem dX9_depending_32 : decode cX9_depending 32 = .ok (.ifCond .ne 6, 3) := by decide +kernel
theorem dX9_depending_35 : decode cX9_depending 35 = .ok (.bipush (-4), 2) := by decide +kernel
theorem dX9_depending_37 : decode cX9_depending 37 = .ok (.ireturn, 1) := by decide +kernel
theorem dX9_depending_38 : decode cX9_depending 38 = .ok (.iload_n 2, 1) := by decide +kernel
theorem dX9_depending_39 : decode cX9_depending 39 = .ok (.aload 4, 2) := by decide +kernel
theorem dX9_depending_41 : decode cX9_depending 41 = .ok (.getfield 151, 3) := by decide +kernel
theorem dX9_depending_44 : decode cX9_depending 44 = .ok (.if_icmp .lt 12, 3) := by decide +kernel
theorem dX9_depending_47 : decode cX9_depending 47 = .ok (.iload_n 2, 1) := by decide +kernel
theorem dX9_depending_48 : decode cX9_depending 48 = .ok (.aload 4, 2) := by decide +kernel
theorem dX9_depending_50 : decode cX9_depending 50 = .ok (.getfield 154, 3) := by decide +kernel
theorem dX9_depending_53 : decode cX9_depending 53 = .ok (.if_icmp .le 5, 3) := by decide +kernel
theorem dX9_depending_56 : decode cX9_depending 56 = .ok (.iconst 0, 1) := by decide +kernel
theorem dX9_depending_57 : decode cX9_depending 57 = .ok (.ireturn, 1) := by decide +kernel
theorem dX9_depending_58 : decode cX9_depending 58 = .ok (.aload 4, 2) := by decide +kernel
theorem dX9_depending_60 : decode cX9_depending 60 = .ok (.iload_n 2, 1) := by decide +kernel
theorem dX9_depending_61 : decode cX9_depending 61 = .ok (.putfield 126, 3) := by decide +kernel
theorem dX9_depending_64 : decode cX9_depending 64 = .ok (.iconst 1, 1) := by decide +kernel
theorem dX9_depending_65 : decode cX9_depending 65 = .ok (.ireturn, 1) := by decide +kernel
def VX9_depending_0 (g : jg) (a0 : Nat) (x1 : Int32) (x2 : Int32) (h : jh) (k n : Nat) (Q : jq) : Prop := (jt h a0 = 8) ∧ (¬ (jr h 448 a0) = none) ∧ (jt h (jd (jr h 448 a0)) = 7) ∧ jM g mX8_find [.inr (.inr (some (jd (jr h 448 a0)))), .inl (x1)] h 0 0 (jkr (fun (r4 : Option Nat) (h5 : jh) => ((¬ (r4) = none → (jt h5 (jd (r4)) = 1) ∧ (((jr h5 10 (jd (r4))) = none → Q (.inl (some (.inl ((-4))))) h5) ∧ (¬ (jr h5 10 (jd (r4))) = none → (jt h5 (jd (jr h5 10 (jd (r4)))) = 6) ∧ ((¬ (ji h5 322 (jd (jr h5 10 (jd (r4))))) = 0 → (((x2) < (ji h5 320 (jd (jr h5 10 (jd (r4))))) → Q (.inl (some (.inl (0)))) h5) ∧ (¬ (x2) < (ji h5 320 (jd (jr h5 10 (jd (r4))))) → (((x2) ≤ (ji h5 321 (jd (jr h5 10 (jd (r4))))) → ∀ h13 : jh, h13 = jsi h5 323 (jd (jr h5 10 (jd (r4)))) (x2) → Q (.inl (some (.inl (1)))) h13) ∧ (¬ (x2) ≤ (ji h5 321 (jd (jr h5 10 (jd (r4))))) → Q (.inl (some (.inl (0)))) h5))))) ∧ ((ji h5 322 (jd (jr h5 10 (jd (r4))))) = 0 → Q (.inl (some (.inl ((-4))))) h5))))) ∧ ((r4) = none → Q (.inl (some (.inl ((-2))))) h5))) (fun e h9 => Q (.inr e) h9))
set_option maxRecDepth 20000 in
theorem vX9_depending_0 {g : jg} {a0 : Nat} {x1 : Int32} {x2 : Int32} {h : jh} {k n : Nat} {Q : jq} (hv : VX9_depending_0 g a0 x1 x2 h k n Q) : jG g mX9_depending 0 [(0, .inr (.inr (some (a0)))), (1, .inl (x1)), (2, .inl (x2))] [] h k n Q := by
  unfold VX9_depending_0 at hv
  refine jg_aload_n dX9_depending_0 rfl (List.Mem.head _) ?_
  obtain ⟨f1, hv⟩ := hv
  refine jg_getr dX9_depending_1 fl_RX9_10 rfl jsn f1 ?_
  refine jg_iload_n dX9_depending_4 rfl (List.Mem.tail _ (List.Mem.head _)) ?_
  obtain ⟨f2, hv⟩ := hv
  obtain ⟨f3, hv⟩ := hv
  refine jp_callV mX8_find [.inl (x1)] [] dX9_depending_5 rfl cl_RX9_63 ⟨⟨by decide, by decide⟩, by decide⟩ f2 f3 (Nat.zero_le _) (Nat.zero_le _) (jM.mono (jkr_k (fun r4 h5 hv => ?_)) hv)
  refine jg_astore_n (lv' := [(3, .inr (.inr (r4))), (0, .inr (.inr (some (a0)))), (1, .inl (x1)), (2, .inl (x2))]) dX9_depending_8 rfl (by decide) rfl ?_
  refine jg_aload_n dX9_depending_9 rfl (List.Mem.head _) ?_
  refine jg_ifnonnull (tgt := 16) dX9_depending_10 (by decide) (fun c6 => ?_) (fun c6 => ?_)
  · replace hv := hv.1 c6
    refine jg_aload_n dX9_depending_16 rfl (List.Mem.head _) ?_
    obtain ⟨f7, hv⟩ := hv
    refine jg_getr dX9_depending_17 fl_RX9_144 rfl c6 f7 ?_
    refine jg_astore (lv' := [(4, .inr (.inr (jr h5 10 (jd (r4))))), (3, .inr (.inr (r4))), (0, .inr (.inr (some (a0)))), (1, .inl (x1)), (2, .inl (x2))]) dX9_depending_20 (by decide) rfl ?_
    refine jg_aload dX9_depending_22 (List.Mem.head _) ?_
    refine jg_ifnull (tgt := 35) dX9_depending_24 (by decide) (fun c8 => ?_) (fun c8 => ?_)
    · replace hv := hv.1 c8
      refine jg_bipush (v := (-4)) dX9_depending_35 (by decide) ?_
      exact jg_iret dX9_depending_37 rfl hv
    · replace hv := hv.2 c8
      refine jg_aload dX9_depending_27 (List.Mem.head _) ?_
      obtain ⟨f9, hv⟩ := hv
      refine jg_geti dX9_depending_29 fl_RX9_148 rfl c8 f9 ?_
      refine jg_if_ne (tgt := 38) dX9_depending_32 (by decide) (fun c10 => ?_) (fun c10 => ?_)
      · replace hv := hv.1 c10
        refine jg_iload_n dX9_depending_38 rfl (List.Mem.tail _ (List.Mem.tail _ (List.Mem.tail _ (List.Mem.tail _ (List.Mem.head _))))) ?_
        refine jg_aload dX9_depending_39 (List.Mem.head _) ?_
        refine jg_geti dX9_depending_41 fl_RX9_151 rfl c8 f9 ?_
        refine jg_icmp_lt (tgt := 56) dX9_depending_44 (by decide) (fun c11 => ?_) (fun c11 => ?_)
        · replace hv := hv.1 c11
          refine jg_iconst (v := 0) dX9_depending_56 (by decide) ?_
          exact jg_iret dX9_depending_57 rfl hv
        · replace hv := hv.2 c11
          refine jg_iload_n dX9_depending_47 rfl (List.Mem.tail _ (List.Mem.tail _ (List.Mem.tail _ (List.Mem.tail _ (List.Mem.head _))))) ?_
          refine jg_aload dX9_depending_48 (List.Mem.head _) ?_
          refine jg_geti dX9_depending_50 fl_RX9_154 rfl c8 f9 ?_
          refine jg_icmp_le (tgt := 58) dX9_depending_53 (by decide) (fun c12 => ?_) (fun c12 => ?_)
          · replace hv := hv.1 c12
            refine jg_aload dX9_depending_58 (List.Mem.head _) ?_
            refine jg_iload_n dX9_depending_60 rfl (List.Mem.tail _ (List.Mem.tail _ (List.Mem.tail _ (List.Mem.tail _ (List.Mem.head _))))) ?_
            obtain ⟨h13, e14⟩ : ∃ z : jh, z = jsi h5 323 (jd (jr h5 10 (jd (r4)))) (x2) := ⟨_, rfl⟩
            replace hv := hv h13 e14
            refine jp_puti dX9_depending_61 (jfp.nf fl_RX9_126 (fun q hq => by cases hq; rfl)) rfl c8 f9 e14 ?_
            refine jg_iconst (v := 1) dX9_depending_64 (by decide) ?_
            exact jg_iret dX9_depending_65 rfl hv
          · replace hv := hv.2 c12
            refine jg_iconst (v := 0) dX9_depending_56 (by decide) ?_
            exact jg_iret dX9_depending_57 rfl hv
      · replace hv := hv.2 c10
        refine jg_bipush (v := (-4)) dX9_depending_35 (by decide) ?_
        exact jg_iret dX9_depending_37 rfl hv
  · replace hv := hv.2 c6
    refine jg_bipush (v := (-2)) dX9_depending_13 (by decide) ?_
    exact jg_iret dX9_depending_15 rfl hv
theorem eX9_depending {g : jg} {a0 : Nat} {x1 : Int32} {x2 : Int32} {h : jh} {mc ms : Nat} {Q : jq} (hv : VX9_depending_0 g a0 x1 x2 h mc ms Q) : jM g mX9_depending [.inr (.inr (some (a0))), .inl (x1), .inl (x2)] h mc ms Q := jM.of (by decide) (Nat.le_of_ble_eq_true rfl) (lv := [(0, .inr (.inr (some (a0)))), (1, .inl (x1)), (2, .inl (x2))]) rfl (vX9_depending_0 hv)
theorem dX9_redefines_0 : decode cX9_redefines 0 = .ok (.aload_n 0, 1) := by decide +kernel
theorem dX9_redefines_1 : decode cX9_redefines 1 = .ok (.getfield 10, 3) := by decide +kernel
theorem dX9_redefines_4 : decode cX9_redefines 4 = .ok (.iload_n 1, 1) := by decide +kernel
theorem dX9_redefines_5 : decode cX9_redefines 5 = .ok (.invokevirtual 63, 3) := by decide +kernel
theorem dX9_redefines_8 : decode cX9_redefines 8 = .ok (.astore_n 3, 1) := by decide +kernel
theorem dX9_redefines_9 : decode cX9_redefines 9 = .ok (.aload_n 0, 1) := by decide +kernel
theorem dX9_redefines_10 : decode cX9_redefines 10 = .ok (.getfield 10, 3) := by decide +kernel
theorem dX9_redefines_13 : decode cX9_redefines 13 = .ok (.iload_n 2, 1) := by decide +kernel
theorem dX9_redefines_14 : decode cX9_redefines 14 = .ok (.invokevirtual 63, 3) := by decide +kernel
theorem dX9_redefines_17 : decode cX9_redefines 17 = .ok (.astore 4, 2) := by decide +kernel
theorem dX9_redefines_19 : decode cX9_redefines 19 = .ok (.aload_n 3, 1) := by decide +kernel
theorem dX9_redefines_20 : decode cX9_redefines 20 = .ok (.ifnull 8, 3) := by decide +kernel
theorem dX9_redefines_23 : decode cX9_redefines 23 = .ok (.aload 4, 2) := by decide +kernel
theorem dX9_redefines_25 : decode cX9_redefines 25 = .ok (.ifnonnull 6, 3) := by decide +kernel
theorem dX9_redefines_28 : decode cX9_redefines 28 = .ok (.bipush (-2), 2) := by decide +kernel
theorem dX9_redefines_30 : decode cX9_redefines 30 = .ok (.ireturn, 1) := by decide +kernel
theorem dX9_redefines_31 : decode cX9_redefines 31 = .ok (.aload_n 0, 1) := by decide +kernel
theorem dX9_redefines_32 : decode cX9_redefines 32 = .ok (.getfield 10, 3) := by decide +kernel
theorem dX9_redefines_35 : decode cX9_redefines 35 = .ok (.aload_n 3, 1) := by decide +kernel
theorem dX9_redefines_36 : decode cX9_redefines 36 = .ok (.aload 4, 2) := by decide +kernel
theorem dX9_redefines_38 : decode cX9_redefines 38 = .ok (.invokevirtual 157, 3) := by decide +kernel
theorem dX9_redefines_41 : decode cX9_redefines 41 = .ok (.ifCond .ne 5, 3) := by decide +kernel
theorem dX9_redefines_44 : decode cX9_redefines 44 = .ok (.iconst 0, 1) := by decide +kernel
theorem dX9_redefines_45 : decode cX9_redefines 45 = .ok (.ireturn, 1) := by decide +kernel
theorem dX9_redefines_46 : decode cX9_redefines 46 = .ok (.aload_n 3, 1) := by decide +kernel
theorem dX9_redefines_47 : decode cX9_redefines 47 = .ok (.aload 4, 2) := by decide +kernel
theorem dX9_redefines_49 : decode cX9_redefines 49 = .ok (.putfield 161, 3) := by decide +kernel
theorem dX9_redefines_52 : decode cX9_redefines 52 = .ok (.aload 4, 2) := by decide +kernel
theorem dX9_redefines_54 : decode cX9_redefines 54 = .ok (.iconst 1, 1) := by decide +kernel
theorem dX9_redefines_55 : decode cX9_redefines 55 = .ok (.putfield 165, 3) := by decide +kernel
theorem dX9_redefines_58 : decode cX9_redefines 58 = .ok (.aload_n 0, 1) := by decide +kernel
theorem dX9_redefines_59 : decode cX9_redefines 59 = .ok (.iconst 0, 1) := by decide +kernel
theorem dX9_redefines_60 : decode cX9_redefines 60 = .ok (.putfield 32, 3) := by decide +kernel
theorem dX9_redefines_63 : decode cX9_redefines 63 = .ok (.iconst 1, 1) := by decide +kernel
theorem dX9_redefines_64 : decode cX9_redefines 64 = .ok (.ireturn, 1) := by decide +kernel
def VX9_redefines_0 (g : jg) (a0 : Nat) (x1 : Int32) (x2 : Int32) (h : jh) (k n : Nat) (Q : jq) : Prop := (jt h a0 = 8) ∧ (¬ (jr h 448 a0) = none) ∧ (jt h (jd (jr h 448 a0)) = 7) ∧ jM g mX8_find [.inr (.inr (some (jd (jr h 448 a0)))), .inl (x1)] h 0 0 (jkr (fun (r4 : Option Nat) (h5 : jh) => (jt h5 a0 = 8) ∧ (¬ (jr h5 448 a0) = none) ∧ (jt h5 (jd (jr h5 448 a0)) = 7) ∧ jM g mX8_find [.inr (.inr (some (jd (jr h5 448 a0)))), .inl (x2)] h5 0 0 (jkr (fun (r9 : Option Nat) (h10 : jh) => (((r4) = none → Q (.inl (some (.inl ((-2))))) h10) ∧ (¬ (r4) = none → ((¬ (r9) = none → (jt h10 a0 = 8) ∧ (¬ (jr h10 448 a0) = none) ∧ (jt h10 (jd (jr h10 448 a0)) = 7) ∧ jM g mX8_mayRedefine [.inr (.inr (some (jd (jr h10 448 a0)))), .inr (.inr (r4)), .inr (.inr (r9))] h10 0 0 (jki (fun (r16 : Int32) (h17 : jh) => ((¬ (r16) = 0 → (jt h17 (jd (r4)) = 1) ∧ ∀ h20 : jh, h20 = jsr h17 17 (jd (r4)) (r9) → (jt h20 (jd (r9)) = 1) ∧ ∀ h23 : jh, h23 = jsi h20 18 (jd (r9)) (1) → (jt h23 a0 = 8) ∧ ∀ h26 : jh, h26 = jsi h23 451 a0 (0) → Q (.inl (some (.inl (1)))) h26) ∧ ((r16) = 0 → Q (.inl (some (.inl (0)))) h17))) (fun e h9 => Q (.inr e) h9))) ∧ ((r9) = none → Q (.inl (some (.inl ((-2))))) h10))))) (fun e h9 => Q (.inr e) h9))) (fun e h9 => Q (.inr e) h9))
set_option maxRecDepth 20000 in
theorem vX9_redefines_0 {g : jg} {a0 : Nat} {x1 : Int32} {x2 : Int32} {h : jh} {k n : Nat} {Q : jq} (hv : VX9_redefines_0 g a0 x1 x2 h k n Q) : jG g mX9_redefines 0 [(0, .inr (.inr (some (a0)))), (1, .inl (x1)), (2, .inl (x2))] [] h k n Q := by
  unfold VX9_redefines_0 at hv
  refine jg_aload_n dX9_redefines_0 rfl (List.Mem.head _) ?_
  obtain ⟨f1, hv⟩ := hv
  refine jg_getr dX9_redefines_1 fl_RX9_10 rfl jsn f1 ?_
  refine jg_iload_n dX9_redefines_4 rfl (List.Mem.tail _ (List.Mem.head _)) ?_
  obtain ⟨f2, hv⟩ := hv
  obtain ⟨f3, hv⟩ := hv
  refine jp_callV mX8_find [.inl (x1)] [] dX9_redefines_5 rfl cl_RX9_63 ⟨⟨by decide, by decide⟩, by decide⟩ f2 f3 (Nat.zero_le _) (Nat.zero_le _) (jM.mono (jkr_k (fun r4 h5 hv => ?_)) hv)
  refine jg_astore_n (lv' := [(3, .inr (.inr (r4))), (0, .inr (.inr (some (a0)))), (1, .inl (x1)), (2, .inl (x2))]) dX9_redefines_8 rfl (by decide) rfl ?_
  refine jg_aload_n dX9_redefines_9 rfl (List.Mem.tail _ (List.Mem.head _)) ?_
  obtain ⟨f6, hv⟩ := hv
  refine jg_getr dX9_redefines_10 fl_RX9_10 rfl jsn f6 ?_
  refine jg_iload_n dX9_redefines_13 rfl (List.Mem.tail _ (List.Mem.tail _ (List.Mem.tail _ (List.Mem.head _)))) ?_
  obtain ⟨f7, hv⟩ := hv
  obtain ⟨f8, hv⟩ := hv
  refine jp_callV mX8_find [.inl (x2)] [] dX9_redefines_14 rfl cl_RX9_63 ⟨⟨by decide, by decide⟩, by decide⟩ f7 f8 (Nat.zero_le _) (Nat.zero_le _) (jM.mono (jkr_k (fun r9 h10 hv => ?_)) hv)
  refine jg_astore (lv' := [(4, .inr (.inr (r9))), (3, .inr (.inr (r4))), (0, .inr (.inr (some (a0)))), (1, .inl (x1)), (2, .inl (x2))]) dX9_redefines_17 (by decide) rfl ?_
  refine jg_aload_n dX9_redefines_19 rfl (List.Mem.tail _ (List.Mem.head _)) ?_
  refine jg_ifnull (tgt := 28) dX9_redefines_20 (by decide) (fun c11 => ?_) (fun c11 => ?_)
  · replace hv := hv.1 c11
    refine jg_bipush (v := (-2)) dX9_redefines_28 (by decide) ?_
    exact jg_iret dX9_redefines_30 rfl hv
  · replace hv := hv.2 c11
    refine jg_aload dX9_redefines_23 (List.Mem.head _) ?_
    refine jg_ifnonnull (tgt := 31) dX9_redefines_25 (by decide) (fun c12 => ?_) (fun c12 => ?_)
    · replace hv := hv.1 c12
      refine jg_aload_n dX9_redefines_31 rfl (List.Mem.tail _ (List.Mem.tail _ (List.Mem.head _))) ?_
      obtain ⟨f13, hv⟩ := hv
      refine jg_getr dX9_redefines_32 fl_RX9_10 rfl jsn f13 ?_
      refine jg_aload_n dX9_redefines_35 rfl (List.Mem.tail _ (List.Mem.head _)) ?_
      refine jg_aload dX9_redefines_36 (List.Mem.head _) ?_
      obtain ⟨f14, hv⟩ := hv
      obtain ⟨f15, hv⟩ := hv
      refine jp_callV mX8_mayRedefine [.inr (.inr (r4)), .inr (.inr (r9))] [] dX9_redefines_38 rfl cl_RX9_157 ⟨⟨by decide, by decide⟩, by decide⟩ f14 f15 (Nat.zero_le _) (Nat.zero_le _) (jM.mono (jki_k (fun r16 h17 hv => ?_)) hv)
      refine jg_if_ne (tgt := 46) dX9_redefines_41 (by decide) (fun c18 => ?_) (fun c18 => ?_)
      · replace hv := hv.1 c18
        refine jg_aload_n dX9_redefines_46 rfl (List.Mem.tail _ (List.Mem.head _)) ?_
        refine jg_aload dX9_redefines_47 (List.Mem.head _) ?_
        obtain ⟨f19, hv⟩ := hv
        obtain ⟨h20, e21⟩ : ∃ z : jh, z = jsr h17 17 (jd (r4)) (r9) := ⟨_, rfl⟩
        replace hv := hv h20 e21
        refine jp_putr dX9_redefines_49 (jfp.nf fl_RX9_161 (fun q hq => by cases hq; rfl)) rfl c11 f19 e21 ?_
        refine jg_aload dX9_redefines_52 (List.Mem.head _) ?_
        refine jg_iconst (v := 1) dX9_redefines_54 (by decide) ?_
        obtain ⟨f22, hv⟩ := hv
        obtain ⟨h23, e24⟩ : ∃ z : jh, z = jsi h20 18 (jd (r9)) (1) := ⟨_, rfl⟩
        replace hv := hv h23 e24
        refine jp_putz dX9_redefines_55 (jfp.nf fl_RX9_165 (fun q hq => by cases hq; rfl)) rfl c12 f22 (by decide) e24 ?_
        refine jg_aload_n dX9_redefines_58 rfl (List.Mem.tail _ (List.Mem.tail _ (List.Mem.head _))) ?_
        refine jg_iconst (v := 0) dX9_redefines_59 (by decide) ?_
        obtain ⟨f25, hv⟩ := hv
        obtain ⟨h26, e27⟩ : ∃ z : jh, z = jsi h23 451 a0 (0) := ⟨_, rfl⟩
        replace hv := hv h26 e27
        refine jp_putz dX9_redefines_60 (jfp.nf fl_RX9_32 (fun q hq => by cases hq; rfl)) rfl jsn f25 (by decide) e27 ?_
        refine jg_iconst (v := 1) dX9_redefines_63 (by decide) ?_
        exact jg_iret dX9_redefines_64 rfl hv
      · replace hv := hv.2 c18
        refine jg_iconst (v := 0) dX9_redefines_44 (by decide) ?_
        exact jg_iret dX9_redefines_45 rfl hv
    · replace hv := hv.2 c12
      refine jg_bipush (v := (-2)) dX9_redefines_28 (by decide) ?_
      exact jg_iret dX9_redefines_30 rfl hv
theorem eX9_redefines {g : jg} {a0 : Nat} {x1 : Int32} {x2 : Int32} {h : jh} {mc ms : Nat} {Q : jq} (hv : VX9_redefines_0 g a0 x1 x2 h mc ms Q) : jM g mX9_redefines [.inr (.inr (some (a0))), .inl (x1), .inl (x2)] h mc ms Q := jM.of (by decide) (Nat.le_of_ble_eq_true rfl) (lv := [(0, .inr (.inr (some (a0)))), (1, .inl (x1)), (2, .inl (x2))]) rfl (vX9_redefines_0 hv)
theorem dX9_refer_0 : decode cX9_refer 0 = .ok (.aload_n 0, 1) := by decide +kernel
theorem dX9_refer_1 : decode cX9_refer 1 = .ok (.getfield 10, 3) := by decide +kernel
theorem dX9_refer_4 : decode cX9_refer 4 = .ok (.iload_n 1, 1) := by decide +kernel
theorem dX9_refer_5 : decode cX9_refer 5 = .ok (.invokevirtual 63, 3) := by decide +kernel
theorem dX9_refer_8 : decode cX9_refer 8 = .ok (.astore 4, 2) := by decide +kernel
theorem dX9_refer_10 : decode cX9_refer 10 = .ok (.aload_n 0, 1) := by decide +kernel
theorem dX9_refer_11 : decode cX9_refer 11 = .ok (.aload 4, 2) := by decide +kernel
theorem dX9_refer_13 : decode cX9_refer 13 = .ok (.iconst 0, 1) := by decide +kernel
theorem dX9_refer_14 : decode cX9_refer 14 = .ok (.invokevirtual 100, 3) := by decide +kernel
theorem dX9_refer_17 : decode cX9_refer 17 = .ok (.istore 5, 2) := by decide +kernel
theorem dX9_refer_19 : decode cX9_refer 19 = .ok (.iload 5, 2) := by decide +kernel
theorem dX9_refer_21 : decode cX9_refer 21 = .ok (.ifCond .ne 8, 3) := by decide +kernel
theorem dX9_refer_24 : decode cX9_refer 24 = .ok (.aload 4, 2) := by decide +kernel
theorem dX9_refer_26 : decode cX9_refer 26 = .ok (.ifnonnull 6, 3) := by decide +kernel
theorem dX9_refer_29 : decode cX9_refer 29 = .ok (.iload 5, 2) := by decide +kernel
theorem dX9_refer_31 : decode cX9_refer 31 = .ok (.ireturn, 1) := by decide +kernel
theorem dX9_refer_32 : decode cX9_refer 32 = .ok (.iload_n 2, 1) := by decide +kernel
theorem dX9_refer_33 : decode cX9_refer 33 = .ok (.iconst 1, 1) := by decide +kernel
theorem dX9_refer_34 : decode cX9_refer 34 = .ok (.if_icmp .lt 24, 3) := by decide +kernel
theorem dX9_refer_37 : decode cX9_refer 37 = .ok (.iload_n 3, 1) := by decide +kernel
theorem dX9_refer_38 : decode cX9_refer 38 = .ok (.iconst 1, 1) := by decide +kernel
theorem dX9_refer_39 : decode cX9_refer 39 = .ok (.if_icmp .lt 19, 3) := by decide +kernel
theorem dX9_refer_42 : decode cX9_refer 42 = .ok (.iload_n 2, 1) := by decide +kernel
theorem dX9_refer_43 : decode cX9_refer 43 = .ok (.i2l, 1) := by decide +kernel
theorem dX9_refer_44 : decode cX9_refer 44 = .ok (.lconst 1, 1) := by decide +kernel
theorem dX9_refer_45 : decode cX9_refer 45 = .ok (.lsub, 1) := by decide +kernel
theorem dX9_refer_46 : decode cX9_refer 46 = .ok (.iload_n 3, 1) := by decide +kernel
theorem dX9_refer_47 : decode cX9_refer 47 = .ok (.i2l, 1) := by decide +kernel
theorem dX9_refer_48 : decode cX9_refer 48 = .ok (.ladd, 1) := by decide +kernel
theorem dX9_refer_49 : decode cX9_refer 49 = .ok (.aload 4, 2) := by decide +kernel
theorem dX9_refer_51 : decode cX9_refer 51 = .ok (.invokevirtual 115, 3) := by decide +kernel
theorem dX9_refer_54 : decode cX9_refer 54 = .ok (.lcmp, 1) := by decide +kernel
theorem dX9_refer_55 : decode cX9_refer 55 = .ok (.ifCond .le 5, 3) := by decide +kernel
theorem dX9_refer_58 : decode cX9_refer 58 = .ok (.iconst (-1), 1) := by decide +kernel
theorem dX9_refer_59 : decode cX9_refer 59 = .ok (.ireturn, 1) := by decide +kernel
theorem dX9_refer_60 : decode cX9_refer 60 = .ok (.aload 4, 2) := by decide +kernel
theorem dX9_refer_62 : decode cX9_refer 62 = .ok (.getfield 104, 3) := by decide +kernel
theorem dX9_refer_65 : decode cX9_refer 65 = .ok (.getfield 110, 3) := by decide +kernel
theorem dX9_refer_68 : decode cX9_refer 68 = .ok (.iload_n 2, 1) := by decide +kernel
theorem dX9_refer_69 : decode cX9_refer 69 = .ok (.i2l, 1) := by decide +kernel
theorem dX9_refer_70 : decode cX9_refer 70 = .ok (.ladd, 1) := by decide +kernel
theorem dX9_refer_71 : decode cX9_refer 71 = .ok (.lconst 1, 1) := by decide +kernel
theorem dX9_refer_72 : decode cX9_refer 72 = .ok (.lsub, 1) := by decide +kernel
theorem dX9_refer_73 : decode cX9_refer 73 = .ok (.l2i, 1) := by decide +kernel
theorem dX9_refer_74 : decode cX9_refer 74 = .ok (.ireturn, 1) := by decide +kernel
def VX9_refer_0 (g : jg) (a0 : Nat) (x1 : Int32) (x2 : Int32) (x3 : Int32) (h : jh) (k n : Nat) (Q : jq) : Prop := (jt h a0 = 8) ∧ (¬ (jr h 448 a0) = none) ∧ (jt h (jd (jr h 448 a0)) = 7) ∧ jM g mX8_find [.inr (.inr (some (jd (jr h 448 a0)))), .inl (x1)] h 0 0 (jkr (fun (r4 : Option Nat) (h5 : jh) => (jt h5 a0 = 8) ∧ jM g mX9_refusalFor [.inr (.inr (some a0)), .inr (.inr (r4)), .inl (0)] h5 0 0 (jki (fun (r7 : Int32) (h8 : jh) => ((¬ (r7) = 0 → Q (.inl (some (.inl (r7)))) h8) ∧ ((r7) = 0 → ((¬ (r4) = none → (((x2) < (1) → Q (.inl (some (.inl ((-1))))) h8) ∧ (¬ (x2) < (1) → (((x3) < (1) → Q (.inl (some (.inl ((-1))))) h8) ∧ (¬ (x3) < (1) → (jt h8 (jd (r4)) = 1) ∧ jM g mX0_lengthNow [.inr (.inr (some (jd (r4))))] h8 0 0 (jkl (fun (r14 : Int64) (h15 : jh) => ((((((x2 : Int32).toInt64) - (1)) + ((x3 : Int32).toInt64)) ≤ (r14) → (jt h15 (jd (r4)) = 1) ∧ (¬ (jr h15 7 (jd (r4))) = none) ∧ (jt h15 (jd (jr h15 7 (jd (r4)))) = 4) ∧ Q (.inl (some (.inl ((((jl h15 192 (jd (jr h15 7 (jd (r4))))) + ((x2 : Int32).toInt64)) - (1) : Int64).toInt32)))) h15) ∧ (¬ ((((x2 : Int32).toInt64) - (1)) + ((x3 : Int32).toInt64)) ≤ (r14) → Q (.inl (some (.inl ((-1))))) h15))) (fun e h9 => Q (.inr e) h9))))))) ∧ ((r4) = none → Q (.inl (some (.inl (r7)))) h8))))) (fun e h9 => Q (.inr e) h9))) (fun e h9 => Q (.inr e) h9))
set_option maxRecDepth 20000 in
theorem vX9_refer_0 {g : jg} {a0 : Nat} {x1 : Int32} {x2 : Int32} {x3 : Int32} {h : jh} {k n : Nat} {Q : jq} (hv : VX9_refer_0 g a0 x1 x2 x3 h k n Q) : jG g mX9_refer 0 [(0, .inr (.inr (some (a0)))), (1, .inl (x1)), (2, .inl (x2)), (3, .inl (x3))] [] h k n Q := by
  unfold VX9_refer_0 at hv
  refine jg_aload_n dX9_refer_0 rfl (List.Mem.head _) ?_
  obtain ⟨f1, hv⟩ := hv
  refine jg_getr dX9_refer_1 fl_RX9_10 rfl jsn f1 ?_
  refine jg_iload_n dX9_refer_4 rfl (List.Mem.tail _ (List.Mem.head _)) ?_
  obtain ⟨f2, hv⟩ := hv
  obtain ⟨f3, hv⟩ := hv
  refine jp_callV mX8_find [.inl (x1)] [] dX9_refer_5 rfl cl_RX9_63 ⟨⟨by decide, by decide⟩, by decide⟩ f2 f3 (Nat.zero_le _) (Nat.zero_le _) (jM.mono (jkr_k (fun r4 h5 hv => ?_)) hv)
  refine jg_astore (lv' := [(4, .inr (.inr (r4))), (0, .inr (.inr (some (a0)))), (1, .inl (x1)), (2, .inl (x2)), (3, .inl (x3))]) dX9_refer_8 (by decide) rfl ?_
  refine jg_aload_n dX9_refer_10 rfl (List.Mem.tail _ (List.Mem.head _)) ?_
  refine jg_aload dX9_refer_11 (List.Mem.head _) ?_
  refine jg_iconst (v := 0) dX9_refer_13 (by decide) ?_
  obtain ⟨f6, hv⟩ := hv
  refine jp_callV mX9_refusalFor [.inr (.inr (r4)), .inl (0)] [] dX9_refer_14 rfl cl_RX9_100 ⟨⟨by decide, by decide⟩, by decide⟩ jsn f6 (Nat.zero_le _) (Nat.zero_le _) (jM.mono (jki_k (fun r7 h8 hv => ?_)) hv)
  refine jg_istore (lv' := [(5, .inl (r7)), (4, .inr (.inr (r4))), (0, .inr (.inr (some (a0)))), (1, .inl (x1)), (2, .inl (x2)), (3, .inl (x3))]) dX9_refer_17 (by decide) rfl ?_
  refine jg_iload dX9_refer_19 (List.Mem.head _) ?_
  refine jg_if_ne (tgt := 29) dX9_refer_21 (by decide) (fun c9 => ?_) (fun c9 => ?_)
  · replace hv := hv.1 c9
    refine jg_iload dX9_refer_29 (List.Mem.head _) ?_
    exact jg_iret dX9_refer_31 rfl hv
  · replace hv := hv.2 c9
    refine jg_aload dX9_refer_24 (List.Mem.tail _ (List.Mem.head _)) ?_
    refine jg_ifnonnull (tgt := 32) dX9_refer_26 (by decide) (fun c10 => ?_) (fun c10 => ?_)
    · replace hv := hv.1 c10
      refine jg_iload_n dX9_refer_32 rfl (List.Mem.tail _ (List.Mem.tail _ (List.Mem.tail _ (List.Mem.tail _ (List.Mem.head _))))) ?_
      refine jg_iconst (v := 1) dX9_refer_33 (by decide) ?_
      refine jg_icmp_lt (tgt := 58) dX9_refer_34 (by decide) (fun c11 => ?_) (fun c11 => ?_)
      · replace hv := hv.1 c11
        refine jg_iconst (v := (-1)) dX9_refer_58 (by decide) ?_
        exact jg_iret dX9_refer_59 rfl hv
      · replace hv := hv.2 c11
        refine jg_iload_n dX9_refer_37 rfl (List.Mem.tail _ (List.Mem.tail _ (List.Mem.tail _ (List.Mem.tail _ (List.Mem.tail _ (List.Mem.head _)))))) ?_
        refine jg_iconst (v := 1) dX9_refer_38 (by decide) ?_
        refine jg_icmp_lt (tgt := 58) dX9_refer_39 (by decide) (fun c12 => ?_) (fun c12 => ?_)
        · replace hv := hv.1 c12
          refine jg_iconst (v := (-1)) dX9_refer_58 (by decide) ?_
          exact jg_iret dX9_refer_59 rfl hv
        · replace hv := hv.2 c12
          refine jg_iload_n dX9_refer_42 rfl (List.Mem.tail _ (List.Mem.tail _ (List.Mem.tail _ (List.Mem.tail _ (List.Mem.head _))))) ?_
          refine jg_i2l dX9_refer_43 ?_
          refine jg_lconst (v := 1) dX9_refer_44 (by decide) ?_
          refine jg_lsub dX9_refer_45 ?_
          refine jg_iload_n dX9_refer_46 rfl (List.Mem.tail _ (List.Mem.tail _ (List.Mem.tail _ (List.Mem.tail _ (List.Mem.tail _ (List.Mem.head _)))))) ?_
          refine jg_i2l dX9_refer_47 ?_
          refine jg_ladd dX9_refer_48 ?_
          refine jg_aload dX9_refer_49 (List.Mem.tail _ (List.Mem.head _)) ?_
          obtain ⟨f13, hv⟩ := hv
          refine jp_callV mX0_lengthNow [] [.inr (.inl ((((x2 : Int32).toInt64) - (1)) + ((x3 : Int32).toInt64)))] dX9_refer_51 rfl cl_RX9_115 ⟨⟨by decide, by decide⟩, jcat_le _ (Nat.le_of_ble_eq_true rfl)⟩ c10 f13 (Nat.zero_le _) (Nat.zero_le _) (jM.mono (jkl_k (fun r14 h15 hv => ?_)) hv)
          refine jg_lcmp_le (tgt := 60) dX9_refer_54 dX9_refer_55 (by decide) (fun c16 => ?_) (fun c16 => ?_)
          · replace hv := hv.1 c16
            refine jg_aload dX9_refer_60 (List.Mem.tail _ (List.Mem.head _)) ?_
            obtain ⟨f17, hv⟩ := hv
            refine jg_getr dX9_refer_62 fl_RX9_104 rfl c10 f17 ?_
            obtain ⟨f18, hv⟩ := hv
            obtain ⟨f19, hv⟩ := hv
            refine jg_getl dX9_refer_65 fl_RX9_110 rfl f18 f19 ?_
            refine jg_iload_n dX9_refer_68 rfl (List.Mem.tail _ (List.Mem.tail _ (List.Mem.tail _ (List.Mem.tail _ (List.Mem.head _))))) ?_
            refine jg_i2l dX9_refer_69 ?_
            refine jg_ladd dX9_refer_70 ?_
            refine jg_lconst (v := 1) dX9_refer_71 (by decide) ?_
            refine jg_lsub dX9_refer_72 ?_
            refine jg_l2i dX9_refer_73 ?_
            exact jg_iret dX9_refer_74 rfl hv
          · replace hv := hv.2 c16
            refine jg_iconst (v := (-1)) dX9_refer_58 (by decide) ?_
            exact jg_iret dX9_refer_59 rfl hv
    · replace hv := hv.2 c10
      refine jg_iload dX9_refer_29 (List.Mem.head _) ?_
      exact jg_iret dX9_refer_31 rfl hv
theorem eX9_refer {g : jg} {a0 : Nat} {x1 : Int32} {x2 : Int32} {x3 : Int32} {h : jh} {mc ms : Nat} {Q : jq} (hv : VX9_refer_0 g a0 x1 x2 x3 h mc ms Q) : jM g mX9_refer [.inr (.inr (some (a0))), .inl (x1), .inl (x2), .inl (x3)] h mc ms Q := jM.of (by decide) (Nat.le_of_ble_eq_true rfl) (lv := [(0, .inr (.inr (some (a0)))), (1, .inl (x1)), (2, .inl (x2)), (3, .inl (x3))]) rfl (vX9_refer_0 hv)
theorem dX9_slack_0 : decode cX9_slack 0 = .ok (.aload_n 0, 1) := by decide +kernel
theorem dX9_slack_1 : decode cX9_slack 1 = .ok (.getfield 10, 3) := by decide +kernel
theorem dX9_slack_4 : decode cX9_slack 4 = .ok (.iload_n 1, 1) := by decide +kernel
theorem dX9_slack_5 : decode cX9_slack 5 = .ok (.invokevirtual 63, 3) := by decide +kernel
theorem dX9_slack_8 : decode cX9_slack 8 = .ok (.astore_n 2, 1) := by decide +kernel
theorem dX9_slack_9 : decode cX9_slack 9 = .ok (.aload_n 0, 1) := by decide +kernel
theorem dX9_slack_10 : decode cX9_slack 10 = .ok (.aload_n 2, 1) := by decide +kernel
theorem dX9_slack_11 : decode cX9_slack 11 = .ok (.iconst 1, 1) := by decide +kernel
theorem dX9_slack_12 : decode cX9_slack 12 = .ok (.invokevirtual 100, 3) := by decide +kernel
theorem dX9_slack_15 : decode cX9_slack 15 = .ok (.istore_n 3, 1) := by decide +kernel
theorem dX9_slack_16 : decode cX9_slack 16 = .ok (.iload_n 3, 1) := by decide +kernel
theorem dX9_slack_17 : decode cX9_slack 17 = .ok (.ifCond .ne 7, 3) := by decide +kernel
theorem dX9_slack_20 : decode cX9_slack 20 = .ok (.aload_n 2, 1) := by decide +kernel
theorem dX9_slack_21 : decode cX9_slack 21 = .ok (.ifnonnull 7, 3) := by decide +kernel
theorem dX9_slack_24 : decode cX9_slack 24 = .ok (.iload_n 3, 1) := by decide +kernel
theorem dX9_slack_25 : decode cX9_slack 25 = .ok (.goto 10, 3) := by decide +kernel
theorem dX9_slack_28 : decode cX9_slack 28 = .ok (.aload_n 2, 1) := by decide +kernel
theorem dX9_slack_29 : decode cX9_slack 29 = .ok (.getfield 104, 3) := by decide +kernel
theorem dX9_slack_32 : decode cX9_slack 32 = .ok (.getfield 168, 3) := by decide +kernel
theorem dX9_slack_35 : decode cX9_slack 35 = .ok (.ireturn, 1) := by decide +kernel
def VX9_slack_0 (g : jg) (a0 : Nat) (x1 : Int32) (h : jh) (k n : Nat) (Q : jq) : Prop := (jt h a0 = 8) ∧ (¬ (jr h 448 a0) = none) ∧ (jt h (jd (jr h 448 a0)) = 7) ∧ jM g mX8_find [.inr (.inr (some (jd (jr h 448 a0)))), .inl (x1)] h 0 0 (jkr (fun (r4 : Option Nat) (h5 : jh) => (jt h5 a0 = 8) ∧ jM g mX9_refusalFor [.inr (.inr (some a0)), .inr (.inr (r4)), .inl (1)] h5 0 0 (jki (fun (r7 : Int32) (h8 : jh) => ((¬ (r7) = 0 → Q (.inl (some (.inl (r7)))) h8) ∧ ((r7) = 0 → ((¬ (r4) = none → (jt h8 (jd (r4)) = 1) ∧ (¬ (jr h8 7 (jd (r4))) = none) ∧ (jt h8 (jd (jr h8 7 (jd (r4)))) = 4) ∧ Q (.inl (some (.inl (ji h8 195 (jd (jr h8 7 (jd (r4)))))))) h8) ∧ ((r4) = none → Q (.inl (some (.inl (r7)))) h8))))) (fun e h9 => Q (.inr e) h9))) (fun e h9 => Q (.inr e) h9))
set_option maxRecDepth 20000 in
theorem vX9_slack_0 {g : jg} {a0 : Nat} {x1 : Int32} {h : jh} {k n : Nat} {Q : jq} (hv : VX9_slack_0 g a0 x1 h k n Q) : jG g mX9_slack 0 [(0, .inr (.inr (some (a0)))), (1, .inl (x1))] [] h k n Q := by
  unfold VX9_slack_0 at hv
  refine jg_aload_n dX9_slack_0 rfl (List.Mem.head _) ?_
  obtain ⟨f1, hv⟩ := hv
  refine jg_getr dX9_slack_1 fl_RX9_10 rfl jsn f1 ?_
  refine jg_iload_n dX9_slack_4 rfl (List.Mem.tail _ (List.Mem.head _)) ?_
  obtain ⟨f2, hv⟩ := hv
  obtain ⟨f3, hv⟩ := hv
  refine jp_callV mX8_find [.inl (x1)] [] dX9_slack_5 rfl cl_RX9_63 ⟨⟨by decide, by decide⟩, by decide⟩ f2 f3 (Nat.zero_le _) (Nat.zero_le _) (jM.mono (jkr_k (fun r4 h5 hv => ?_)) hv)
  refine jg_astore_n (lv' := [(2, .inr (.inr (r4))), (0, .inr (.inr (some (a0)))), (1, .inl (x1))]) dX9_slack_8 rfl (by decide) rfl ?_
  refine jg_aload_n dX9_slack_9 rfl (List.Mem.tail _ (List.Mem.head _)) ?_
  refine jg_aload_n dX9_slack_10 rfl (List.Mem.head _) ?_
  refine jg_iconst (v := 1) dX9_slack_11 (by decide) ?_
  obtain ⟨f6, hv⟩ := hv
  refine jp_callV mX9_refusalFor [.inr (.inr (r4)), .inl (1)] [] dX9_slack_12 rfl cl_RX9_100 ⟨⟨by decide, by decide⟩, by decide⟩ jsn f6 (Nat.zero_le _) (Nat.zero_le _) (jM.mono (jki_k (fun r7 h8 hv => ?_)) hv)
  refine jg_istore_n (lv' := [(3, .inl (r7)), (2, .inr (.inr (r4))), (0, .inr (.inr (some (a0)))), (1, .inl (x1))]) dX9_slack_15 rfl (by decide) rfl ?_
  refine jg_iload_n dX9_slack_16 rfl (List.Mem.head _) ?_
  refine jg_if_ne (tgt := 24) dX9_slack_17 (by decide) (fun c9 => ?_) (fun c9 => ?_)
  · replace hv := hv.1 c9
    refine jg_iload_n dX9_slack_24 rfl (List.Mem.head _) ?_
    refine jg_goto (tgt := 35) dX9_slack_25 (by decide) ?_
    exact jg_iret dX9_slack_35 rfl hv
  · replace hv := hv.2 c9
    refine jg_aload_n dX9_slack_20 rfl (List.Mem.tail _ (List.Mem.head _)) ?_
    refine jg_ifnonnull (tgt := 28) dX9_slack_21 (by decide) (fun c10 => ?_) (fun c10 => ?_)
    · replace hv := hv.1 c10
      refine jg_aload_n dX9_slack_28 rfl (List.Mem.tail _ (List.Mem.head _)) ?_
      obtain ⟨f11, hv⟩ := hv
      refine jg_getr dX9_slack_29 fl_RX9_104 rfl c10 f11 ?_
      obtain ⟨f12, hv⟩ := hv
      obtain ⟨f13, hv⟩ := hv
      refine jg_geti dX9_slack_32 fl_RX9_168 rfl f12 f13 ?_
      exact jg_iret dX9_slack_35 rfl hv
    · replace hv := hv.2 c10
      refine jg_iload_n dX9_slack_24 rfl (List.Mem.head _) ?_
      refine jg_goto (tgt := 35) dX9_slack_25 (by decide) ?_
      exact jg_iret dX9_slack_35 rfl hv
theorem eX9_slack {g : jg} {a0 : Nat} {x1 : Int32} {h : jh} {mc ms : Nat} {Q : jq} (hv : VX9_slack_0 g a0 x1 h mc ms Q) : jM g mX9_slack [.inr (.inr (some (a0))), .inl (x1)] h mc ms Q := jM.of (by decide) (Nat.le_of_ble_eq_true rfl) (lv := [(0, .inr (.inr (some (a0)))), (1, .inl (x1))]) rfl (vX9_slack_0 hv)
theorem dX9_external_0 : decode cX9_external 0 = .ok (.aload_n 0, 1) := by decide +kernel
theorem dX9_external_1 : decode cX9_external 1 = .ok (.getfield 10, 3) := by decide +kernel
theorem dX9_external_4 : decode cX9_external 4 = .ok (.iload_n 1, 1) := by decide +kernel
theorem dX9_external_5 : decode cX9_external 5 = .ok (.invokevirtual 63, 3) := by decide +kernel
theorem dX9_external_8 : decode cX9_external 8 = .ok (.astore_n 3, 1) := by decide +kernel
theorem dX9_external_9 : decode cX9_external 9 = .ok (.aload_n 3, 1) := by decide +kernel
theorem dX9_external_10 : decode cX9_external 10 = .ok (.ifnonnull 6, 3) := by decide +kernel
theorem dX9_external_13 : decode cX9_external 13 = .ok (.bipush (-2), 2) := by decide +kernel
theorem dX9_external_15 : decode cX9_external 15 = .ok (.ireturn, 1) := by decide +kernel
theorem dX9_external_16 : decode cX9_external 16 = .ok (.iload_n 2, 1) := by decide +kernel
theorem dX9_external_17 : decode cX9_external 17 = .ok (.ifCond .lt 9, 3) := by decide +kernel
theorem dX9_external_20 : decode cX9_external 20 = .ok (.iload_n 2, 1) := by decide +kernel
theorem dX9_external_21 : decode cX9_external 21 = .ok (.bipush 99, 2) := by decide +kernel
theorem dX9_external_23 : decode cX9_external 23 = .ok (.if_icmp .le 6, 3) := by decide +kernel
theorem dX9_external_26 : decode cX9_external 26 = .ok (.bipush (-4), 2) := by decide +kernel
theorem dX9_external_28 : decode cX9_external 28 = .ok (.ireturn, 1) := by decide +kernel
theorem dX9_external_29 : decode cX9_external 29 = .ok (.aload_n 3, 1) := by decide +kernel
theorem dX9_external_30 : decode cX9_external 30 = .ok (.getfield 171, 3) := by decide +kernel
theorem dX9_external_33 : decode cX9_external 33 = .ok (.iconst 1, 1) := by decide +kernel
theorem dX9_external_34 : decode cX9_external 34 = .ok (.if_icmp .ne 25, 3) := by decide +kernel
theorem dX9_external_37 : decode cX9_external 37 = .ok (.aload_n 3, 1) := by decide +kernel
theorem dX9_external_38 : decode cX9_external 38 = .ok (.getfield 174, 3) := by decide +kernel
theorem dX9_external_41 : decode cX9_external 41 = .ok (.iconst (-1), 1) := by decide +kernel
theorem dX9_external_42 : decode cX9_external 42 = .ok (.if_icmp .ne 17, 3) := by decide +kernel
theorem dX9_external_45 : decode cX9_external 45 = .ok (.aload_n 3, 1) := by decide +kernel
theorem dX9_external_46 : decode cX9_external 46 = .ok (.getfield 161, 3) := by decide +kernel
theorem dX9_external_49 : decode cX9_external 49 = .ok (.ifnonnull 10, 3) := by decide +kernel
theorem dX9_external_52 : decode cX9_external 52 = .ok (.aload_n 3, 1) := by decide +kernel
theorem dX9_external_53 : decode cX9_external 53 = .ok (.getfield 165, 3) := by decide +kernel
theorem dX9_external_56 : decode cX9_external 56 = .ok (.ifCond .eq 5, 3) := by decide +kernel
theorem dX9_external_59 : decode cX9_external 59 = .ok (.iconst 0, 1) := by decide +kernel
theorem dX9_external_60 : decode cX9_external 60 = .ok (.ireturn, 1) := by decide +kernel
theorem dX9_external_61 : decode cX9_external 61 = .ok (.aload_n 3, 1) := by decide +kernel
theorem dX9_external_62 : decode cX9_external 62 = .ok (.iload_n 2, 1) := by decide +kernel
theorem dX9_external_63 : decode cX9_external 63 = .ok (.putfield 174, 3) := by decide +kernel
theorem dX9_external_66 : decode cX9_external 66 = .ok (.aload_n 0, 1) := by decide +kernel
theorem dX9_external_67 : decode cX9_external 67 = .ok (.iconst 0, 1) := by decide +kernel
theorem dX9_external_68 : decode cX9_external 68 = .ok (.putfield 32, 3) := by decide +kernel
theorem dX9_external_71 : decode cX9_external 71 = .ok (.iconst 1, 1) := by decide +kernel
theorem dX9_external_72 : decode cX9_external 72 = .ok (.ireturn, 1) := by decide +kernel
def VX9_external_0 (g : jg) (a0 : Nat) (x1 : Int32) (x2 : Int32) (h : jh) (k n : Nat) (Q : jq) : Prop := (jt h a0 = 8) ∧ (¬ (jr h 448 a0) = none) ∧ (jt h (jd (jr h 448 a0)) = 7) ∧ jM g mX8_find [.inr (.inr (some (jd (jr h 448 a0)))), .inl (x1)] h 0 0 (jkr (fun (r4 : Option Nat) (h5 : jh) => ((¬ (r4) = none → (((x2) < 0 → Q (.inl (some (.inl ((-4))))) h5) ∧ (¬ (x2) < 0 → (((x2) ≤ (99) → (jt h5 (jd (r4)) = 1) ∧ ((¬ (ji h5 1 (jd (r4))) = (1) → Q (.inl (some (.inl (0)))) h5) ∧ ((ji h5 1 (jd (r4))) = (1) → ((¬ (ji h5 19 (jd (r4))) = ((-1)) → Q (.inl (some (.inl (0)))) h5) ∧ ((ji h5 19 (jd (r4))) = ((-1)) → ((¬ (jr h5 17 (jd (r4))) = none → Q (.inl (some (.inl (0)))) h5) ∧ ((jr h5 17 (jd (r4))) = none → (((ji h5 18 (jd (r4))) = 0 → ∀ h14 : jh, h14 = jsi h5 19 (jd (r4)) (x2) → (jt h14 a0 = 8) ∧ ∀ h17 : jh, h17 = jsi h14 451 a0 (0) → Q (.inl (some (.inl (1)))) h17) ∧ (¬ (ji h5 18 (jd (r4))) = 0 → Q (.inl (some (.inl (0)))) h5))))))))) ∧ (¬ (x2) ≤ (99) → Q (.inl (some (.inl ((-4))))) h5))))) ∧ ((r4) = none → Q (.inl (some (.inl ((-2))))) h5))) (fun e h9 => Q (.inr e) h9))
set_option maxRecDepth 20000 in
theorem vX9_external_0 {g : jg} {a0 : Nat} {x1 : Int32} {x2 : Int32} {h : jh} {k n : Nat} {Q : jq} (hv : VX9_external_0 g a0 x1 x2 h k n Q) : jG g mX9_external 0 [(0, .inr (.inr (some (a0)))), (1, .inl (x1)), (2, .inl (x2))] [] h k n Q := by
  unfold VX9_external_0 at hv
  refine jg_aload_n dX9_external_0 rfl (List.Mem.head _) ?_
  obtain ⟨f1, hv⟩ := hv
  refine jg_getr dX9_external_1 fl_RX9_10 rfl jsn f1 ?_
  refine jg_iload_n dX9_external_4 rfl (List.Mem.tail _ (List.Mem.head _)) ?_
  obtain ⟨f2, hv⟩ := hv
  obtain ⟨f3, hv⟩ := hv
  refine jp_callV mX8_find [.inl (x1)] [] dX9_external_5 rfl cl_RX9_63 ⟨⟨by decide, by decide⟩, by decide⟩ f2 f3 (Nat.zero_le _) (Nat.zero_le _) (jM.mono (jkr_k (fun r4 h5 hv => ?_)) hv)
  refine jg_astore_n (lv' := [(3, .inr (.inr (r4))), (0, .inr (.inr (some (a0)))), (1, .inl (x1)), (2, .inl (x2))]) dX9_external_8 rfl (by decide) rfl ?_
  refine jg_aload_n dX9_external_9 rfl (List.Mem.head _) ?_
  refine jg_ifnonnull (tgt := 16) dX9_external_10 (by decide) (fun c6 => ?_) (fun c6 => ?_)
  · replace hv := hv.1 c6
    refine jg_iload_n dX9_external_16 rfl (List.Mem.tail _ (List.Mem.tail _ (List.Mem.tail _ (List.Mem.head _)))) ?_
    refine jg_if_lt (tgt := 26) dX9_external_17 (by decide) (fun c7 => ?_) (fun c7 => ?_)
    · replace hv := hv.1 c7
      refine jg_bipush (v := (-4)) dX9_external_26 (by decide) ?_
      exact jg_iret dX9_external_28 rfl hv
    · replace hv := hv.2 c7
      refine jg_iload_n dX9_external_20 rfl (List.Mem.tail _ (List.Mem.tail _ (List.Mem.tail _ (List.Mem.head _)))) ?_
      refine jg_bipush (v := 99) dX9_external_21 (by decide) ?_
      refine jg_icmp_le (tgt := 29) dX9_external_23 (by decide) (fun c8 => ?_) (fun c8 => ?_)
      · replace hv := hv.1 c8
        refine jg_aload_n dX9_external_29 rfl (List.Mem.head _) ?_
        obtain ⟨f9, hv⟩ := hv
        refine jg_geti dX9_external_30 fl_RX9_171 rfl c6 f9 ?_
        refine jg_iconst (v := 1) dX9_external_33 (by decide) ?_
        refine jg_icmp_ne (tgt := 59) dX9_external_34 (by decide) (fun c10 => ?_) (fun c10 => ?_)
        · replace hv := hv.1 c10
          refine jg_iconst (v := 0) dX9_external_59 (by decide) ?_
          exact jg_iret dX9_external_60 rfl hv
        · replace hv := hv.2 c10
          refine jg_aload_n dX9_external_37 rfl (List.Mem.head _) ?_
          refine jg_geti dX9_external_38 fl_RX9_174 rfl c6 f9 ?_
          refine jg_iconst (v := (-1)) dX9_external_41 (by decide) ?_
          refine jg_icmp_ne (tgt := 59) dX9_external_42 (by decide) (fun c11 => ?_) (fun c11 => ?_)
          · replace hv := hv.1 c11
            refine jg_iconst (v := 0) dX9_external_59 (by decide) ?_
            exact jg_iret dX9_external_60 rfl hv
          · replace hv := hv.2 c11
            refine jg_aload_n dX9_external_45 rfl (List.Mem.head _) ?_
            refine jg_getr dX9_external_46 fl_RX9_161 rfl c6 f9 ?_
            refine jg_ifnonnull (tgt := 59) dX9_external_49 (by decide) (fun c12 => ?_) (fun c12 => ?_)
            · replace hv := hv.1 c12
              refine jg_iconst (v := 0) dX9_external_59 (by decide) ?_
              exact jg_iret dX9_external_60 rfl hv
            · replace hv := hv.2 c12
              refine jg_aload_n dX9_external_52 rfl (List.Mem.head _) ?_
              refine jg_geti dX9_external_53 fl_RX9_165 rfl c6 f9 ?_
              refine jg_if_eq (tgt := 61) dX9_external_56 (by decide) (fun c13 => ?_) (fun c13 => ?_)
              · replace hv := hv.1 c13
                refine jg_aload_n dX9_external_61 rfl (List.Mem.head _) ?_
                refine jg_iload_n dX9_external_62 rfl (List.Mem.tail _ (List.Mem.tail _ (List.Mem.tail _ (List.Mem.head _)))) ?_
                obtain ⟨h14, e15⟩ : ∃ z : jh, z = jsi h5 19 (jd (r4)) (x2) := ⟨_, rfl⟩
                replace hv := hv h14 e15
                refine jp_puti dX9_external_63 (jfp.nf fl_RX9_174 (fun q hq => by cases hq; rfl)) rfl c6 f9 e15 ?_
                refine jg_aload_n dX9_external_66 rfl (List.Mem.tail _ (List.Mem.head _)) ?_
                refine jg_iconst (v := 0) dX9_external_67 (by decide) ?_
                obtain ⟨f16, hv⟩ := hv
                obtain ⟨h17, e18⟩ : ∃ z : jh, z = jsi h14 451 a0 (0) := ⟨_, rfl⟩
                replace hv := hv h17 e18
                refine jp_putz dX9_external_68 (jfp.nf fl_RX9_32 (fun q hq => by cases hq; rfl)) rfl jsn f16 (by decide) e18 ?_
                refine jg_iconst (v := 1) dX9_external_71 (by decide) ?_
                exact jg_iret dX9_external_72 rfl hv
              · replace hv := hv.2 c13
                refine jg_iconst (v := 0) dX9_external_59 (by decide) ?_
                exact jg_iret dX9_external_60 rfl hv
      · replace hv := hv.2 c8
        refine jg_bipush (v := (-4)) dX9_external_26 (by decide) ?_
        exact jg_iret dX9_external_28 rfl hv
  · replace hv := hv.2 c6
    refine jg_bipush (v := (-2)) dX9_external_13 (by decide) ?_
    exact jg_iret dX9_external_15 rfl hv
theorem eX9_external {g : jg} {a0 : Nat} {x1 : Int32} {x2 : Int32} {h : jh} {mc ms : Nat} {Q : jq} (hv : VX9_external_0 g a0 x1 x2 h mc ms Q) : jM g mX9_external [.inr (.inr (some (a0))), .inl (x1), .inl (x2)] h mc ms Q := jM.of (by decide) (Nat.le_of_ble_eq_true rfl) (lv := [(0, .inr (.inr (some (a0)))), (1, .inl (x1)), (2, .inl (x2))]) rfl (vX9_external_0 hv)
theorem dX9_at_0 : decode cX9_at 0 = .ok (.aload_n 0, 1) := by decide +kernel
theorem dX9_at_1 : decode cX9_at 1 = .ok (.getfield 32, 3) := by decide +kernel
theorem dX9_at_4 : decode cX9_at 4 = .ok (.ifCond .eq 14, 3) := by decide +kernel
theorem dX9_at_7 : decode cX9_at 7 = .ok (.aload_n 0, 1) := by decide +kernel
theorem dX9_at_8 : decode cX9_at 8 = .ok (.getfield 28, 3) := by decide +kernel
theorem dX9_at_11 : decode cX9_at 11 = .ok (.iload_n 1, 1) := by decide +kernel
theorem dX9_at_12 : decode cX9_at 12 = .ok (.invokevirtual 177, 3) := by decide +kernel
theorem dX9_at_15 : decode cX9_at 15 = .ok (.ifCond .ne 13, 3) := by decide +kernel
theorem dX9_at_18 : decode cX9_at 18 = .ok (.new 137, 3) := by decide +kernel
theorem dX9_at_21 : decode cX9_at 21 = .ok (.dup, 1) := by decide +kernel
theorem dX9_at_22 : decode cX9_at 22 = .ok (.ldc 180, 2) := by decide +kernel
theorem dX9_at_24 : decode cX9_at 24 = .ok (.invokespecial 141, 3) := by decide +kernel
theorem dX9_at_27 : decode cX9_at 27 = .ok (.athrow, 1) := by decide +kernel
theorem dX9_at_28 : decode cX9_at 28 = .ok (.aload_n 0, 1) := by decide +kernel
theorem dX9_at_29 : decode cX9_at 29 = .ok (.getfield 28, 3) := by decide +kernel
theorem dX9_at_32 : decode cX9_at 32 = .ok (.iload_n 1, 1) := by decide +kernel
theorem dX9_at_33 : decode cX9_at 33 = .ok (.invokevirtual 182, 3) := by decide +kernel
theorem dX9_at_36 : decode cX9_at 36 = .ok (.i2b, 1) := by decide +kernel
theorem dX9_at_37 : decode cX9_at 37 = .ok (.ireturn, 1) := by decide +kernel
def VX9_at_0 (g : jg) (a0 : Nat) (x1 : Int32) (h : jh) (k n : Nat) (Q : jq) : Prop := (jt h a0 = 8) ∧ (((ji h 451 a0) = 0 → (1 ≤ k) ∧ (6 ≤ n) ∧ (∀ z : Nat, jz h ≤ z → Q (.inr 0) (jgr h z))) ∧ (¬ (ji h 451 a0) = 0 → (¬ (jr h 450 a0) = none) ∧ (jt h (jd (jr h 450 a0)) = 5) ∧ jM g mX6_has [.inr (.inr (some (jd (jr h 450 a0)))), .inl (x1)] h 0 0 (jki (fun (r7 : Int32) (h8 : jh) => ((¬ (r7) = 0 → (jt h8 a0 = 8) ∧ (¬ (jr h8 450 a0) = none) ∧ (jt h8 (jd (jr h8 450 a0)) = 5) ∧ jM g mX6_get [.inr (.inr (some (jd (jr h8 450 a0)))), .inl (x1)] h8 0 0 (jki (fun (r13 : Int32) (h14 : jh) => Q (.inl (some (.inl ((r13 : Int32).toInt8.toInt32)))) h14) (fun e h9 => Q (.inr e) h9))) ∧ ((r7) = 0 → (1 ≤ k) ∧ (6 ≤ n) ∧ (∀ z : Nat, jz h8 ≤ z → Q (.inr 0) (jgr h8 z))))) (fun e h9 => Q (.inr e) h9))))
set_option maxRecDepth 20000 in
theorem vX9_at_0 {g : jg} {a0 : Nat} {x1 : Int32} {h : jh} {k n : Nat} {Q : jq} (hv : VX9_at_0 g a0 x1 h k n Q) : jG g mX9_at 0 [(0, .inr (.inr (some (a0)))), (1, .inl (x1))] [] h k n Q := by
  unfold VX9_at_0 at hv
  refine jg_aload_n dX9_at_0 rfl (List.Mem.head _) ?_
  obtain ⟨f1, hv⟩ := hv
  refine jg_geti dX9_at_1 fl_RX9_32 rfl jsn f1 ?_
  refine jg_if_eq (tgt := 18) dX9_at_4 (by decide) (fun c2 => ?_) (fun c2 => ?_)
  · replace hv := hv.1 c2
    obtain ⟨f3, hv⟩ := hv
    obtain ⟨f4, hv⟩ := hv
    exact jg_throw 0 ["java/lang/IndexOutOfBoundsException", "java/lang/RuntimeException", "java/lang/Exception"] "there is no such byte" dX9_at_18 dX9_at_21 dX9_at_22 dX9_at_24 dX9_at_27 tl_RX9_137_180 (by decide) (by decide) f3 f4 hv
  · replace hv := hv.2 c2
    refine jg_aload_n dX9_at_7 rfl (List.Mem.head _) ?_
    refine jg_getr dX9_at_8 fl_RX9_28 rfl jsn f1 ?_
    refine jg_iload_n dX9_at_11 rfl (List.Mem.tail _ (List.Mem.head _)) ?_
    obtain ⟨f5, hv⟩ := hv
    obtain ⟨f6, hv⟩ := hv
    refine jp_callV mX6_has [.inl (x1)] [] dX9_at_12 rfl cl_RX9_177 ⟨⟨by decide, by decide⟩, by decide⟩ f5 f6 (Nat.zero_le _) (Nat.zero_le _) (jM.mono (jki_k (fun r7 h8 hv => ?_)) hv)
    refine jg_if_ne (tgt := 28) dX9_at_15 (by decide) (fun c9 => ?_) (fun c9 => ?_)
    · replace hv := hv.1 c9
      refine jg_aload_n dX9_at_28 rfl (List.Mem.head _) ?_
      obtain ⟨f10, hv⟩ := hv
      refine jg_getr dX9_at_29 fl_RX9_28 rfl jsn f10 ?_
      refine jg_iload_n dX9_at_32 rfl (List.Mem.tail _ (List.Mem.head _)) ?_
      obtain ⟨f11, hv⟩ := hv
      obtain ⟨f12, hv⟩ := hv
      refine jp_callV mX6_get [.inl (x1)] [] dX9_at_33 rfl cl_RX9_182 ⟨⟨by decide, by decide⟩, by decide⟩ f11 f12 (Nat.zero_le _) (Nat.zero_le _) (jM.mono (jki_k (fun r13 h14 hv => ?_)) hv)
      refine jg_i2b dX9_at_36 ?_
      exact jg_zret dX9_at_37 rfl (pk_nb _) hv
    · replace hv := hv.2 c9
      obtain ⟨f15, hv⟩ := hv
      obtain ⟨f16, hv⟩ := hv
      exact jg_throw 0 ["java/lang/IndexOutOfBoundsException", "java/lang/RuntimeException", "java/lang/Exception"] "there is no such byte" dX9_at_18 dX9_at_21 dX9_at_22 dX9_at_24 dX9_at_27 tl_RX9_137_180 (by decide) (by decide) f15 f16 hv
theorem eX9_at {g : jg} {a0 : Nat} {x1 : Int32} {h : jh} {mc ms : Nat} {Q : jq} (hv : VX9_at_0 g a0 x1 h mc ms Q) : jM g mX9_at [.inr (.inr (some (a0))), .inl (x1)] h mc ms Q := jM.of (by decide) (Nat.le_of_ble_eq_true rfl) (lv := [(0, .inr (.inr (some (a0)))), (1, .inl (x1))]) rfl (vX9_at_0 hv)
theorem dX9_octet_0 : decode cX9_octet 0 = .ok (.iload_n 1, 1) := by decide +kernel
theorem dX9_octet_1 : decode cX9_octet 1 = .ok (.ifCond .lt 10, 3) := by decide +kernel
theorem dX9_octet_4 : decode cX9_octet 4 = .ok (.iload_n 1, 1) := by decide +kernel
theorem dX9_octet_5 : decode cX9_octet 5 = .ok (.sipush 20000, 3) := by decide +kernel
theorem dX9_octet_8 : decode cX9_octet 8 = .ok (.if_icmp .lt 6, 3) := by decide +kernel
theorem dX9_octet_11 : decode cX9_octet 11 = .ok (.bipush (-4), 2) := by decide +kernel
theorem dX9_octet_13 : decode cX9_octet 13 = .ok (.ireturn, 1) := by decide +kernel
theorem dX9_octet_14 : decode cX9_octet 14 = .ok (.aload_n 0, 1) := by decide +kernel
theorem dX9_octet_15 : decode cX9_octet 15 = .ok (.getfield 32, 3) := by decide +kernel
theorem dX9_octet_18 : decode cX9_octet 18 = .ok (.ifCond .ne 6, 3) := by decide +kernel
theorem dX9_octet_21 : decode cX9_octet 21 = .ok (.bipush (-5), 2) := by decide +kernel
theorem dX9_octet_23 : decode cX9_octet 23 = .ok (.ireturn, 1) := by decide +kernel
theorem dX9_octet_24 : decode cX9_octet 24 = .ok (.aload_n 0, 1) := by decide +kernel
theorem dX9_octet_25 : decode cX9_octet 25 = .ok (.getfield 28, 3) := by decide +kernel
theorem dX9_octet_28 : decode cX9_octet 28 = .ok (.iload_n 1, 1) := by decide +kernel
theorem dX9_octet_29 : decode cX9_octet 29 = .ok (.invokevirtual 177, 3) := by decide +kernel
theorem dX9_octet_32 : decode cX9_octet 32 = .ok (.ifCond .ne 6, 3) := by decide +kernel
theorem dX9_octet_35 : decode cX9_octet 35 = .ok (.bipush (-4), 2) := by decide +kernel
theorem dX9_octet_37 : decode cX9_octet 37 = .ok (.ireturn, 1) := by decide +kernel
theorem dX9_octet_38 : decode cX9_octet 38 = .ok (.aload_n 0, 1) := by decide +kernel
theorem dX9_octet_39 : decode cX9_octet 39 = .ok (.getfield 28, 3) := by decide +kernel
theorem dX9_octet_42 : decode cX9_octet 42 = .ok (.iload_n 1, 1) := by decide +kernel
theorem dX9_octet_43 : decode cX9_octet 43 = .ok (.iload_n 2, 1) := by decide +kernel
theorem dX9_octet_44 : decode cX9_octet 44 = .ok (.invokevirtual 186, 3) := by decide +kernel
theorem dX9_octet_47 : decode cX9_octet 47 = .ok (.iconst 1, 1) := by decide +kernel
theorem dX9_octet_48 : decode cX9_octet 48 = .ok (.ireturn, 1) := by decide +kernel
def VX9_octet_0 (g : jg) (a0 : Nat) (x1 : Int32) (x2 : Int32) (h : jh) (k n : Nat) (Q : jq) : Prop := (((x1) < 0 → Q (.inl (some (.inl ((-4))))) h) ∧ (¬ (x1) < 0 → (((x1) < (20000) → (jt h a0 = 8) ∧ ((¬ (ji h 451 a0) = 0 → (¬ (jr h 450 a0) = none) ∧ (jt h (jd (jr h 450 a0)) = 5) ∧ jM g mX6_has [.inr (.inr (some (jd (jr h 450 a0)))), .inl (x1)] h 0 0 (jki (fun (r7 : Int32) (h8 : jh) => ((¬ (r7) = 0 → (jt h8 a0 = 8) ∧ (¬ (jr h8 450 a0) = none) ∧ (jt h8 (jd (jr h8 450 a0)) = 5) ∧ jM g mX6_put [.inr (.inr (some (jd (jr h8 450 a0)))), .inl (x1), .inl (x2)] h8 0 0 (jkv (fun (h14 : jh) => Q (.inl (some (.inl (1)))) h14) (fun e h9 => Q (.inr e) h9))) ∧ ((r7) = 0 → Q (.inl (some (.inl ((-4))))) h8))) (fun e h9 => Q (.inr e) h9))) ∧ ((ji h 451 a0) = 0 → Q (.inl (some (.inl ((-5))))) h))) ∧ (¬ (x1) < (20000) → Q (.inl (some (.inl ((-4))))) h))))
set_option maxRecDepth 20000 in
theorem vX9_octet_0 {g : jg} {a0 : Nat} {x1 : Int32} {x2 : Int32} {h : jh} {k n : Nat} {Q : jq} (hv : VX9_octet_0 g a0 x1 x2 h k n Q) : jG g mX9_octet 0 [(0, .inr (.inr (some (a0)))), (1, .inl (x1)), (2, .inl (x2))] [] h k n Q := by
  unfold VX9_octet_0 at hv
  refine jg_iload_n dX9_octet_0 rfl (List.Mem.tail _ (List.Mem.head _)) ?_
  refine jg_if_lt (tgt := 11) dX9_octet_1 (by decide) (fun c1 => ?_) (fun c1 => ?_)
  · replace hv := hv.1 c1
    refine jg_bipush (v := (-4)) dX9_octet_11 (by decide) ?_
    exact jg_iret dX9_octet_13 rfl hv
  · replace hv := hv.2 c1
    refine jg_iload_n dX9_octet_4 rfl (List.Mem.tail _ (List.Mem.head _)) ?_
    refine jg_sipush (v := 20000) dX9_octet_5 (by decide) ?_
    refine jg_icmp_lt (tgt := 14) dX9_octet_8 (by decide) (fun c2 => ?_) (fun c2 => ?_)
    · replace hv := hv.1 c2
      refine jg_aload_n dX9_octet_14 rfl (List.Mem.head _) ?_
      obtain ⟨f3, hv⟩ := hv
      refine jg_geti dX9_octet_15 fl_RX9_32 rfl jsn f3 ?_
      refine jg_if_ne (tgt := 24) dX9_octet_18 (by decide) (fun c4 => ?_) (fun c4 => ?_)
      · replace hv := hv.1 c4
        refine jg_aload_n dX9_octet_24 rfl (List.Mem.head _) ?_
        refine jg_getr dX9_octet_25 fl_RX9_28 rfl jsn f3 ?_
        refine jg_iload_n dX9_octet_28 rfl (List.Mem.tail _ (List.Mem.head _)) ?_
        obtain ⟨f5, hv⟩ := hv
        obtain ⟨f6, hv⟩ := hv
        refine jp_callV mX6_has [.inl (x1)] [] dX9_octet_29 rfl cl_RX9_177 ⟨⟨by decide, by decide⟩, by decide⟩ f5 f6 (Nat.zero_le _) (Nat.zero_le _) (jM.mono (jki_k (fun r7 h8 hv => ?_)) hv)
        refine jg_if_ne (tgt := 38) dX9_octet_32 (by decide) (fun c9 => ?_) (fun c9 => ?_)
        · replace hv := hv.1 c9
          refine jg_aload_n dX9_octet_38 rfl (List.Mem.head _) ?_
          obtain ⟨f10, hv⟩ := hv
          refine jg_getr dX9_octet_39 fl_RX9_28 rfl jsn f10 ?_
          refine jg_iload_n dX9_octet_42 rfl (List.Mem.tail _ (List.Mem.head _)) ?_
          refine jg_iload_n dX9_octet_43 rfl (List.Mem.tail _ (List.Mem.tail _ (List.Mem.head _))) ?_
          obtain ⟨f11, hv⟩ := hv
          obtain ⟨f12, hv⟩ := hv
          refine jp_callV mX6_put [.inl (x1), .inl (x2)] [] dX9_octet_44 rfl cl_RX9_186 ⟨⟨by decide, by decide⟩, by decide⟩ f11 f12 (Nat.zero_le _) (Nat.zero_le _) (jM.mono (jkv_k (fun h14 hv => ?_)) hv)
          refine jg_iconst (v := 1) dX9_octet_47 (by decide) ?_
          exact jg_iret dX9_octet_48 rfl hv
        · replace hv := hv.2 c9
          refine jg_bipush (v := (-4)) dX9_octet_35 (by decide) ?_
          exact jg_iret dX9_octet_37 rfl hv
      · replace hv := hv.2 c4
        refine jg_bipush (v := (-5)) dX9_octet_21 (by decide) ?_
        exact jg_iret dX9_octet_23 rfl hv
    · replace hv := hv.2 c2
      refine jg_bipush (v := (-4)) dX9_octet_11 (by decide) ?_
      exact jg_iret dX9_octet_13 rfl hv
theorem eX9_octet {g : jg} {a0 : Nat} {x1 : Int32} {x2 : Int32} {h : jh} {mc ms : Nat} {Q : jq} (hv : VX9_octet_0 g a0 x1 x2 h mc ms Q) : jM g mX9_octet [.inr (.inr (some (a0))), .inl (x1), .inl (x2)] h mc ms Q := jM.of (by decide) (Nat.le_of_ble_eq_true rfl) (lv := [(0, .inr (.inr (some (a0)))), (1, .inl (x1)), (2, .inl (x2))]) rfl (vX9_octet_0 hv)
theorem dX9_holds_0 : decode cX9_holds 0 = .ok (.aload_n 0, 1) := by decide +kernel
theorem dX9_holds_1 : decode cX9_holds 1 = .ok (.getfield 10, 3) := by decide +kernel
theorem dX9_holds_4 : decode cX9_holds 4 = .ok (.iload_n 1, 1) := by decide +kernel
theorem dX9_holds_5 : decode cX9_holds 5 = .ok (.invokevirtual 63, 3) := by decide +kernel
theorem dX9_holds_8 : decode cX9_holds 8 = .ok (.astore_n 2, 1) := by decide +kernel
theorem dX9_holds_9 : decode cX9_holds 9 = .ok (.aload_n 2, 1) := by decide +kernel
theorem dX9_holds_10 : decode cX9_holds 10 = .ok (.ifnull 19, 3) := by decide +kernel
theorem dX9_holds_13 : decode cX9_holds 13 = .ok (.aload_n 2, 1) := by decide +kernel
theorem dX9_holds_14 : decode cX9_holds 14 = .ok (.getfield 171, 3) := by decide +kernel
theorem dX9_holds_17 : decode cX9_holds 17 = .ok (.bipush 88, 2) := by decide +kernel
theorem dX9_holds_19 : decode cX9_holds 19 = .ok (.if_icmp .ne 10, 3) := by decide +kernel
theorem dX9_holds_22 : decode cX9_holds 22 = .ok (.aload_n 2, 1) := by decide +kernel
theorem dX9_holds_23 : decode cX9_holds 23 = .ok (.getfield 190, 3) := by decide +kernel
theorem dX9_holds_26 : decode cX9_holds 26 = .ok (.ifnonnull 13, 3) := by decide +kernel
theorem dX9_holds_29 : decode cX9_holds 29 = .ok (.new 193, 3) := by decide +kernel
theorem dX9_holds_32 : decode cX9_holds 32 = .ok (.dup, 1) := by decide +kernel
theorem dX9_holds_33 : decode cX9_holds 33 = .ok (.ldc 195, 2) := by decide +kernel
theorem dX9_holds_35 : decode cX9_holds 35 = .ok (.invokespecial 197, 3) := by decide +kernel
theorem dX9_holds_38 : decode cX9_holds 38 = .ok (.athrow, 1) := by decide +kernel
theorem dX9_holds_39 : decode cX9_holds 39 = .ok (.aload_n 0, 1) := by decide +kernel
theorem dX9_holds_40 : decode cX9_holds 40 = .ok (.getfield 32, 3) := by decide +kernel
theorem dX9_holds_43 : decode cX9_holds 43 = .ok (.ifCond .ne 13, 3) := by decide +kernel
theorem dX9_holds_46 : decode cX9_holds 46 = .ok (.new 198, 3) := by decide +kernel
theorem dX9_holds_49 : decode cX9_holds 49 = .ok (.dup, 1) := by decide +kernel
theorem dX9_holds_50 : decode cX9_holds 50 = .ok (.ldc 200, 2) := by decide +kernel
theorem dX9_holds_52 : decode cX9_holds 52 = .ok (.invokespecial 202, 3) := by decide +kernel
theorem dX9_holds_55 : decode cX9_holds 55 = .ok (.athrow, 1) := by decide +kernel
theorem dX9_holds_56 : decode cX9_holds 56 = .ok (.aload_n 0, 1) := by decide +kernel
theorem dX9_holds_57 : decode cX9_holds 57 = .ok (.getfield 28, 3) := by decide +kernel
theorem dX9_holds_60 : decode cX9_holds 60 = .ok (.aload_n 2, 1) := by decide +kernel
theorem dX9_holds_61 : decode cX9_holds 61 = .ok (.getfield 190, 3) := by decide +kernel
theorem dX9_holds_64 : decode cX9_holds 64 = .ok (.invokestatic 203, 3) := by decide +kernel
theorem dX9_holds_67 : decode cX9_holds 67 = .ok (.lstore_n 3, 1) := by decide +kernel
theorem dX9_holds_68 : decode cX9_holds 68 = .ok (.aload_n 2, 1) := by decide +kernel
theorem dX9_holds_69 : decode cX9_holds 69 = .ok (.getfield 209, 3) := by decide +kernel
theorem dX9_holds_72 : decode cX9_holds 72 = .ok (.ifnull 18, 3) := by decide +kernel
theorem dX9_holds_75 : decode cX9_holds 75 = .ok (.aload_n 2, 1) := by decide +kernel
theorem dX9_holds_76 : decode cX9_holds 76 = .ok (.getfield 209, 3) := by decide +kernel
theorem dX9_holds_79 : decode cX9_holds 79 = .ok (.lload_n 3, 1) := by decide +kernel
theorem dX9_holds_80 : decode cX9_holds 80 = .ok (.invokevirtual 213, 3) := by decide +kernel
theorem dX9_holds_83 : decode cX9_holds 83 = .ok (.ifCond .eq 7, 3) := by decide +kernel
theorem dX9_holds_86 : decode cX9_holds 86 = .ok (.iconst 1, 1) := by decide +kernel
theorem dX9_holds_87 : decode cX9_holds 87 = .ok (.goto 4, 3) := by decide +kernel
theorem dX9_holds_90 : decode cX9_holds 90 = .ok (.iconst 0, 1) := by decide +kernel
theorem dX9_holds_91 : decode cX9_holds 91 = .ok (.ireturn, 1) := by decide +kernel
def VX9_holds_0 (g : jg) (a0 : Nat) (x1 : Int32) (h : jh) (k n : Nat) (Q : jq) : Prop := (jt h a0 = 8) ∧ (¬ (jr h 448 a0) = none) ∧ (jt h (jd (jr h 448 a0)) = 7) ∧ jM g mX8_find [.inr (.inr (some (jd (jr h 448 a0)))), .inl (x1)] h 0 0 (jkr (fun (r4 : Option Nat) (h5 : jh) => (((r4) = none → (1 ≤ k) ∧ (6 ≤ n) ∧ (∀ z : Nat, jz h5 ≤ z → Q (.inr 1) (jgr h5 z))) ∧ (¬ (r4) = none → (jt h5 (jd (r4)) = 1) ∧ ((¬ (ji h5 1 (jd (r4))) = (88) → (1 ≤ k) ∧ (6 ≤ n) ∧ (∀ z : Nat, jz h5 ≤ z → Q (.inr 1) (jgr h5 z))) ∧ ((ji h5 1 (jd (r4))) = (88) → ((¬ (jr h5 6 (jd (r4))) = none → (jt h5 a0 = 8) ∧ ((¬ (ji h5 451 a0) = 0 → ∃ mc18 ms19 : Nat, mc18 ≤ k ∧ ms19 ≤ n ∧ jM g mX2_read [.inr (.inr (jr h5 450 a0)), .inr (.inr (jr h5 6 (jd (r4))))] h5 mc18 ms19 (jkl (fun (r16 : Int64) (h17 : jh) => (jt h17 (jd (r4)) = 1) ∧ (((jr h17 14 (jd (r4))) = none → Q (.inl (some (.inl (0)))) h17) ∧ (¬ (jr h17 14 (jd (r4))) = none → (jt h17 (jd (jr h17 14 (jd (r4)))) = 3) ∧ jM g mX4_contain [.inr (.inr (some (jd (jr h17 14 (jd (r4)))))), .inr (.inl (r16))] h17 0 0 (jki (fun (r25 : Int32) (h26 : jh) => (((r25) = 0 → Q (.inl (some (.inl (0)))) h26) ∧ (¬ (r25) = 0 → Q (.inl (some (.inl (1)))) h26))) (fun e h9 => Q (.inr e) h9))))) (fun e h9 => Q (.inr e) h9))) ∧ ((ji h5 451 a0) = 0 → (1 ≤ k) ∧ (6 ≤ n) ∧ (∀ z : Nat, jz h5 ≤ z → Q (.inr 2) (jgr h5 z))))) ∧ ((jr h5 6 (jd (r4))) = none → (1 ≤ k) ∧ (6 ≤ n) ∧ (∀ z : Nat, jz h5 ≤ z → Q (.inr 1) (jgr h5 z))))))))) (fun e h9 => Q (.inr e) h9))
set_option maxRecDepth 20000 in
theorem vX9_holds_0 {g : jg} {a0 : Nat} {x1 : Int32} {h : jh} {k n : Nat} {Q : jq} (hv : VX9_holds_0 g a0 x1 h k n Q) : jG g mX9_holds 0 [(0, .inr (.inr (some (a0)))), (1, .inl (x1))] [] h k n Q := by
  unfold VX9_holds_0 at hv
  refine jg_aload_n dX9_holds_0 rfl (List.Mem.head _) ?_
  obtain ⟨f1, hv⟩ := hv
  refine jg_getr dX9_holds_1 fl_RX9_10 rfl jsn f1 ?_
  refine jg_iload_n dX9_holds_4 rfl (List.Mem.tail _ (List.Mem.head _)) ?_
  obtain ⟨f2, hv⟩ := hv
  obtain ⟨f3, hv⟩ := hv
  refine jp_callV mX8_find [.inl (x1)] [] dX9_holds_5 rfl cl_RX9_63 ⟨⟨by decide, by decide⟩, by decide⟩ f2 f3 (Nat.zero_le _) (Nat.zero_le _) (jM.mono (jkr_k (fun r4 h5 hv => ?_)) hv)
  refine jg_astore_n (lv' := [(2, .inr (.inr (r4))), (0, .inr (.inr (some (a0)))), (1, .inl (x1))]) dX9_holds_8 rfl (by decide) rfl ?_
  refine jg_aload_n dX9_holds_9 rfl (List.Mem.head _) ?_
  refine jg_ifnull (tgt := 29) dX9_holds_10 (by decide) (fun c6 => ?_) (fun c6 => ?_)
  · replace hv := hv.1 c6
    obtain ⟨f7, hv⟩ := hv
    obtain ⟨f8, hv⟩ := hv
    exact jg_throw 1 ["java/lang/RuntimeException", "java/lang/Exception"] "there is no such name of values" dX9_holds_29 dX9_holds_32 dX9_holds_33 dX9_holds_35 dX9_holds_38 tl_RX9_193_195 (by decide) (by decide) f7 f8 hv
  · replace hv := hv.2 c6
    refine jg_aload_n dX9_holds_13 rfl (List.Mem.head _) ?_
    obtain ⟨f9, hv⟩ := hv
    refine jg_geti dX9_holds_14 fl_RX9_171 rfl c6 f9 ?_
    refine jg_bipush (v := 88) dX9_holds_17 (by decide) ?_
    refine jg_icmp_ne (tgt := 29) dX9_holds_19 (by decide) (fun c10 => ?_) (fun c10 => ?_)
    · replace hv := hv.1 c10
      obtain ⟨f11, hv⟩ := hv
      obtain ⟨f12, hv⟩ := hv
      exact jg_throw 1 ["java/lang/RuntimeException", "java/lang/Exception"] "there is no such name of values" dX9_holds_29 dX9_holds_32 dX9_holds_33 dX9_holds_35 dX9_holds_38 tl_RX9_193_195 (by decide) (by decide) f11 f12 hv
    · replace hv := hv.2 c10
      refine jg_aload_n dX9_holds_22 rfl (List.Mem.head _) ?_
      refine jg_getr dX9_holds_23 fl_RX9_190 rfl c6 f9 ?_
      refine jg_ifnonnull (tgt := 39) dX9_holds_26 (by decide) (fun c13 => ?_) (fun c13 => ?_)
      · replace hv := hv.1 c13
        refine jg_aload_n dX9_holds_39 rfl (List.Mem.tail _ (List.Mem.head _)) ?_
        obtain ⟨f14, hv⟩ := hv
        refine jg_geti dX9_holds_40 fl_RX9_32 rfl jsn f14 ?_
        refine jg_if_ne (tgt := 56) dX9_holds_43 (by decide) (fun c15 => ?_) (fun c15 => ?_)
        · replace hv := hv.1 c15
          refine jg_aload_n dX9_holds_56 rfl (List.Mem.tail _ (List.Mem.head _)) ?_
          refine jg_getr dX9_holds_57 fl_RX9_28 rfl jsn f14 ?_
          refine jg_aload_n dX9_holds_60 rfl (List.Mem.head _) ?_
          refine jg_getr dX9_holds_61 fl_RX9_190 rfl c6 f9 ?_
          obtain ⟨mc18, ms19, f20, f21, hv⟩ := hv
          refine jg_callS mX2_read [.inr (.inr (jr h5 450 a0)), .inr (.inr (jr h5 6 (jd (r4))))] [] dX9_holds_64 rfl cl_RX9_203 ⟨⟨by decide, by decide⟩, by decide⟩ f20 f21 (jM.mono (jkl_k (fun r16 h17 hv => ?_)) hv)
          refine jg_lstore_n (lv' := [(3, .inr (.inl (r16))), (2, .inr (.inr (r4))), (0, .inr (.inr (some (a0)))), (1, .inl (x1))]) dX9_holds_67 rfl (by decide) rfl ?_
          refine jg_aload_n dX9_holds_68 rfl (List.Mem.tail _ (List.Mem.head _)) ?_
          obtain ⟨f22, hv⟩ := hv
          refine jg_getr dX9_holds_69 fl_RX9_209 rfl c6 f22 ?_
          refine jg_ifnull (tgt := 90) dX9_holds_72 (by decide) (fun c23 => ?_) (fun c23 => ?_)
          · replace hv := hv.1 c23
            refine jg_iconst (v := 0) dX9_holds_90 (by decide) ?_
            exact jg_bret dX9_holds_91 rfl (by decide) hv
          · replace hv := hv.2 c23
            refine jg_aload_n dX9_holds_75 rfl (List.Mem.tail _ (List.Mem.head _)) ?_
            refine jg_getr dX9_holds_76 fl_RX9_209 rfl c6 f22 ?_
            refine jg_lload_n dX9_holds_79 rfl (List.Mem.head _) ?_
            obtain ⟨f24, hv⟩ := hv
            refine jp_callV mX4_contain [.inr (.inl (r16))] [] dX9_holds_80 rfl cl_RX9_213 ⟨⟨by decide, by decide⟩, by decide⟩ c23 f24 (Nat.zero_le _) (Nat.zero_le _) (jM.mono (jki_k (fun r25 h26 hv => ?_)) hv)
            refine jg_if_eq (tgt := 90) dX9_holds_83 (by decide) (fun c27 => ?_) (fun c27 => ?_)
            · replace hv := hv.1 c27
              refine jg_iconst (v := 0) dX9_holds_90 (by decide) ?_
              exact jg_bret dX9_holds_91 rfl (by decide) hv
            · replace hv := hv.2 c27
              refine jg_iconst (v := 1) dX9_holds_86 (by decide) ?_
              refine jg_goto (tgt := 91) dX9_holds_87 (by decide) ?_
              exact jg_bret dX9_holds_91 rfl (by decide) hv
        · replace hv := hv.2 c15
          obtain ⟨f28, hv⟩ := hv
          obtain ⟨f29, hv⟩ := hv
          exact jg_throw 2 ["java/lang/RuntimeException", "java/lang/Exception"] "it is not laid out" dX9_holds_46 dX9_holds_49 dX9_holds_50 dX9_holds_52 dX9_holds_55 tl_RX9_198_200 (by decide) (by decide) f28 f29 hv
      · replace hv := hv.2 c13
        obtain ⟨f30, hv⟩ := hv
        obtain ⟨f31, hv⟩ := hv
        exact jg_throw 1 ["java/lang/RuntimeException", "java/lang/Exception"] "there is no such name of values" dX9_holds_29 dX9_holds_32 dX9_holds_33 dX9_holds_35 dX9_holds_38 tl_RX9_193_195 (by decide) (by decide) f30 f31 hv
theorem eX9_holds {g : jg} {a0 : Nat} {x1 : Int32} {h : jh} {mc ms : Nat} {Q : jq} (hv : VX9_holds_0 g a0 x1 h mc ms Q) : jM g mX9_holds [.inr (.inr (some (a0))), .inl (x1)] h mc ms Q := jM.of (by decide) (Nat.le_of_ble_eq_true rfl) (lv := [(0, .inr (.inr (some (a0)))), (1, .inl (x1))]) rfl (vX9_holds_0 hv)
theorem dX9_count_0 : decode cX9_count 0 = .ok (.iload_n 1, 1) := by decide +kernel
theorem dX9_count_1 : decode cX9_count 1 = .ok (.tableswitch 97 0 4 #[35, 43, 51, 59, 78], 35) := by decide +kernel
theorem dX9_count_36 : decode cX9_count 36 = .ok (.aload_n 0, 1) := by decide +kernel
theorem dX9_count_37 : decode cX9_count 37 = .ok (.getfield 10, 3) := by decide +kernel
theorem dX9_count_40 : decode cX9_count 40 = .ok (.getfield 56, 3) := by decide +kernel
theorem dX9_count_43 : decode cX9_count 43 = .ok (.ireturn, 1) := by decide +kernel
theorem dX9_count_44 : decode cX9_count 44 = .ok (.aload_n 0, 1) := by decide +kernel
theorem dX9_count_45 : decode cX9_count 45 = .ok (.getfield 10, 3) := by decide +kernel
theorem dX9_count_48 : decode cX9_count 48 = .ok (.invokevirtual 219, 3) := by decide +kernel
theorem dX9_count_51 : decode cX9_count 51 = .ok (.ireturn, 1) := by decide +kernel
theorem dX9_count_52 : decode cX9_count 52 = .ok (.aload_n 0, 1) := by decide +kernel
theorem dX9_count_53 : decode cX9_count 53 = .ok (.getfield 10, 3) := by decide +kernel
theorem dX9_count_56 : decode cX9_count 56 = .ok (.invokevirtual 222, 3) := by decide +kernel
theorem dX9_count_59 : decode cX9_count 59 = .ok (.ireturn, 1) := by decide +kernel
theorem dX9_count_60 : decode cX9_count 60 = .ok (.aload_n 0, 1) := by decide +kernel
theorem dX9_count_61 : decode cX9_count 61 = .ok (.getfield 32, 3) := by decide +kernel
theorem dX9_count_64 : decode cX9_count 64 = .ok (.ifCond .eq 13, 3) := by decide +kernel
theorem dX9_count_67 : decode cX9_count 67 = .ok (.aload_n 0, 1) := by decide +kernel
theorem dX9_count_68 : decode cX9_count 68 = .ok (.getfield 10, 3) := by decide +kernel
theorem dX9_count_71 : decode cX9_count 71 = .ok (.invokevirtual 225, 3) := by decide +kernel
theorem dX9_count_74 : decode cX9_count 74 = .ok (.goto 4, 3) := by decide +kernel
theorem dX9_count_77 : decode cX9_count 77 = .ok (.iconst (-1), 1) := by decide +kernel
theorem dX9_count_78 : decode cX9_count 78 = .ok (.ireturn, 1) := by decide +kernel
theorem dX9_count_79 : decode cX9_count 79 = .ok (.aload_n 0, 1) := by decide +kernel
theorem dX9_count_80 : decode cX9_count 80 = .ok (.getfield 32, 3) := by decide +kernel
theorem dX9_count_83 : decode cX9_count 83 = .ok (.ifCond .eq 13, 3) := by decide +kernel
theorem dX9_count_86 : decode cX9_count 86 = .ok (.aload_n 0, 1) := by decide +kernel
theorem dX9_count_87 : decode cX9_count 87 = .ok (.getfield 28, 3) := by decide +kernel
theorem dX9_count_90 : decode cX9_count 90 = .ok (.getfield 97, 3) := by decide +kernel
theorem dX9_count_93 : decode cX9_count 93 = .ok (.goto 4, 3) := by decide +kernel
theorem dX9_count_96 : decode cX9_count 96 = .ok (.iconst (-1), 1) := by decide +kernel
theorem dX9_count_97 : decode cX9_count 97 = .ok (.ireturn, 1) := by decide +kernel
theorem dX9_count_98 : decode cX9_count 98 = .ok (.iconst (-1), 1) := by decide +kernel
theorem dX9_count_99 : decode cX9_count 99 = .ok (.ireturn, 1) := by decide +kernel
def VX9_count_0 (g : jg) (a0 : Nat) (x1 : Int32) (h : jh) (k n : Nat) (Q : jq) : Prop := (((x1) = 0 → (jt h a0 = 8) ∧ (¬ (jr h 448 a0) = none) ∧ (jt h (jd (jr h 448 a0)) = 7) ∧ Q (.inl (some (.inl (ji h 385 (jd (jr h 448 a0)))))) h) ∧ ((x1) = 1 → (jt h a0 = 8) ∧ (¬ (jr h 448 a0) = none) ∧ (jt h (jd (jr h 448 a0)) = 7) ∧ jM g mX8_records [.inr (.inr (some (jd (jr h 448 a0))))] h 0 0 (jki (fun (r9 : Int32) (h10 : jh) => Q (.inl (some (.inl (r9)))) h10) (fun e h9 => Q (.inr e) h9))) ∧ ((x1) = 2 → (jt h a0 = 8) ∧ (¬ (jr h 448 a0) = none) ∧ (jt h (jd (jr h 448 a0)) = 7) ∧ jM g mX8_tables [.inr (.inr (some (jd (jr h 448 a0))))] h 0 0 (jki (fun (r15 : Int32) (h16 : jh) => Q (.inl (some (.inl (r15)))) h16) (fun e h9 => Q (.inr e) h9))) ∧ ((x1) = 3 → (jt h a0 = 8) ∧ (((ji h 451 a0) = 0 → Q (.inl (some (.inl ((-1))))) h) ∧ (¬ (ji h 451 a0) = 0 → (¬ (jr h 448 a0) = none) ∧ (jt h (jd (jr h 448 a0)) = 7) ∧ jM g mX8_slackBytes [.inr (.inr (some (jd (jr h 448 a0))))] h 0 0 (jki (fun (r22 : Int32) (h23 : jh) => Q (.inl (some (.inl (r22)))) h23) (fun e h9 => Q (.inr e) h9))))) ∧ ((x1) = 4 → (jt h a0 = 8) ∧ (((ji h 451 a0) = 0 → Q (.inl (some (.inl ((-1))))) h) ∧ (¬ (ji h 451 a0) = 0 → (¬ (jr h 450 a0) = none) ∧ (jt h (jd (jr h 450 a0)) = 5) ∧ Q (.inl (some (.inl (ji h 257 (jd (jr h 450 a0)))))) h))) ∧ ((x1 : Int32).toInt < 0 ∨ 4 < (x1 : Int32).toInt → Q (.inl (some (.inl ((-1))))) h))
set_option maxRecDepth 20000 in
theorem vX9_count_0 {g : jg} {a0 : Nat} {x1 : Int32} {h : jh} {k n : Nat} {Q : jq} (hv : VX9_count_0 g a0 x1 h k n Q) : jG g mX9_count 0 [(0, .inr (.inr (some (a0)))), (1, .inl (x1))] [] h k n Q := by
  unfold VX9_count_0 at hv
  refine jg_iload_n dX9_count_0 rfl (List.Mem.tail _ (List.Mem.head _)) ?_
  by_cases c1 : (x1) = 0
  · replace hv := hv.1 c1
    refine jg_tsIn 0 0 (tgt := 36) dX9_count_1 c1 (by decide) (by decide) rfl (by decide) ?_
    refine jg_aload_n dX9_count_36 rfl (List.Mem.head _) ?_
    obtain ⟨f2, hv⟩ := hv
    refine jg_getr dX9_count_37 fl_RX9_10 rfl jsn f2 ?_
    obtain ⟨f3, hv⟩ := hv
    obtain ⟨f4, hv⟩ := hv
    refine jg_geti dX9_count_40 fl_RX9_56 rfl f3 f4 ?_
    exact jg_iret dX9_count_43 rfl hv
  by_cases c5 : (x1) = 1
  · replace hv := hv.2.1 c5
    refine jg_tsIn 1 1 (tgt := 44) dX9_count_1 c5 (by decide) (by decide) rfl (by decide) ?_
    refine jg_aload_n dX9_count_44 rfl (List.Mem.head _) ?_
    obtain ⟨f6, hv⟩ := hv
    refine jg_getr dX9_count_45 fl_RX9_10 rfl jsn f6 ?_
    obtain ⟨f7, hv⟩ := hv
    obtain ⟨f8, hv⟩ := hv
    refine jp_callV mX8_records [] [] dX9_count_48 rfl cl_RX9_219 ⟨⟨by decide, by decide⟩, by decide⟩ f7 f8 (Nat.zero_le _) (Nat.zero_le _) (jM.mono (jki_k (fun r9 h10 hv => ?_)) hv)
    exact jg_iret dX9_count_51 rfl hv
  by_cases c11 : (x1) = 2
  · replace hv := hv.2.2.1 c11
    refine jg_tsIn 2 2 (tgt := 52) dX9_count_1 c11 (by decide) (by decide) rfl (by decide) ?_
    refine jg_aload_n dX9_count_52 rfl (List.Mem.head _) ?_
    obtain ⟨f12, hv⟩ := hv
    refine jg_getr dX9_count_53 fl_RX9_10 rfl jsn f12 ?_
    obtain ⟨f13, hv⟩ := hv
    obtain ⟨f14, hv⟩ := hv
    refine jp_callV mX8_tables [] [] dX9_count_56 rfl cl_RX9_222 ⟨⟨by decide, by decide⟩, by decide⟩ f13 f14 (Nat.zero_le _) (Nat.zero_le _) (jM.mono (jki_k (fun r15 h16 hv => ?_)) hv)
    exact jg_iret dX9_count_59 rfl hv
  by_cases c17 : (x1) = 3
  · replace hv := hv.2.2.2.1 c17
    refine jg_tsIn 3 3 (tgt := 60) dX9_count_1 c17 (by decide) (by decide) rfl (by decide) ?_
    refine jg_aload_n dX9_count_60 rfl (List.Mem.head _) ?_
    obtain ⟨f18, hv⟩ := hv
    refine jg_geti dX9_count_61 fl_RX9_32 rfl jsn f18 ?_
    refine jg_if_eq (tgt := 77) dX9_count_64 (by decide) (fun c19 => ?_) (fun c19 => ?_)
    · replace hv := hv.1 c19
      refine jg_iconst (v := (-1)) dX9_count_77 (by decide) ?_
      exact jg_iret dX9_count_78 rfl hv
    · replace hv := hv.2 c19
      refine jg_aload_n dX9_count_67 rfl (List.Mem.head _) ?_
      refine jg_getr dX9_count_68 fl_RX9_10 rfl jsn f18 ?_
      obtain ⟨f20, hv⟩ := hv
      obtain ⟨f21, hv⟩ := hv
      refine jp_callV mX8_slackBytes [] [] dX9_count_71 rfl cl_RX9_225 ⟨⟨by decide, by decide⟩, by decide⟩ f20 f21 (Nat.zero_le _) (Nat.zero_le _) (jM.mono (jki_k (fun r22 h23 hv => ?_)) hv)
      refine jg_goto (tgt := 78) dX9_count_74 (by decide) ?_
      exact jg_iret dX9_count_78 rfl hv
  by_cases c24 : (x1) = 4
  · replace hv := hv.2.2.2.2.1 c24
    refine jg_tsIn 4 4 (tgt := 79) dX9_count_1 c24 (by decide) (by decide) rfl (by decide) ?_
    refine jg_aload_n dX9_count_79 rfl (List.Mem.head _) ?_
    obtain ⟨f25, hv⟩ := hv
    refine jg_geti dX9_count_80 fl_RX9_32 rfl jsn f25 ?_
    refine jg_if_eq (tgt := 96) dX9_count_83 (by decide) (fun c26 => ?_) (fun c26 => ?_)
    · replace hv := hv.1 c26
      refine jg_iconst (v := (-1)) dX9_count_96 (by decide) ?_
      exact jg_iret dX9_count_97 rfl hv
    · replace hv := hv.2 c26
      refine jg_aload_n dX9_count_86 rfl (List.Mem.head _) ?_
      refine jg_getr dX9_count_87 fl_RX9_28 rfl jsn f25 ?_
      obtain ⟨f27, hv⟩ := hv
      obtain ⟨f28, hv⟩ := hv
      refine jg_geti dX9_count_90 fl_RX9_97 rfl f27 f28 ?_
      refine jg_goto (tgt := 97) dX9_count_93 (by decide) ?_
      exact jg_iret dX9_count_97 rfl hv
  have c29 : (x1 : Int32).toInt < 0 ∨ 4 < (x1 : Int32).toInt := by
    have c1n : ¬ (x1 : Int32).toInt = 0 := fun q => c1 (Int32.toInt_inj.mp (q.trans (by decide)))
    have c5n : ¬ (x1 : Int32).toInt = 1 := fun q => c5 (Int32.toInt_inj.mp (q.trans (by decide)))
    have c11n : ¬ (x1 : Int32).toInt = 2 := fun q => c11 (Int32.toInt_inj.mp (q.trans (by decide)))
    have c17n : ¬ (x1 : Int32).toInt = 3 := fun q => c17 (Int32.toInt_inj.mp (q.trans (by decide)))
    have c24n : ¬ (x1 : Int32).toInt = 4 := fun q => c24 (Int32.toInt_inj.mp (q.trans (by decide)))
    omega
  replace hv := hv.2.2.2.2.2 c29
  refine jg_tsOut (tgt := 98) dX9_count_1 c29 (by decide) ?_
  refine jg_iconst (v := (-1)) dX9_count_98 (by decide) ?_
  exact jg_iret dX9_count_99 rfl hv
theorem eX9_count {g : jg} {a0 : Nat} {x1 : Int32} {h : jh} {mc ms : Nat} {Q : jq} (hv : VX9_count_0 g a0 x1 h mc ms Q) : jM g mX9_count [.inr (.inr (some (a0))), .inl (x1)] h mc ms Q := jM.of (by decide) (Nat.le_of_ble_eq_true rfl) (lv := [(0, .inr (.inr (some (a0)))), (1, .inl (x1))]) rfl (vX9_count_0 hv)
theorem dX9_refusalFor_0 : decode cX9_refusalFor 0 = .ok (.aload_n 1, 1) := by decide +kernel
theorem dX9_refusalFor_1 : decode cX9_refusalFor 1 = .ok (.ifnonnull 6, 3) := by decide +kernel
theorem dX9_refusalFor_4 : decode cX9_refusalFor 4 = .ok (.bipush (-2), 2) := by decide +kernel
theorem dX9_refusalFor_6 : decode cX9_refusalFor 6 = .ok (.ireturn, 1) := by decide +kernel
theorem dX9_refusalFor_7 : decode cX9_refusalFor 7 = .ok (.aload_n 1, 1) := by decide +kernel
theorem dX9_refusalFor_8 : decode cX9_refusalFor 8 = .ok (.getfield 171, 3) := by decide +kernel
theorem dX9_refusalFor_11 : decode cX9_refusalFor 11 = .ok (.bipush 88, 2) := by decide +kernel
theorem dX9_refusalFor_13 : decode cX9_refusalFor 13 = .ok (.if_icmp .eq 16, 3) := by decide +kernel
theorem dX9_refusalFor_16 : decode cX9_refusalFor 16 = .ok (.iload_n 2, 1) := by decide +kernel
theorem dX9_refusalFor_17 : decode cX9_refusalFor 17 = .ok (.ifCond .eq 15, 3) := by decide +kernel
theorem dX9_refusalFor_20 : decode cX9_refusalFor 20 = .ok (.aload_n 1, 1) := by decide +kernel
theorem dX9_refusalFor_21 : decode cX9_refusalFor 21 = .ok (.getfield 171, 3) := by decide +kernel
theorem dX9_refusalFor_24 : decode cX9_refusalFor 24 = .ok (.bipush 66, 2) := by decide +kernel
theorem dX9_refusalFor_26 : decode cX9_refusalFor 26 = .ok (.if_icmp .ne 6, 3) := by decide +kernel
theorem dX9_refusalFor_29 : decode cX9_refusalFor 29 = .ok (.bipush (-4), 2) := by decide +kernel
theorem dX9_refusalFor_31 : decode cX9_refusalFor 31 = .ok (.ireturn, 1) := by decide +kernel
theorem dX9_refusalFor_32 : decode cX9_refusalFor 32 = .ok (.aload_n 0, 1) := by decide +kernel
theorem dX9_refusalFor_33 : decode cX9_refusalFor 33 = .ok (.getfield 32, 3) := by decide +kernel
theorem dX9_refusalFor_36 : decode cX9_refusalFor 36 = .ok (.ifCond .eq 7, 3) := by decide +kernel
theorem dX9_refusalFor_39 : decode cX9_refusalFor 39 = .ok (.iconst 0, 1) := by decide +kernel
theorem dX9_refusalFor_40 : decode cX9_refusalFor 40 = .ok (.goto 5, 3) := by decide +kernel
theorem dX9_refusalFor_43 : decode cX9_refusalFor 43 = .ok (.bipush (-5), 2) := by decide +kernel
theorem dX9_refusalFor_45 : decode cX9_refusalFor 45 = .ok (.ireturn, 1) := by decide +kernel
def VX9_refusalFor_0 (g : jg) (a0 : Nat) (o1 : Option Nat) (x2 : Int32) (h : jh) (k n : Nat) (Q : jq) : Prop := ((¬ (o1) = none → (jt h (jd (o1)) = 1) ∧ (((ji h 1 (jd (o1))) = (88) → Q (.inl (some (.inl ((-4))))) h) ∧ (¬ (ji h 1 (jd (o1))) = (88) → (((x2) = 0 → (jt h a0 = 8) ∧ (((ji h 451 a0) = 0 → Q (.inl (some (.inl ((-5))))) h) ∧ (¬ (ji h 451 a0) = 0 → Q (.inl (some (.inl (0)))) h))) ∧ (¬ (x2) = 0 → ((¬ (ji h 1 (jd (o1))) = (66) → (jt h a0 = 8) ∧ (((ji h 451 a0) = 0 → Q (.inl (some (.inl ((-5))))) h) ∧ (¬ (ji h 451 a0) = 0 → Q (.inl (some (.inl (0)))) h))) ∧ ((ji h 1 (jd (o1))) = (66) → Q (.inl (some (.inl ((-4))))) h))))))) ∧ ((o1) = none → Q (.inl (some (.inl ((-2))))) h))
set_option maxRecDepth 20000 in
theorem vX9_refusalFor_0 {g : jg} {a0 : Nat} {o1 : Option Nat} {x2 : Int32} {h : jh} {k n : Nat} {Q : jq} (hv : VX9_refusalFor_0 g a0 o1 x2 h k n Q) : jG g mX9_refusalFor 0 [(0, .inr (.inr (some (a0)))), (1, .inr (.inr (o1))), (2, .inl (x2))] [] h k n Q := by
  unfold VX9_refusalFor_0 at hv
  refine jg_aload_n dX9_refusalFor_0 rfl (List.Mem.tail _ (List.Mem.head _)) ?_
  refine jg_ifnonnull (tgt := 7) dX9_refusalFor_1 (by decide) (fun c1 => ?_) (fun c1 => ?_)
  · replace hv := hv.1 c1
    refine jg_aload_n dX9_refusalFor_7 rfl (List.Mem.tail _ (List.Mem.head _)) ?_
    obtain ⟨f2, hv⟩ := hv
    refine jg_geti dX9_refusalFor_8 fl_RX9_171 rfl c1 f2 ?_
    refine jg_bipush (v := 88) dX9_refusalFor_11 (by decide) ?_
    refine jg_icmp_eq (tgt := 29) dX9_refusalFor_13 (by decide) (fun c3 => ?_) (fun c3 => ?_)
    · replace hv := hv.1 c3
      refine jg_bipush (v := (-4)) dX9_refusalFor_29 (by decide) ?_
      exact jg_iret dX9_refusalFor_31 rfl hv
    · replace hv := hv.2 c3
      refine jg_iload_n dX9_refusalFor_16 rfl (List.Mem.tail _ (List.Mem.tail _ (List.Mem.head _))) ?_
      refine jg_if_eq (tgt := 32) dX9_refusalFor_17 (by decide) (fun c4 => ?_) (fun c4 => ?_)
      · replace hv := hv.1 c4
        refine jg_aload_n dX9_refusalFor_32 rfl (List.Mem.head _) ?_
        obtain ⟨f5, hv⟩ := hv
        refine jg_geti dX9_refusalFor_33 fl_RX9_32 rfl jsn f5 ?_
        refine jg_if_eq (tgt := 43) dX9_refusalFor_36 (by decide) (fun c6 => ?_) (fun c6 => ?_)
        · replace hv := hv.1 c6
          refine jg_bipush (v := (-5)) dX9_refusalFor_43 (by decide) ?_
          exact jg_iret dX9_refusalFor_45 rfl hv
        · replace hv := hv.2 c6
          refine jg_iconst (v := 0) dX9_refusalFor_39 (by decide) ?_
          refine jg_goto (tgt := 45) dX9_refusalFor_40 (by decide) ?_
          exact jg_iret dX9_refusalFor_45 rfl hv
      · replace hv := hv.2 c4
        refine jg_aload_n dX9_refusalFor_20 rfl (List.Mem.tail _ (List.Mem.head _)) ?_
        refine jg_geti dX9_refusalFor_21 fl_RX9_171 rfl c1 f2 ?_
        refine jg_bipush (v := 66) dX9_refusalFor_24 (by decide) ?_
        refine jg_icmp_ne (tgt := 32) dX9_refusalFor_26 (by decide) (fun c7 => ?_) (fun c7 => ?_)
        · replace hv := hv.1 c7
          refine jg_aload_n dX9_refusalFor_32 rfl (List.Mem.head _) ?_
          obtain ⟨f8, hv⟩ := hv
          refine jg_geti dX9_refusalFor_33 fl_RX9_32 rfl jsn f8 ?_
          refine jg_if_eq (tgt := 43) dX9_refusalFor_36 (by decide) (fun c9 => ?_) (fun c9 => ?_)
          · replace hv := hv.1 c9
            refine jg_bipush (v := (-5)) dX9_refusalFor_43 (by decide) ?_
            exact jg_iret dX9_refusalFor_45 rfl hv
          · replace hv := hv.2 c9
            refine jg_iconst (v := 0) dX9_refusalFor_39 (by decide) ?_
            refine jg_goto (tgt := 45) dX9_refusalFor_40 (by decide) ?_
            exact jg_iret dX9_refusalFor_45 rfl hv
        · replace hv := hv.2 c7
          refine jg_bipush (v := (-4)) dX9_refusalFor_29 (by decide) ?_
          exact jg_iret dX9_refusalFor_31 rfl hv
  · replace hv := hv.2 c1
    refine jg_bipush (v := (-2)) dX9_refusalFor_4 (by decide) ?_
    exact jg_iret dX9_refusalFor_6 rfl hv
theorem eX9_refusalFor {g : jg} {a0 : Nat} {o1 : Option Nat} {x2 : Int32} {h : jh} {mc ms : Nat} {Q : jq} (hv : VX9_refusalFor_0 g a0 o1 x2 h mc ms Q) : jM g mX9_refusalFor [.inr (.inr (some (a0))), .inr (.inr (o1)), .inl (x2)] h mc ms Q := jM.of (by decide) (Nat.le_of_ble_eq_true rfl) (lv := [(0, .inr (.inr (some (a0)))), (1, .inr (.inr (o1))), (2, .inl (x2))]) rfl (vX9_refusalFor_0 hv)
theorem dX9_tellClause_0 : decode cX9_tellClause 0 = .ok (.iload_n 2, 1) := by decide +kernel
theorem dX9_tellClause_1 : decode cX9_tellClause 1 = .ok (.tableswitch 113 0 5 #[39, 55, 72, 77, 83, 91], 39) := by decide +kernel
theorem dX9_tellClause_40 : decode cX9_tellClause 40 = .ok (.aload_n 0, 1) := by decide +kernel
theorem dX9_tellClause_41 : decode cX9_tellClause 41 = .ok (.aload_n 1, 1) := by decide +kernel
theorem dX9_tellClause_42 : decode cX9_tellClause 42 = .ok (.new 127, 3) := by decide +kernel
theorem dX9_tellClause_45 : decode cX9_tellClause 45 = .ok (.dup, 1) := by decide +kernel
theorem dX9_tellClause_46 : decode cX9_tellClause 46 = .ok (.iload_n 3, 1) := by decide +kernel
theorem dX9_tellClause_47 : decode cX9_tellClause 47 = .ok (.iload_n 3, 1) := by decide +kernel
theorem dX9_tellClause_48 : decode cX9_tellClause 48 = .ok (.iconst 0, 1) := by decide +kernel
theorem dX9_tellClause_49 : decode cX9_tellClause 49 = .ok (.invokespecial 228, 3) := by decide +kernel
theorem dX9_tellClause_52 : decode cX9_tellClause 52 = .ok (.invokevirtual 231, 3) := by decide +kernel
theorem dX9_tellClause_55 : decode cX9_tellClause 55 = .ok (.ireturn, 1) := by decide +kernel
theorem dX9_tellClause_56 : decode cX9_tellClause 56 = .ok (.aload_n 0, 1) := by decide +kernel
theorem dX9_tellClause_57 : decode cX9_tellClause 57 = .ok (.aload_n 1, 1) := by decide +kernel
theorem dX9_tellClause_58 : decode cX9_tellClause 58 = .ok (.new 127, 3) := by decide +kernel
theorem dX9_tellClause_61 : decode cX9_tellClause 61 = .ok (.dup, 1) := by decide +kernel
theorem dX9_tellClause_62 : decode cX9_tellClause 62 = .ok (.iload_n 3, 1) := by decide +kernel
theorem dX9_tellClause_63 : decode cX9_tellClause 63 = .ok (.iload 4, 2) := by decide +kernel
theorem dX9_tellClause_65 : decode cX9_tellClause 65 = .ok (.iconst 1, 1) := by decide +kernel
theorem dX9_tellClause_66 : decode cX9_tellClause 66 = .ok (.invokespecial 228, 3) := by decide +kernel
theorem dX9_tellClause_69 : decode cX9_tellClause 69 = .ok (.invokevirtual 231, 3) := by decide +kernel
theorem dX9_tellClause_72 : decode cX9_tellClause 72 = .ok (.ireturn, 1) := by decide +kernel
theorem dX9_tellClause_73 : decode cX9_tellClause 73 = .ok (.aload_n 1, 1) := by decide +kernel
theorem dX9_tellClause_74 : decode cX9_tellClause 74 = .ok (.invokestatic 235, 3) := by decide +kernel
theorem dX9_tellClause_77 : decode cX9_tellClause 77 = .ok (.ireturn, 1) := by decide +kernel
theorem dX9_tellClause_78 : decode cX9_tellClause 78 = .ok (.aload_n 1, 1) := by decide +kernel
theorem dX9_tellClause_79 : decode cX9_tellClause 79 = .ok (.iload_n 3, 1) := by decide +kernel
theorem dX9_tellClause_80 : decode cX9_tellClause 80 = .ok (.invokestatic 239, 3) := by decide +kernel
theorem dX9_tellClause_83 : decode cX9_tellClause 83 = .ok (.ireturn, 1) := by decide +kernel
theorem dX9_tellClause_84 : decode cX9_tellClause 84 = .ok (.aload_n 1, 1) := by decide +kernel
theorem dX9_tellClause_85 : decode cX9_tellClause 85 = .ok (.iload_n 3, 1) := by decide +kernel
theorem dX9_tellClause_86 : decode cX9_tellClause 86 = .ok (.iload 4, 2) := by decide +kernel
theorem dX9_tellClause_88 : decode cX9_tellClause 88 = .ok (.invokestatic 243, 3) := by decide +kernel
theorem dX9_tellClause_91 : decode cX9_tellClause 91 = .ok (.ireturn, 1) := by decide +kernel
theorem dX9_tellClause_92 : decode cX9_tellClause 92 = .ok (.aload_n 1, 1) := by decide +kernel
theorem dX9_tellClause_93 : decode cX9_tellClause 93 = .ok (.aload_n 0, 1) := by decide +kernel
theorem dX9_tellClause_94 : decode cX9_tellClause 94 = .ok (.getfield 10, 3) := by decide +kernel
theorem dX9_tellClause_97 : decode cX9_tellClause 97 = .ok (.iload_n 3, 1) := by decide +kernel
theorem dX9_tellClause_98 : decode cX9_tellClause 98 = .ok (.invokevirtual 63, 3) := by decide +kernel
theorem dX9_tellClause_101 : decode cX9_tellClause 101 = .ok (.aload_n 0, 1) := by decide +kernel
theorem dX9_tellClause_102 : decode cX9_tellClause 102 = .ok (.getfield 10, 3) := by decide +kernel
theorem dX9_tellClause_105 : decode cX9_tellClause 105 = .ok (.iload 4, 2) := by decide +kernel
theorem dX9_tellClause_107 : decode cX9_tellClause 107 = .ok (.invokevirtual 63, 3) := by decide +kernel
theorem dX9_tellClause_110 : decode cX9_tellClause 110 = .ok (.invokestatic 247, 3) := by decide +kernel
theorem dX9_tellClause_113 : decode cX9_tellClause 113 = .ok (.ireturn, 1) := by decide +kernel
theorem dX9_tellClause_114 : decode cX9_tellClause 114 = .ok (.iconst 0, 1) := by decide +kernel
theorem dX9_tellClause_115 : decode cX9_tellClause 115 = .ok (.ireturn, 1) := by decide +kernel
def VX9_tellClause_0 (g : jg) (a0 : Nat) (o1 : Option Nat) (x2 : Int32) (x3 : Int32) (x4 : Int32) (h : jh) (k n : Nat) (Q : jq) : Prop := (((x2) = 0 → (1 ≤ k) ∧ (5 ≤ n) ∧ ∀ h4 : jh, h4 = jmk h 6 0 → jM g mX7_init [.inr (.inr (some (jz h))), .inl (x3), .inl (x3), .inl (0)] h4 0 0 (jkv (fun (h7 : jh) => (jt h7 a0 = 8) ∧ jM g mX9_tellTable [.inr (.inr (some a0)), .inr (.inr (o1)), .inr (.inr (some (jz h)))] h7 0 0 (jki (fun (r9 : Int32) (h10 : jh) => ((r9) = 0 ∨ (r9) = 1) ∧ Q (.inl (some (.inl (r9)))) h10) (fun e h9 => Q (.inr e) h9))) (fun _ _ => False))) ∧ ((x2) = 1 → (1 ≤ k) ∧ (5 ≤ n) ∧ ∀ h15 : jh, h15 = jmk h 6 0 → jM g mX7_init [.inr (.inr (some (jz h))), .inl (x3), .inl (x4), .inl (1)] h15 0 0 (jkv (fun (h18 : jh) => (jt h18 a0 = 8) ∧ jM g mX9_tellTable [.inr (.inr (some a0)), .inr (.inr (o1)), .inr (.inr (some (jz h)))] h18 0 0 (jki (fun (r20 : Int32) (h21 : jh) => ((r20) = 0 ∨ (r20) = 1) ∧ Q (.inl (some (.inl (r20)))) h21) (fun e h9 => Q (.inr e) h9))) (fun _ _ => False))) ∧ ((x2) = 2 → jM g mX9_tellSynchronised [.inr (.inr (o1))] h 0 0 (jki (fun (r24 : Int32) (h25 : jh) => ((r24) = 0 ∨ (r24) = 1) ∧ Q (.inl (some (.inl (r24)))) h25) (fun e h9 => Q (.inr e) h9))) ∧ ((x2) = 3 → jM g mX9_tellValue [.inr (.inr (o1)), .inl (x3)] h 0 0 (jki (fun (r28 : Int32) (h29 : jh) => ((r28) = 0 ∨ (r28) = 1) ∧ Q (.inl (some (.inl (r28)))) h29) (fun e h9 => Q (.inr e) h9))) ∧ ((x2) = 4 → ∃ mc34 ms35 : Nat, mc34 ≤ k ∧ ms35 ≤ n ∧ jM g mX9_tellRange [.inr (.inr (o1)), .inl (x3), .inl (x4)] h mc34 ms35 (jki (fun (r32 : Int32) (h33 : jh) => ((r32) = 0 ∨ (r32) = 1) ∧ Q (.inl (some (.inl (r32)))) h33) (fun e h9 => Q (.inr e) h9))) ∧ ((x2) = 5 → (jt h a0 = 8) ∧ (¬ (jr h 448 a0) = none) ∧ (jt h (jd (jr h 448 a0)) = 7) ∧ jM g mX8_find [.inr (.inr (some (jd (jr h 448 a0)))), .inl (x3)] h 0 0 (jkr (fun (r43 : Option Nat) (h44 : jh) => (jt h44 a0 = 8) ∧ (¬ (jr h44 448 a0) = none) ∧ (jt h44 (jd (jr h44 448 a0)) = 7) ∧ jM g mX8_find [.inr (.inr (some (jd (jr h44 448 a0)))), .inl (x4)] h44 0 0 (jkr (fun (r48 : Option Nat) (h49 : jh) => jM g mX9_tellPart [.inr (.inr (o1)), .inr (.inr (r43)), .inr (.inr (r48))] h49 0 0 (jki (fun (r50 : Int32) (h51 : jh) => ((r50) = 0 ∨ (r50) = 1) ∧ Q (.inl (some (.inl (r50)))) h51) (fun e h9 => Q (.inr e) h9))) (fun e h9 => Q (.inr e) h9))) (fun e h9 => Q (.inr e) h9))) ∧ ((x2 : Int32).toInt < 0 ∨ 5 < (x2 : Int32).toInt → Q (.inl (some (.inl (0)))) h))
set_option maxRecDepth 20000 in
theorem vX9_tellClause_0 {g : jg} {a0 : Nat} {o1 : Option Nat} {x2 : Int32} {x3 : Int32} {x4 : Int32} {h : jh} {k n : Nat} {Q : jq} (hv : VX9_tellClause_0 g a0 o1 x2 x3 x4 h k n Q) : jG g mX9_tellClause 0 [(0, .inr (.inr (some (a0)))), (1, .inr (.inr (o1))), (2, .inl (x2)), (3, .inl (x3)), (4, .inl (x4))] [] h k n Q := by
  unfold VX9_tellClause_0 at hv
  refine jg_iload_n dX9_tellClause_0 rfl (List.Mem.tail _ (List.Mem.tail _ (List.Mem.head _))) ?_
  by_cases c1 : (x2) = 0
  · replace hv := hv.1 c1
    refine jg_tsIn 0 0 (tgt := 40) dX9_tellClause_1 c1 (by decide) (by decide) rfl (by decide) ?_
    refine jg_aload_n dX9_tellClause_40 rfl (List.Mem.head _) ?_
    refine jg_aload_n dX9_tellClause_41 rfl (List.Mem.tail _ (List.Mem.head _)) ?_
    obtain ⟨f2, hv⟩ := hv
    obtain ⟨f3, hv⟩ := hv
    obtain ⟨h4, e5⟩ : ∃ z : jh, z = jmk h 6 0 := ⟨_, rfl⟩
    replace hv := hv h4 e5
    refine jp_new dX9_tellClause_42 nl_RX9_127 f2 f3 e5 ?_
    refine jg_dup dX9_tellClause_45 rfl ?_
    refine jg_iload_n dX9_tellClause_46 rfl (List.Mem.tail _ (List.Mem.tail _ (List.Mem.tail _ (List.Mem.head _)))) ?_
    refine jg_iload_n dX9_tellClause_47 rfl (List.Mem.tail _ (List.Mem.tail _ (List.Mem.tail _ (List.Mem.head _)))) ?_
    refine jg_iconst (v := 0) dX9_tellClause_48 (by decide) ?_
    refine jg_callI mX7_init [.inl (x3), .inl (x3), .inl (0)] [.inr (.inr (some (jz h))), .inr (.inr (o1)), .inr (.inr (some (a0)))] dX9_tellClause_49 rfl cl_RX9_228 ⟨⟨by decide, by decide⟩, jcat_le _ (Nat.le_of_ble_eq_true rfl)⟩ (Nat.zero_le _) (Nat.zero_le _) (jM.mono (jkv_k (fun h7 hv => ?_)) hv)
    obtain ⟨f8, hv⟩ := hv
    refine jp_callV mX9_tellTable [.inr (.inr (o1)), .inr (.inr (some (jz h)))] [] dX9_tellClause_52 rfl cl_RX9_231 ⟨⟨by decide, by decide⟩, by decide⟩ jsn f8 (Nat.zero_le _) (Nat.zero_le _) (jM.mono (jki_k (fun r9 h10 hv => ?_)) hv)
    obtain ⟨f11, hv⟩ := hv
    exact jg_bret dX9_tellClause_55 rfl f11 hv
  by_cases c12 : (x2) = 1
  · replace hv := hv.2.1 c12
    refine jg_tsIn 1 1 (tgt := 56) dX9_tellClause_1 c12 (by decide) (by decide) rfl (by decide) ?_
    refine jg_aload_n dX9_tellClause_56 rfl (List.Mem.head _) ?_
    refine jg_aload_n dX9_tellClause_57 rfl (List.Mem.tail _ (List.Mem.head _)) ?_
    obtain ⟨f13, hv⟩ := hv
    obtain ⟨f14, hv⟩ := hv
    obtain ⟨h15, e16⟩ : ∃ z : jh, z = jmk h 6 0 := ⟨_, rfl⟩
    replace hv := hv h15 e16
    refine jp_new dX9_tellClause_58 nl_RX9_127 f13 f14 e16 ?_
    refine jg_dup dX9_tellClause_61 rfl ?_
    refine jg_iload_n dX9_tellClause_62 rfl (List.Mem.tail _ (List.Mem.tail _ (List.Mem.tail _ (List.Mem.head _)))) ?_
    refine jg_iload dX9_tellClause_63 (List.Mem.tail _ (List.Mem.tail _ (List.Mem.tail _ (List.Mem.tail _ (List.Mem.head _))))) ?_
    refine jg_iconst (v := 1) dX9_tellClause_65 (by decide) ?_
    refine jg_callI mX7_init [.inl (x3), .inl (x4), .inl (1)] [.inr (.inr (some (jz h))), .inr (.inr (o1)), .inr (.inr (some (a0)))] dX9_tellClause_66 rfl cl_RX9_228 ⟨⟨by decide, by decide⟩, jcat_le _ (Nat.le_of_ble_eq_true rfl)⟩ (Nat.zero_le _) (Nat.zero_le _) (jM.mono (jkv_k (fun h18 hv => ?_)) hv)
    obtain ⟨f19, hv⟩ := hv
    refine jp_callV mX9_tellTable [.inr (.inr (o1)), .inr (.inr (some (jz h)))] [] dX9_tellClause_69 rfl cl_RX9_231 ⟨⟨by decide, by decide⟩, by decide⟩ jsn f19 (Nat.zero_le _) (Nat.zero_le _) (jM.mono (jki_k (fun r20 h21 hv => ?_)) hv)
    obtain ⟨f22, hv⟩ := hv
    exact jg_bret dX9_tellClause_72 rfl f22 hv
  by_cases c23 : (x2) = 2
  · replace hv := hv.2.2.1 c23
    refine jg_tsIn 2 2 (tgt := 73) dX9_tellClause_1 c23 (by decide) (by decide) rfl (by decide) ?_
    refine jg_aload_n dX9_tellClause_73 rfl (List.Mem.tail _ (List.Mem.head _)) ?_
    refine jg_callS mX9_tellSynchronised [.inr (.inr (o1))] [] dX9_tellClause_74 rfl cl_RX9_235 ⟨⟨by decide, by decide⟩, by decide⟩ (Nat.zero_le _) (Nat.zero_le _) (jM.mono (jki_k (fun r24 h25 hv => ?_)) hv)
    obtain ⟨f26, hv⟩ := hv
    exact jg_bret dX9_tellClause_77 rfl f26 hv
  by_cases c27 : (x2) = 3
  · replace hv := hv.2.2.2.1 c27
    refine jg_tsIn 3 3 (tgt := 78) dX9_tellClause_1 c27 (by decide) (by decide) rfl (by decide) ?_
    refine jg_aload_n dX9_tellClause_78 rfl (List.Mem.tail _ (List.Mem.head _)) ?_
    refine jg_iload_n dX9_tellClause_79 rfl (List.Mem.tail _ (List.Mem.tail _ (List.Mem.tail _ (List.Mem.head _)))) ?_
    refine jg_callS mX9_tellValue [.inr (.inr (o1)), .inl (x3)] [] dX9_tellClause_80 rfl cl_RX9_239 ⟨⟨by decide, by decide⟩, by decide⟩ (Nat.zero_le _) (Nat.zero_le _) (jM.mono (jki_k (fun r28 h29 hv => ?_)) hv)
    obtain ⟨f30, hv⟩ := hv
    exact jg_bret dX9_tellClause_83 rfl f30 hv
  by_cases c31 : (x2) = 4
  · replace hv := hv.2.2.2.2.1 c31
    refine jg_tsIn 4 4 (tgt := 84) dX9_tellClause_1 c31 (by decide) (by decide) rfl (by decide) ?_
    refine jg_aload_n dX9_tellClause_84 rfl (List.Mem.tail _ (List.Mem.head _)) ?_
    refine jg_iload_n dX9_tellClause_85 rfl (List.Mem.tail _ (List.Mem.tail _ (List.Mem.tail _ (List.Mem.head _)))) ?_
    refine jg_iload dX9_tellClause_86 (List.Mem.tail _ (List.Mem.tail _ (List.Mem.tail _ (List.Mem.tail _ (List.Mem.head _))))) ?_
    obtain ⟨mc34, ms35, f36, f37, hv⟩ := hv
    refine jg_callS mX9_tellRange [.inr (.inr (o1)), .inl (x3), .inl (x4)] [] dX9_tellClause_88 rfl cl_RX9_243 ⟨⟨by decide, by decide⟩, by decide⟩ f36 f37 (jM.mono (jki_k (fun r32 h33 hv => ?_)) hv)
    obtain ⟨f38, hv⟩ := hv
    exact jg_bret dX9_tellClause_91 rfl f38 hv
  by_cases c39 : (x2) = 5
  · replace hv := hv.2.2.2.2.2.1 c39
    refine jg_tsIn 5 5 (tgt := 92) dX9_tellClause_1 c39 (by decide) (by decide) rfl (by decide) ?_
    refine jg_aload_n dX9_tellClause_92 rfl (List.Mem.tail _ (List.Mem.head _)) ?_
    refine jg_aload_n dX9_tellClause_93 rfl (List.Mem.head _) ?_
    obtain ⟨f40, hv⟩ := hv
    refine jg_getr dX9_tellClause_94 fl_RX9_10 rfl jsn f40 ?_
    refine jg_iload_n dX9_tellClause_97 rfl (List.Mem.tail _ (List.Mem.tail _ (List.Mem.tail _ (List.Mem.head _)))) ?_
    obtain ⟨f41, hv⟩ := hv
    obtain ⟨f42, hv⟩ := hv
    refine jp_callV mX8_find [.inl (x3)] [.inr (.inr (o1))] dX9_tellClause_98 rfl cl_RX9_63 ⟨⟨by decide, by decide⟩, jcat_le _ (Nat.le_of_ble_eq_true rfl)⟩ f41 f42 (Nat.zero_le _) (Nat.zero_le _) (jM.mono (jkr_k (fun r43 h44 hv => ?_)) hv)
    refine jg_aload_n dX9_tellClause_101 rfl (List.Mem.head _) ?_
    obtain ⟨f45, hv⟩ := hv
    refine jg_getr dX9_tellClause_102 fl_RX9_10 rfl jsn f45 ?_
    refine jg_iload dX9_tellClause_105 (List.Mem.tail _ (List.Mem.tail _ (List.Mem.tail _ (List.Mem.tail _ (List.Mem.head _))))) ?_
    obtain ⟨f46, hv⟩ := hv
    obtain ⟨f47, hv⟩ := hv
    refine jp_callV mX8_find [.inl (x4)] [.inr (.inr (r43)), .inr (.inr (o1))] dX9_tellClause_107 rfl cl_RX9_63 ⟨⟨by decide, by decide⟩, jcat_le _ (Nat.le_of_ble_eq_true rfl)⟩ f46 f47 (Nat.zero_le _) (Nat.zero_le _) (jM.mono (jkr_k (fun r48 h49 hv => ?_)) hv)
    refine jg_callS mX9_tellPart [.inr (.inr (o1)), .inr (.inr (r43)), .inr (.inr (r48))] [] dX9_tellClause_110 rfl cl_RX9_247 ⟨⟨by decide, by decide⟩, by decide⟩ (Nat.zero_le _) (Nat.zero_le _) (jM.mono (jki_k (fun r50 h51 hv => ?_)) hv)
    obtain ⟨f52, hv⟩ := hv
    exact jg_bret dX9_tellClause_113 rfl f52 hv
  have c53 : (x2 : Int32).toInt < 0 ∨ 5 < (x2 : Int32).toInt := by
    have c1n : ¬ (x2 : Int32).toInt = 0 := fun q => c1 (Int32.toInt_inj.mp (q.trans (by decide)))
    have c12n : ¬ (x2 : Int32).toInt = 1 := fun q => c12 (Int32.toInt_inj.mp (q.trans (by decide)))
    have c23n : ¬ (x2 : Int32).toInt = 2 := fun q => c23 (Int32.toInt_inj.mp (q.trans (by decide)))
    have c27n : ¬ (x2 : Int32).toInt = 3 := fun q => c27 (Int32.toInt_inj.mp (q.trans (by decide)))
    have c31n : ¬ (x2 : Int32).toInt = 4 := fun q => c31 (Int32.toInt_inj.mp (q.trans (by decide)))
    have c39n : ¬ (x2 : Int32).toInt = 5 := fun q => c39 (Int32.toInt_inj.mp (q.trans (by decide)))
    omega
  replace hv := hv.2.2.2.2.2.2 c53
  refine jg_tsOut (tgt := 114) dX9_tellClause_1 c53 (by decide) ?_
  refine jg_iconst (v := 0) dX9_tellClause_114 (by decide) ?_
  exact jg_bret dX9_tellClause_115 rfl (by decide) hv
theorem eX9_tellClause {g : jg} {a0 : Nat} {o1 : Option Nat} {x2 : Int32} {x3 : Int32} {x4 : Int32} {h : jh} {mc ms : Nat} {Q : jq} (hv : VX9_tellClause_0 g a0 o1 x2 x3 x4 h mc ms Q) : jM g mX9_tellClause [.inr (.inr (some (a0))), .inr (.inr (o1)), .inl (x2), .inl (x3), .inl (x4)] h mc ms Q := jM.of (by decide) (Nat.le_of_ble_eq_true rfl) (lv := [(0, .inr (.inr (some (a0)))), (1, .inr (.inr (o1))), (2, .inl (x2)), (3, .inl (x3)), (4, .inl (x4))]) rfl (vX9_tellClause_0 hv)
theorem dX9_tellTable_0 : decode cX9_tellTable 0 = .ok (.aload_n 0, 1) := by decide +kernel
theorem dX9_tellTable_1 : decode cX9_tellTable 1 = .ok (.getfield 10, 3) := by decide +kernel
theorem dX9_tellTable_4 : decode cX9_tellTable 4 = .ok (.aload_n 1, 1) := by decide +kernel
theorem dX9_tellTable_5 : decode cX9_tellTable 5 = .ok (.aload_n 2, 1) := by decide +kernel
theorem dX9_tellTable_6 : decode cX9_tellTable 6 = .ok (.getfield 148, 3) := by decide +kernel
theorem dX9_tellTable_9 : decode cX9_tellTable 9 = .ok (.invokevirtual 251, 3) := by decide +kernel
theorem dX9_tellTable_12 : decode cX9_tellTable 12 = .ok (.ifCond .ne 5, 3) := by decide +kernel
theorem dX9_tellTable_15 : decode cX9_tellTable 15 = .ok (.iconst 0, 1) := by decide +kernel
theorem dX9_tellTable_16 : decode cX9_tellTable 16 = .ok (.ireturn, 1) := by decide +kernel
theorem dX9_tellTable_17 : decode cX9_tellTable 17 = .ok (.aload_n 1, 1) := by decide +kernel
theorem dX9_tellTable_18 : decode cX9_tellTable 18 = .ok (.aload_n 2, 1) := by decide +kernel
theorem dX9_tellTable_19 : decode cX9_tellTable 19 = .ok (.putfield 144, 3) := by decide +kernel
theorem dX9_tellTable_22 : decode cX9_tellTable 22 = .ok (.iconst 1, 1) := by decide +kernel
theorem dX9_tellTable_23 : decode cX9_tellTable 23 = .ok (.ireturn, 1) := by decide +kernel
def VX9_tellTable_0 (g : jg) (a0 : Nat) (o1 : Option Nat) (o2 : Option Nat) (h : jh) (k n : Nat) (Q : jq) : Prop := (jt h a0 = 8) ∧ (¬ (o2) = none) ∧ (jt h (jd (o2)) = 6) ∧ (¬ (jr h 448 a0) = none) ∧ (jt h (jd (jr h 448 a0)) = 7) ∧ jM g mX8_mayBeTable [.inr (.inr (some (jd (jr h 448 a0)))), .inr (.inr (o1)), .inl (ji h 322 (jd (o2)))] h 0 0 (jki (fun (r6 : Int32) (h7 : jh) => ((¬ (r6) = 0 → (¬ (o1) = none) ∧ (jt h7 (jd (o1)) = 1) ∧ ∀ h11 : jh, h11 = jsr h7 10 (jd (o1)) (o2) → Q (.inl (some (.inl (1)))) h11) ∧ ((r6) = 0 → Q (.inl (some (.inl (0)))) h7))) (fun e h9 => Q (.inr e) h9))
set_option maxRecDepth 20000 in
theorem vX9_tellTable_0 {g : jg} {a0 : Nat} {o1 : Option Nat} {o2 : Option Nat} {h : jh} {k n : Nat} {Q : jq} (hv : VX9_tellTable_0 g a0 o1 o2 h k n Q) : jG g mX9_tellTable 0 [(0, .inr (.inr (some (a0)))), (1, .inr (.inr (o1))), (2, .inr (.inr (o2)))] [] h k n Q := by
  unfold VX9_tellTable_0 at hv
  refine jg_aload_n dX9_tellTable_0 rfl (List.Mem.head _) ?_
  obtain ⟨f1, hv⟩ := hv
  refine jg_getr dX9_tellTable_1 fl_RX9_10 rfl jsn f1 ?_
  refine jg_aload_n dX9_tellTable_4 rfl (List.Mem.tail _ (List.Mem.head _)) ?_
  refine jg_aload_n dX9_tellTable_5 rfl (List.Mem.tail _ (List.Mem.tail _ (List.Mem.head _))) ?_
  obtain ⟨f2, hv⟩ := hv
  obtain ⟨f3, hv⟩ := hv
  refine jg_geti dX9_tellTable_6 fl_RX9_148 rfl f2 f3 ?_
  obtain ⟨f4, hv⟩ := hv
  obtain ⟨f5, hv⟩ := hv
  refine jp_callV mX8_mayBeTable [.inr (.inr (o1)), .inl (ji h 322 (jd (o2)))] [] dX9_tellTable_9 rfl cl_RX9_251 ⟨⟨by decide, by decide⟩, by decide⟩ f4 f5 (Nat.zero_le _) (Nat.zero_le _) (jM.mono (jki_k (fun r6 h7 hv => ?_)) hv)
  refine jg_if_ne (tgt := 17) dX9_tellTable_12 (by decide) (fun c8 => ?_) (fun c8 => ?_)
  · replace hv := hv.1 c8
    refine jg_aload_n dX9_tellTable_17 rfl (List.Mem.tail _ (List.Mem.head _)) ?_
    refine jg_aload_n dX9_tellTable_18 rfl (List.Mem.tail _ (List.Mem.tail _ (List.Mem.head _))) ?_
    obtain ⟨f9, hv⟩ := hv
    obtain ⟨f10, hv⟩ := hv
    obtain ⟨h11, e12⟩ : ∃ z : jh, z = jsr h7 10 (jd (o1)) (o2) := ⟨_, rfl⟩
    replace hv := hv h11 e12
    refine jp_putr dX9_tellTable_19 (jfp.nf fl_RX9_144 (fun q hq => by cases hq; rfl)) rfl f9 f10 e12 ?_
    refine jg_iconst (v := 1) dX9_tellTable_22 (by decide) ?_
    exact jg_bret dX9_tellTable_23 rfl (by decide) hv
  · replace hv := hv.2 c8
    refine jg_iconst (v := 0) dX9_tellTable_15 (by decide) ?_
    exact jg_bret dX9_tellTable_16 rfl (by decide) hv
theorem eX9_tellTable {g : jg} {a0 : Nat} {o1 : Option Nat} {o2 : Option Nat} {h : jh} {mc ms : Nat} {Q : jq} (hv : VX9_tellTable_0 g a0 o1 o2 h mc ms Q) : jM g mX9_tellTable [.inr (.inr (some (a0))), .inr (.inr (o1)), .inr (.inr (o2))] h mc ms Q := jM.of (by decide) (Nat.le_of_ble_eq_true rfl) (lv := [(0, .inr (.inr (some (a0)))), (1, .inr (.inr (o1))), (2, .inr (.inr (o2)))]) rfl (vX9_tellTable_0 hv)
theorem dX9_tellSynchronised_0 : decode cX9_tellSynchronised 0 = .ok (.aload_n 0, 1) := by decide +kernel
theorem dX9_tellSynchronised_1 : decode cX9_tellSynchronised 1 = .ok (.getfield 255, 3) := by decide +kernel
theorem dX9_tellSynchronised_4 : decode cX9_tellSynchronised 4 = .ok (.bipush 8, 2) := by decide +kernel
theorem dX9_tellSynchronised_6 : decode cX9_tellSynchronised 6 = .ok (.if_icmp .lt 19, 3) := by decide +kernel
theorem dX9_tellSynchronised_9 : decode cX9_tellSynchronised 9 = .ok (.aload_n 0, 1) := by decide +kernel
theorem dX9_tellSynchronised_10 : decode cX9_tellSynchronised 10 = .ok (.getfield 255, 3) := by decide +kernel
theorem dX9_tellSynchronised_13 : decode cX9_tellSynchronised 13 = .ok (.bipush 11, 2) := by decide +kernel
theorem dX9_tellSynchronised_15 : decode cX9_tellSynchronised 15 = .ok (.if_icmp .gt 10, 3) := by decide +kernel
theorem dX9_tellSynchronised_18 : decode cX9_tellSynchronised 18 = .ok (.aload_n 0, 1) := by decide +kernel
theorem dX9_tellSynchronised_19 : decode cX9_tellSynchronised 19 = .ok (.getfield 258, 3) := by decide +kernel
theorem dX9_tellSynchronised_22 : decode cX9_tellSynchronised 22 = .ok (.ifCond .eq 5, 3) := by decide +kernel
theorem dX9_tellSynchronised_25 : decode cX9_tellSynchronised 25 = .ok (.iconst 0, 1) := by decide +kernel
theorem dX9_tellSynchronised_26 : decode cX9_tellSynchronised 26 = .ok (.ireturn, 1) := by decide +kernel
theorem dX9_tellSynchronised_27 : decode cX9_tellSynchronised 27 = .ok (.aload_n 0, 1) := by decide +kernel
theorem dX9_tellSynchronised_28 : decode cX9_tellSynchronised 28 = .ok (.iconst 1, 1) := by decide +kernel
theorem dX9_tellSynchronised_29 : decode cX9_tellSynchronised 29 = .ok (.putfield 258, 3) := by decide +kernel
theorem dX9_tellSynchronised_32 : decode cX9_tellSynchronised 32 = .ok (.iconst 1, 1) := by decide +kernel
theorem dX9_tellSynchronised_33 : decode cX9_tellSynchronised 33 = .ok (.ireturn, 1) := by decide +kernel
def VX9_tellSynchronised_0 (g : jg) (o0 : Option Nat) (h : jh) (k n : Nat) (Q : jq) : Prop := (¬ (o0) = none) ∧ (jt h (jd (o0)) = 1) ∧ (((ji h 2 (jd (o0))) < (8) → Q (.inl (some (.inl (0)))) h) ∧ (¬ (ji h 2 (jd (o0))) < (8) → (((11 : Int32) < (ji h 2 (jd (o0))) → Q (.inl (some (.inl (0)))) h) ∧ (¬ (11 : Int32) < (ji h 2 (jd (o0))) → (((ji h 11 (jd (o0))) = 0 → ∀ h6 : jh, h6 = jsi h 11 (jd (o0)) (1) → Q (.inl (some (.inl (1)))) h6) ∧ (¬ (ji h 11 (jd (o0))) = 0 → Q (.inl (some (.inl (0)))) h))))))
set_option maxRecDepth 20000 in
theorem vX9_tellSynchronised_0 {g : jg} {o0 : Option Nat} {h : jh} {k n : Nat} {Q : jq} (hv : VX9_tellSynchronised_0 g o0 h k n Q) : jG g mX9_tellSynchronised 0 [(0, .inr (.inr (o0)))] [] h k n Q := by
  unfold VX9_tellSynchronised_0 at hv
  refine jg_aload_n dX9_tellSynchronised_0 rfl (List.Mem.head _) ?_
  obtain ⟨f1, hv⟩ := hv
  obtain ⟨f2, hv⟩ := hv
  refine jg_geti dX9_tellSynchronised_1 fl_RX9_255 rfl f1 f2 ?_
  refine jg_bipush (v := 8) dX9_tellSynchronised_4 (by decide) ?_
  refine jg_icmp_lt (tgt := 25) dX9_tellSynchronised_6 (by decide) (fun c3 => ?_) (fun c3 => ?_)
  · replace hv := hv.1 c3
    refine jg_iconst (v := 0) dX9_tellSynchronised_25 (by decide) ?_
    exact jg_bret dX9_tellSynchronised_26 rfl (by decide) hv
  · replace hv := hv.2 c3
    refine jg_aload_n dX9_tellSynchronised_9 rfl (List.Mem.head _) ?_
    refine jg_geti dX9_tellSynchronised_10 fl_RX9_255 rfl f1 f2 ?_
    refine jg_bipush (v := 11) dX9_tellSynchronised_13 (by decide) ?_
    refine jg_icmp_gt (tgt := 25) dX9_tellSynchronised_15 (by decide) (fun c4 => ?_) (fun c4 => ?_)
    · replace hv := hv.1 c4
      refine jg_iconst (v := 0) dX9_tellSynchronised_25 (by decide) ?_
      exact jg_bret dX9_tellSynchronised_26 rfl (by decide) hv
    · replace hv := hv.2 c4
      refine jg_aload_n dX9_tellSynchronised_18 rfl (List.Mem.head _) ?_
      refine jg_geti dX9_tellSynchronised_19 fl_RX9_258 rfl f1 f2 ?_
      refine jg_if_eq (tgt := 27) dX9_tellSynchronised_22 (by decide) (fun c5 => ?_) (fun c5 => ?_)
      · replace hv := hv.1 c5
        refine jg_aload_n dX9_tellSynchronised_27 rfl (List.Mem.head _) ?_
        refine jg_iconst (v := 1) dX9_tellSynchronised_28 (by decide) ?_
        obtain ⟨h6, e7⟩ : ∃ z : jh, z = jsi h 11 (jd (o0)) (1) := ⟨_, rfl⟩
        replace hv := hv h6 e7
        refine jp_putz dX9_tellSynchronised_29 (jfp.nf fl_RX9_258 (fun q hq => by cases hq; rfl)) rfl f1 f2 (by decide) e7 ?_
        refine jg_iconst (v := 1) dX9_tellSynchronised_32 (by decide) ?_
        exact jg_bret dX9_tellSynchronised_33 rfl (by decide) hv
      · replace hv := hv.2 c5
        refine jg_iconst (v := 0) dX9_tellSynchronised_25 (by decide) ?_
        exact jg_bret dX9_tellSynchronised_26 rfl (by decide) hv
theorem eX9_tellSynchronised {g : jg} {o0 : Option Nat} {h : jh} {mc ms : Nat} {Q : jq} (hv : VX9_tellSynchronised_0 g o0 h mc ms Q) : jM g mX9_tellSynchronised [.inr (.inr (o0))] h mc ms Q := jM.of (by decide) (Nat.le_of_ble_eq_true rfl) (lv := [(0, .inr (.inr (o0)))]) rfl (vX9_tellSynchronised_0 hv)
theorem dX9_tellValue_0 : decode cX9_tellValue 0 = .ok (.aload_n 0, 1) := by decide +kernel
theorem dX9_tellValue_1 : decode cX9_tellValue 1 = .ok (.invokevirtual 261, 3) := by decide +kernel
theorem dX9_tellValue_4 : decode cX9_tellValue 4 = .ok (.ifCond .eq 17, 3) := by decide +kernel
theorem dX9_tellValue_7 : decode cX9_tellValue 7 = .ok (.aload_n 0, 1) := by decide +kernel
theorem dX9_tellValue_8 : decode cX9_tellValue 8 = .ok (.getfield 265, 3) := by decide +kernel
theorem dX9_tellValue_11 : decode cX9_tellValue 11 = .ok (.ifCond .ne 10, 3) := by decide +kernel
theorem dX9_tellValue_14 : decode cX9_tellValue 14 = .ok (.aload_n 0, 1) := by decide +kernel
theorem dX9_tellValue_15 : decode cX9_tellValue 15 = .ok (.invokevirtual 268, 3) := by decide +kernel
theorem dX9_tellValue_18 : decode cX9_tellValue 18 = .ok (.ifCond .eq 5, 3) := by decide +kernel
theorem dX9_tellValue_21 : decode cX9_tellValue 21 = .ok (.iconst 0, 1) := by decide +kernel
theorem dX9_tellValue_22 : decode cX9_tellValue 22 = .ok (.ireturn, 1) := by decide +kernel
theorem dX9_tellValue_23 : decode cX9_tellValue 23 = .ok (.aload_n 0, 1) := by decide +kernel
theorem dX9_tellValue_24 : decode cX9_tellValue 24 = .ok (.getfield 271, 3) := by decide +kernel
theorem dX9_tellValue_27 : decode cX9_tellValue 27 = .ok (.iload_n 1, 1) := by decide +kernel
theorem dX9_tellValue_28 : decode cX9_tellValue 28 = .ok (.invokestatic 274, 3) := by decide +kernel
theorem dX9_tellValue_31 : decode cX9_tellValue 31 = .ok (.ifCond .ne 5, 3) := by decide +kernel
theorem dX9_tellValue_34 : decode cX9_tellValue 34 = .ok (.iconst 0, 1) := by decide +kernel
theorem dX9_tellValue_35 : decode cX9_tellValue 35 = .ok (.ireturn, 1) := by decide +kernel
theorem dX9_tellValue_36 : decode cX9_tellValue 36 = .ok (.aload_n 0, 1) := by decide +kernel
theorem dX9_tellValue_37 : decode cX9_tellValue 37 = .ok (.iconst 1, 1) := by decide +kernel
theorem dX9_tellValue_38 : decode cX9_tellValue 38 = .ok (.putfield 265, 3) := by decide +kernel
theorem dX9_tellValue_41 : decode cX9_tellValue 41 = .ok (.aload_n 0, 1) := by decide +kernel
theorem dX9_tellValue_42 : decode cX9_tellValue 42 = .ok (.iload_n 1, 1) := by decide +kernel
theorem dX9_tellValue_43 : decode cX9_tellValue 43 = .ok (.putfield 278, 3) := by decide +kernel
theorem dX9_tellValue_46 : decode cX9_tellValue 46 = .ok (.iconst 1, 1) := by decide +kernel
theorem dX9_tellValue_47 : decode cX9_tellValue 47 = .ok (.ireturn, 1) := by decide +kernel
def VX9_tellValue_0 (g : jg) (o0 : Option Nat) (x1 : Int32) (h : jh) (k n : Nat) (Q : jq) : Prop := (¬ (o0) = none) ∧ (jt h (jd (o0)) = 1) ∧ jM g mX0_isNumber [.inr (.inr (some (jd (o0))))] h 0 0 (jki (fun (r3 : Int32) (h4 : jh) => (((r3) = 0 → Q (.inl (some (.inl (0)))) h4) ∧ (¬ (r3) = 0 → (jt h4 (jd (o0)) = 1) ∧ ((¬ (ji h4 12 (jd (o0))) = 0 → Q (.inl (some (.inl (0)))) h4) ∧ ((ji h4 12 (jd (o0))) = 0 → jM g mX0_liesInRedefining [.inr (.inr (some (jd (o0))))] h4 0 0 (jki (fun (r8 : Int32) (h9 : jh) => (((r8) = 0 → (jt h9 (jd (o0)) = 1) ∧ jM g mX2_hasRoomFor [.inl (ji h9 3 (jd (o0))), .inl (x1)] h9 0 0 (jki (fun (r12 : Int32) (h13 : jh) => ((¬ (r12) = 0 → (jt h13 (jd (o0)) = 1) ∧ ∀ h16 : jh, h16 = jsi h13 12 (jd (o0)) (1) → ∀ h18 : jh, h18 = jsi h16 13 (jd (o0)) (x1) → Q (.inl (some (.inl (1)))) h18) ∧ ((r12) = 0 → Q (.inl (some (.inl (0)))) h13))) (fun e h9 => Q (.inr e) h9))) ∧ (¬ (r8) = 0 → Q (.inl (some (.inl (0)))) h9))) (fun e h9 => Q (.inr e) h9))))))) (fun e h9 => Q (.inr e) h9))
set_option maxRecDepth 20000 in
theorem vX9_tellValue_0 {g : jg} {o0 : Option Nat} {x1 : Int32} {h : jh} {k n : Nat} {Q : jq} (hv : VX9_tellValue_0 g o0 x1 h k n Q) : jG g mX9_tellValue 0 [(0, .inr (.inr (o0))), (1, .inl (x1))] [] h k n Q := by
  unfold VX9_tellValue_0 at hv
  refine jg_aload_n dX9_tellValue_0 rfl (List.Mem.head _) ?_
  obtain ⟨f1, hv⟩ := hv
  obtain ⟨f2, hv⟩ := hv
  refine jp_callV mX0_isNumber [] [] dX9_tellValue_1 rfl cl_RX9_261 ⟨⟨by decide, by decide⟩, by decide⟩ f1 f2 (Nat.zero_le _) (Nat.zero_le _) (jM.mono (jki_k (fun r3 h4 hv => ?_)) hv)
  refine jg_if_eq (tgt := 21) dX9_tellValue_4 (by decide) (fun c5 => ?_) (fun c5 => ?_)
  · replace hv := hv.1 c5
    refine jg_iconst (v := 0) dX9_tellValue_21 (by decide) ?_
    exact jg_bret dX9_tellValue_22 rfl (by decide) hv
  · replace hv := hv.2 c5
    refine jg_aload_n dX9_tellValue_7 rfl (List.Mem.head _) ?_
    obtain ⟨f6, hv⟩ := hv
    refine jg_geti dX9_tellValue_8 fl_RX9_265 rfl f1 f6 ?_
    refine jg_if_ne (tgt := 21) dX9_tellValue_11 (by decide) (fun c7 => ?_) (fun c7 => ?_)
    · replace hv := hv.1 c7
      refine jg_iconst (v := 0) dX9_tellValue_21 (by decide) ?_
      exact jg_bret dX9_tellValue_22 rfl (by decide) hv
    · replace hv := hv.2 c7
      refine jg_aload_n dX9_tellValue_14 rfl (List.Mem.head _) ?_
      refine jp_callV mX0_liesInRedefining [] [] dX9_tellValue_15 rfl cl_RX9_268 ⟨⟨by decide, by decide⟩, by decide⟩ f1 f6 (Nat.zero_le _) (Nat.zero_le _) (jM.mono (jki_k (fun r8 h9 hv => ?_)) hv)
      refine jg_if_eq (tgt := 23) dX9_tellValue_18 (by decide) (fun c10 => ?_) (fun c10 => ?_)
      · replace hv := hv.1 c10
        refine jg_aload_n dX9_tellValue_23 rfl (List.Mem.head _) ?_
        obtain ⟨f11, hv⟩ := hv
        refine jg_geti dX9_tellValue_24 fl_RX9_271 rfl f1 f11 ?_
        refine jg_iload_n dX9_tellValue_27 rfl (List.Mem.tail _ (List.Mem.head _)) ?_
        refine jg_callS mX2_hasRoomFor [.inl (ji h9 3 (jd (o0))), .inl (x1)] [] dX9_tellValue_28 rfl cl_RX9_274 ⟨⟨by decide, by decide⟩, by decide⟩ (Nat.zero_le _) (Nat.zero_le _) (jM.mono (jki_k (fun r12 h13 hv => ?_)) hv)
        refine jg_if_ne (tgt := 36) dX9_tellValue_31 (by decide) (fun c14 => ?_) (fun c14 => ?_)
        · replace hv := hv.1 c14
          refine jg_aload_n dX9_tellValue_36 rfl (List.Mem.head _) ?_
          refine jg_iconst (v := 1) dX9_tellValue_37 (by decide) ?_
          obtain ⟨f15, hv⟩ := hv
          obtain ⟨h16, e17⟩ : ∃ z : jh, z = jsi h13 12 (jd (o0)) (1) := ⟨_, rfl⟩
          replace hv := hv h16 e17
          refine jp_putz dX9_tellValue_38 (jfp.nf fl_RX9_265 (fun q hq => by cases hq; rfl)) rfl f1 f15 (by decide) e17 ?_
          refine jg_aload_n dX9_tellValue_41 rfl (List.Mem.head _) ?_
          refine jg_iload_n dX9_tellValue_42 rfl (List.Mem.tail _ (List.Mem.head _)) ?_
          obtain ⟨h18, e19⟩ : ∃ z : jh, z = jsi h16 13 (jd (o0)) (x1) := ⟨_, rfl⟩
          replace hv := hv h18 e19
          refine jp_puti dX9_tellValue_43 (jfp.nf fl_RX9_278 (fun q hq => by cases hq; rfl)) rfl f1 ((congrArg (fun z => jt z (jd (o0))) e17).trans f15) e19 ?_
          refine jg_iconst (v := 1) dX9_tellValue_46 (by decide) ?_
          exact jg_bret dX9_tellValue_47 rfl (by decide) hv
        · replace hv := hv.2 c14
          refine jg_iconst (v := 0) dX9_tellValue_34 (by decide) ?_
          exact jg_bret dX9_tellValue_35 rfl (by decide) hv
      · replace hv := hv.2 c10
        refine jg_iconst (v := 0) dX9_tellValue_21 (by decide) ?_
        exact jg_bret dX9_tellValue_22 rfl (by decide) hv
theorem eX9_tellValue {g : jg} {o0 : Option Nat} {x1 : Int32} {h : jh} {mc ms : Nat} {Q : jq} (hv : VX9_tellValue_0 g o0 x1 h mc ms Q) : jM g mX9_tellValue [.inr (.inr (o0)), .inl (x1)] h mc ms Q := jM.of (by decide) (Nat.le_of_ble_eq_true rfl) (lv := [(0, .inr (.inr (o0))), (1, .inl (x1))]) rfl (vX9_tellValue_0 hv)
theorem dX9_tellRange_0 : decode cX9_tellRange 0 = .ok (.aload_n 0, 1) := by decide +kernel
theorem dX9_tellRange_1 : decode cX9_tellRange 1 = .ok (.getfield 171, 3) := by decide +kernel
theorem dX9_tellRange_4 : decode cX9_tellRange 4 = .ok (.bipush 88, 2) := by decide +kernel
theorem dX9_tellRange_6 : decode cX9_tellRange 6 = .ok (.if_icmp .eq 5, 3) := by decide +kernel
theorem dX9_tellRange_9 : decode cX9_tellRange 9 = .ok (.iconst 0, 1) := by decide +kernel
theorem dX9_tellRange_10 : decode cX9_tellRange 10 = .ok (.ireturn, 1) := by decide +kernel
theorem dX9_tellRange_11 : decode cX9_tellRange 11 = .ok (.aload_n 0, 1) := by decide +kernel
theorem dX9_tellRange_12 : decode cX9_tellRange 12 = .ok (.getfield 209, 3) := by decide +kernel
theorem dX9_tellRange_15 : decode cX9_tellRange 15 = .ok (.ifnonnull 14, 3) := by decide +kernel
theorem dX9_tellRange_18 : decode cX9_tellRange 18 = .ok (.aload_n 0, 1) := by decide +kernel
theorem dX9_tellRange_19 : decode cX9_tellRange 19 = .ok (.new 214, 3) := by decide +kernel
theorem dX9_tellRange_22 : decode cX9_tellRange 22 = .ok (.dup, 1) := by decide +kernel
theorem dX9_tellRange_23 : decode cX9_tellRange 23 = .ok (.invokespecial 281, 3) := by decide +kernel
theorem dX9_tellRange_26 : decode cX9_tellRange 26 = .ok (.putfield 209, 3) := by decide +kernel
theorem dX9_tellRange_29 : decode cX9_tellRange 29 = .ok (.aload_n 0, 1) := by decide +kernel
theorem dX9_tellRange_30 : decode cX9_tellRange 30 = .ok (.getfield 209, 3) := by decide +kernel
theorem dX9_tellRange_33 : decode cX9_tellRange 33 = .ok (.iload_n 1, 1) := by decide +kernel
theorem dX9_tellRange_34 : decode cX9_tellRange 34 = .ok (.iload_n 2, 1) := by decide +kernel
theorem dX9_tellRange_35 : decode cX9_tellRange 35 = .ok (.invokevirtual 282, 3) := by decide +kernel
theorem dX9_tellRange_38 : decode cX9_tellRange 38 = .ok (.ireturn, 1) := by decide +kernel
def VX9_tellRange_0 (g : jg) (o0 : Option Nat) (x1 : Int32) (x2 : Int32) (h : jh) (k n : Nat) (Q : jq) : Prop := (¬ (o0) = none) ∧ (jt h (jd (o0)) = 1) ∧ (((ji h 1 (jd (o0))) = (88) → ((¬ (jr h 14 (jd (o0))) = none → (jt h (jd (jr h 14 (jd (o0)))) = 3) ∧ jM g mX4_add [.inr (.inr (some (jd (jr h 14 (jd (o0)))))), .inl (x1), .inl (x2)] h 0 0 (jki (fun (r6 : Int32) (h7 : jh) => ((r6) = 0 ∨ (r6) = 1) ∧ Q (.inl (some (.inl (r6)))) h7) (fun e h9 => Q (.inr e) h9))) ∧ ((jr h 14 (jd (o0))) = none → (1 ≤ k) ∧ (3 ≤ n) ∧ ∀ h11 : jh, h11 = jmk h 3 0 → ∃ mc15 ms16 : Nat, mc15 ≤ (k - 1) ∧ ms16 ≤ (n - 3) ∧ jM g mX4_init [.inr (.inr (some (jz h)))] h11 mc15 ms16 (jkv (fun (h14 : jh) => (jt h14 (jd (o0)) = 1) ∧ ∀ h20 : jh, h20 = jsr h14 14 (jd (o0)) (some (jz h)) → (¬ (jr h20 14 (jd (o0))) = none) ∧ (jt h20 (jd (jr h20 14 (jd (o0)))) = 3) ∧ jM g mX4_add [.inr (.inr (some (jd (jr h20 14 (jd (o0)))))), .inl (x1), .inl (x2)] h20 0 0 (jki (fun (r24 : Int32) (h25 : jh) => ((r24) = 0 ∨ (r24) = 1) ∧ Q (.inl (some (.inl (r24)))) h25) (fun e h9 => Q (.inr e) h9))) (fun _ _ => False))))) ∧ (¬ (ji h 1 (jd (o0))) = (88) → Q (.inl (some (.inl (0)))) h))
set_option maxRecDepth 20000 in
theorem vX9_tellRange_0 {g : jg} {o0 : Option Nat} {x1 : Int32} {x2 : Int32} {h : jh} {k n : Nat} {Q : jq} (hv : VX9_tellRange_0 g o0 x1 x2 h k n Q) : jG g mX9_tellRange 0 [(0, .inr (.inr (o0))), (1, .inl (x1)), (2, .inl (x2))] [] h k n Q := by
  unfold VX9_tellRange_0 at hv
  refine jg_aload_n dX9_tellRange_0 rfl (List.Mem.head _) ?_
  obtain ⟨f1, hv⟩ := hv
  obtain ⟨f2, hv⟩ := hv
  refine jg_geti dX9_tellRange_1 fl_RX9_171 rfl f1 f2 ?_
  refine jg_bipush (v := 88) dX9_tellRange_4 (by decide) ?_
  refine jg_icmp_eq (tgt := 11) dX9_tellRange_6 (by decide) (fun c3 => ?_) (fun c3 => ?_)
  · replace hv := hv.1 c3
    refine jg_aload_n dX9_tellRange_11 rfl (List.Mem.head _) ?_
    refine jg_getr dX9_tellRange_12 fl_RX9_209 rfl f1 f2 ?_
    refine jg_ifnonnull (tgt := 29) dX9_tellRange_15 (by decide) (fun c4 => ?_) (fun c4 => ?_)
    · replace hv := hv.1 c4
      refine jg_aload_n dX9_tellRange_29 rfl (List.Mem.head _) ?_
      refine jg_getr dX9_tellRange_30 fl_RX9_209 rfl f1 f2 ?_
      refine jg_iload_n dX9_tellRange_33 rfl (List.Mem.tail _ (List.Mem.head _)) ?_
      refine jg_iload_n dX9_tellRange_34 rfl (List.Mem.tail _ (List.Mem.tail _ (List.Mem.head _))) ?_
      obtain ⟨f5, hv⟩ := hv
      refine jp_callV mX4_add [.inl (x1), .inl (x2)] [] dX9_tellRange_35 rfl cl_RX9_282 ⟨⟨by decide, by decide⟩, by decide⟩ c4 f5 (Nat.zero_le _) (Nat.zero_le _) (jM.mono (jki_k (fun r6 h7 hv => ?_)) hv)
      obtain ⟨f8, hv⟩ := hv
      exact jg_bret dX9_tellRange_38 rfl f8 hv
    · replace hv := hv.2 c4
      refine jg_aload_n dX9_tellRange_18 rfl (List.Mem.head _) ?_
      obtain ⟨f9, hv⟩ := hv
      obtain ⟨f10, hv⟩ := hv
      obtain ⟨h11, e12⟩ : ∃ z : jh, z = jmk h 3 0 := ⟨_, rfl⟩
      replace hv := hv h11 e12
      refine jp_new dX9_tellRange_19 nl_RX9_214 f9 f10 e12 ?_
      refine jg_dup dX9_tellRange_22 rfl ?_
      obtain ⟨mc15, ms16, f17, f18, hv⟩ := hv
      refine jg_callN mX4_init [] [.inr (.inr (some (jz h))), .inr (.inr (o0))] dX9_tellRange_23 rfl cl_RX9_281 ⟨⟨by decide, by decide⟩, jcat_le _ (Nat.le_of_ble_eq_true rfl)⟩ f17 f18 (jM.mono (jkv_k (fun h14 hv => ?_)) hv)
      obtain ⟨f19, hv⟩ := hv
      obtain ⟨h20, e21⟩ : ∃ z : jh, z = jsr h14 14 (jd (o0)) (some (jz h)) := ⟨_, rfl⟩
      replace hv := hv h20 e21
      refine jp_putr dX9_tellRange_26 (jfp.nf fl_RX9_209 (fun q hq => by cases hq; rfl)) rfl f1 f19 e21 ?_
      refine jg_aload_n dX9_tellRange_29 rfl (List.Mem.head _) ?_
      refine jg_getr dX9_tellRange_30 fl_RX9_209 rfl f1 ((congrArg (fun z => jt z (jd (o0))) e21).trans f19) ?_
      refine jg_iload_n dX9_tellRange_33 rfl (List.Mem.tail _ (List.Mem.head _)) ?_
      refine jg_iload_n dX9_tellRange_34 rfl (List.Mem.tail _ (List.Mem.tail _ (List.Mem.head _))) ?_
      obtain ⟨f22, hv⟩ := hv
      obtain ⟨f23, hv⟩ := hv
      refine jp_callV mX4_add [.inl (x1), .inl (x2)] [] dX9_tellRange_35 rfl cl_RX9_282 ⟨⟨by decide, by decide⟩, by decide⟩ f22 f23 (Nat.zero_le _) (Nat.zero_le _) (jM.mono (jki_k (fun r24 h25 hv => ?_)) hv)
      obtain ⟨f26, hv⟩ := hv
      exact jg_bret dX9_tellRange_38 rfl f26 hv
  · replace hv := hv.2 c3
    refine jg_iconst (v := 0) dX9_tellRange_9 (by decide) ?_
    exact jg_bret dX9_tellRange_10 rfl (by decide) hv
theorem eX9_tellRange {g : jg} {o0 : Option Nat} {x1 : Int32} {x2 : Int32} {h : jh} {mc ms : Nat} {Q : jq} (hv : VX9_tellRange_0 g o0 x1 x2 h mc ms Q) : jM g mX9_tellRange [.inr (.inr (o0)), .inl (x1), .inl (x2)] h mc ms Q := jM.of (by decide) (Nat.le_of_ble_eq_true rfl) (lv := [(0, .inr (.inr (o0))), (1, .inl (x1)), (2, .inl (x2))]) rfl (vX9_tellRange_0 hv)
theorem dX9_tellPart_0 : decode cX9_tellPart 0 = .ok (.aload_n 0, 1) := by decide +kernel
theorem dX9_tellPart_1 : decode cX9_tellPart 1 = .ok (.getfield 171, 3) := by decide +kernel
theorem dX9_tellPart_4 : decode cX9_tellPart 4 = .ok (.bipush 66, 2) := by decide +kernel
theorem dX9_tellPart_6 : decode cX9_tellPart 6 = .ok (.if_icmp .ne 18, 3) := by decide +kernel
theorem dX9_tellPart_9 : decode cX9_tellPart 9 = .ok (.aload_n 0, 1) := by decide +kernel
theorem dX9_tellPart_10 : decode cX9_tellPart 10 = .ok (.getfield 284, 3) := by decide +kernel
theorem dX9_tellPart_13 : decode cX9_tellPart 13 = .ok (.ifnonnull 11, 3) := by decide +kernel
theorem dX9_tellPart_16 : decode cX9_tellPart 16 = .ok (.aload_n 1, 1) := by decide +kernel
theorem dX9_tellPart_17 : decode cX9_tellPart 17 = .ok (.ifnull 7, 3) := by decide +kernel
theorem dX9_tellPart_20 : decode cX9_tellPart 20 = .ok (.aload_n 2, 1) := by decide +kernel
theorem dX9_tellPart_21 : decode cX9_tellPart 21 = .ok (.ifnonnull 5, 3) := by decide +kernel
theorem dX9_tellPart_24 : decode cX9_tellPart 24 = .ok (.iconst 0, 1) := by decide +kernel
theorem dX9_tellPart_25 : decode cX9_tellPart 25 = .ok (.ireturn, 1) := by decide +kernel
theorem dX9_tellPart_26 : decode cX9_tellPart 26 = .ok (.aload_n 1, 1) := by decide +kernel
theorem dX9_tellPart_27 : decode cX9_tellPart 27 = .ok (.invokevirtual 287, 3) := by decide +kernel
theorem dX9_tellPart_30 : decode cX9_tellPart 30 = .ok (.ifCond .eq 32, 3) := by decide +kernel
theorem dX9_tellPart_33 : decode cX9_tellPart 33 = .ok (.aload_n 1, 1) := by decide +kernel
theorem dX9_tellPart_34 : decode cX9_tellPart 34 = .ok (.getfield 290, 3) := by decide +kernel
theorem dX9_tellPart_37 : decode cX9_tellPart 37 = .ok (.aload_n 0, 1) := by decide +kernel
theorem dX9_tellPart_38 : decode cX9_tellPart 38 = .ok (.getfield 290, 3) := by decide +kernel
theorem dX9_tellPart_41 : decode cX9_tellPart 41 = .ok (.if_acmp .ne 21, 3) := by decide +kernel
theorem dX9_tellPart_44 : decode cX9_tellPart 44 = .ok (.aload_n 2, 1) := by decide +kernel
theorem dX9_tellPart_45 : decode cX9_tellPart 45 = .ok (.invokevirtual 287, 3) := by decide +kernel
theorem dX9_tellPart_48 : decode cX9_tellPart 48 = .ok (.ifCond .eq 14, 3) := by decide +kernel
theorem dX9_tellPart_51 : decode cX9_tellPart 51 = .ok (.aload_n 2, 1) := by decide +kernel
theorem dX9_tellPart_52 : decode cX9_tellPart 52 = .ok (.getfield 290, 3) := by decide +kernel
theorem dX9_tellPart_55 : decode cX9_tellPart 55 = .ok (.aload_n 0, 1) := by decide +kernel
theorem dX9_tellPart_56 : decode cX9_tellPart 56 = .ok (.getfield 290, 3) := by decide +kernel
theorem dX9_tellPart_59 : decode cX9_tellPart 59 = .ok (.if_acmp .eq 5, 3) := by decide +kernel
theorem dX9_tellPart_62 : decode cX9_tellPart 62 = .ok (.iconst 0, 1) := by decide +kernel
theorem dX9_tellPart_63 : decode cX9_tellPart 63 = .ok (.ireturn, 1) := by decide +kernel
theorem dX9_tellPart_64 : decode cX9_tellPart 64 = .ok (.aload_n 2, 1) := by decide +kernel
theorem dX9_tellPart_65 : decode cX9_tellPart 65 = .ok (.getfield 293, 3) := by decide +kernel
theorem dX9_tellPart_68 : decode cX9_tellPart 68 = .ok (.aload_n 1, 1) := by decide +kernel
theorem dX9_tellPart_69 : decode cX9_tellPart 69 = .ok (.getfield 293, 3) := by decide +kernel
theorem dX9_tellPart_72 : decode cX9_tellPart 72 = .ok (.if_icmp .lt 11, 3) := by decide +kernel
theorem dX9_tellPart_75 : decode cX9_tellPart 75 = .ok (.aload_n 2, 1) := by decide +kernel
theorem dX9_tellPart_76 : decode cX9_tellPart 76 = .ok (.aload_n 1, 1) := by decide +kernel
theorem dX9_tellPart_77 : decode cX9_tellPart 77 = .ok (.invokevirtual 296, 3) := by decide +kernel
theorem dX9_tellPart_80 : decode cX9_tellPart 80 = .ok (.ifCond .eq 5, 3) := by decide +kernel
theorem dX9_tellPart_83 : decode cX9_tellPart 83 = .ok (.iconst 0, 1) := by decide +kernel
theorem dX9_tellPart_84 : decode cX9_tellPart 84 = .ok (.ireturn, 1) := by decide +kernel
theorem dX9_tellPart_85 : decode cX9_tellPart 85 = .ok (.aload_n 0, 1) := by decide +kernel
theorem dX9_tellPart_86 : decode cX9_tellPart 86 = .ok (.aload_n 1, 1) := by decide +kernel
theorem dX9_tellPart_87 : decode cX9_tellPart 87 = .ok (.putfield 284, 3) := by decide +kernel
theorem dX9_tellPart_90 : decode cX9_tellPart 90 = .ok (.aload_n 0, 1) := by decide +kernel
theorem dX9_tellPart_91 : decode cX9_tellPart 91 = .ok (.aload_n 2, 1) := by decide +kernel
theorem dX9_tellPart_92 : decode cX9_tellPart 92 = .ok (.putfield 299, 3) := by decide +kernel
theorem dX9_tellPart_95 : decode cX9_tellPart 95 = .ok (.iconst 1, 1) := by decide +kernel
theorem dX9_tellPart_96 : decode cX9_tellPart 96 = .ok (.ireturn, 1) := by decide +kernel
def VX9_tellPart_0 (g : jg) (o0 : Option Nat) (o1 : Option Nat) (o2 : Option Nat) (h : jh) (k n : Nat) (Q : jq) : Prop := (¬ (o0) = none) ∧ (jt h (jd (o0)) = 1) ∧ ((¬ (ji h 1 (jd (o0))) = (66) → Q (.inl (some (.inl (0)))) h) ∧ ((ji h 1 (jd (o0))) = (66) → ((¬ (jr h 15 (jd (o0))) = none → Q (.inl (some (.inl (0)))) h) ∧ ((jr h 15 (jd (o0))) = none → (((o1) = none → Q (.inl (some (.inl (0)))) h) ∧ (¬ (o1) = none → ((¬ (o2) = none → (jt h (jd (o1)) = 1) ∧ jM g mX0_isInner [.inr (.inr (some (jd (o1))))] h 0 0 (jki (fun (r8 : Int32) (h9 : jh) => (((r8) = 0 → Q (.inl (some (.inl (0)))) h9) ∧ (¬ (r8) = 0 → (jt h9 (jd (o1)) = 1) ∧ (jt h9 (jd (o0)) = 1) ∧ ((¬ (jr h9 8 (jd (o1))) = (jr h9 8 (jd (o0))) → Q (.inl (some (.inl (0)))) h9) ∧ ((jr h9 8 (jd (o1))) = (jr h9 8 (jd (o0))) → (jt h9 (jd (o2)) = 1) ∧ jM g mX0_isInner [.inr (.inr (some (jd (o2))))] h9 0 0 (jki (fun (r15 : Int32) (h16 : jh) => (((r15) = 0 → Q (.inl (some (.inl (0)))) h16) ∧ (¬ (r15) = 0 → (jt h16 (jd (o2)) = 1) ∧ (jt h16 (jd (o0)) = 1) ∧ (((jr h16 8 (jd (o2))) = (jr h16 8 (jd (o0))) → (jt h16 (jd (o1)) = 1) ∧ (((ji h16 0 (jd (o2))) < (ji h16 0 (jd (o1))) → Q (.inl (some (.inl (0)))) h16) ∧ (¬ (ji h16 0 (jd (o2))) < (ji h16 0 (jd (o1))) → jM g mX0_isBelow [.inr (.inr (some (jd (o2)))), .inr (.inr (o1))] h16 0 0 (jki (fun (r23 : Int32) (h24 : jh) => (((r23) = 0 → (jt h24 (jd (o0)) = 1) ∧ ∀ h27 : jh, h27 = jsr h24 15 (jd (o0)) (o1) → ∀ h29 : jh, h29 = jsr h27 16 (jd (o0)) (o2) → Q (.inl (some (.inl (1)))) h29) ∧ (¬ (r23) = 0 → Q (.inl (some (.inl (0)))) h24))) (fun e h9 => Q (.inr e) h9))))) ∧ (¬ (jr h16 8 (jd (o2))) = (jr h16 8 (jd (o0))) → Q (.inl (some (.inl (0)))) h16))))) (fun e h9 => Q (.inr e) h9))))))) (fun e h9 => Q (.inr e) h9))) ∧ ((o2) = none → Q (.inl (some (.inl (0)))) h))))))))
set_option maxRecDepth 20000 in
theorem vX9_tellPart_0 {g : jg} {o0 : Option Nat} {o1 : Option Nat} {o2 : Option Nat} {h : jh} {k n : Nat} {Q : jq} (hv : VX9_tellPart_0 g o0 o1 o2 h k n Q) : jG g mX9_tellPart 0 [(0, .inr (.inr (o0))), (1, .inr (.inr (o1))), (2, .inr (.inr (o2)))] [] h k n Q := by
  unfold VX9_tellPart_0 at hv
  refine jg_aload_n dX9_tellPart_0 rfl (List.Mem.head _) ?_
  obtain ⟨f1, hv⟩ := hv
  obtain ⟨f2, hv⟩ := hv
  refine jg_geti dX9_tellPart_1 fl_RX9_171 rfl f1 f2 ?_
  refine jg_bipush (v := 66) dX9_tellPart_4 (by decide) ?_
  refine jg_icmp_ne (tgt := 24) dX9_tellPart_6 (by decide) (fun c3 => ?_) (fun c3 => ?_)
  · replace hv := hv.1 c3
    refine jg_iconst (v := 0) dX9_tellPart_24 (by decide) ?_
    exact jg_bret dX9_tellPart_25 rfl (by decide) hv
  · replace hv := hv.2 c3
    refine jg_aload_n dX9_tellPart_9 rfl (List.Mem.head _) ?_
    refine jg_getr dX9_tellPart_10 fl_RX9_284 rfl f1 f2 ?_
    refine jg_ifnonnull (tgt := 24) dX9_tellPart_13 (by decide) (fun c4 => ?_) (fun c4 => ?_)
    · replace hv := hv.1 c4
      refine jg_iconst (v := 0) dX9_tellPart_24 (by decide) ?_
      exact jg_bret dX9_tellPart_25 rfl (by decide) hv
    · replace hv := hv.2 c4
      refine jg_aload_n dX9_tellPart_16 rfl (List.Mem.tail _ (List.Mem.head _)) ?_
      refine jg_ifnull (tgt := 24) dX9_tellPart_17 (by decide) (fun c5 => ?_) (fun c5 => ?_)
      · replace hv := hv.1 c5
        refine jg_iconst (v := 0) dX9_tellPart_24 (by decide) ?_
        exact jg_bret dX9_tellPart_25 rfl (by decide) hv
      · replace hv := hv.2 c5
        refine jg_aload_n dX9_tellPart_20 rfl (List.Mem.tail _ (List.Mem.tail _ (List.Mem.head _))) ?_
        refine jg_ifnonnull (tgt := 26) dX9_tellPart_21 (by decide) (fun c6 => ?_) (fun c6 => ?_)
        · replace hv := hv.1 c6
          refine jg_aload_n dX9_tellPart_26 rfl (List.Mem.tail _ (List.Mem.head _)) ?_
          obtain ⟨f7, hv⟩ := hv
          refine jp_callV mX0_isInner [] [] dX9_tellPart_27 rfl cl_RX9_287 ⟨⟨by decide, by decide⟩, by decide⟩ c5 f7 (Nat.zero_le _) (Nat.zero_le _) (jM.mono (jki_k (fun r8 h9 hv => ?_)) hv)
          refine jg_if_eq (tgt := 62) dX9_tellPart_30 (by decide) (fun c10 => ?_) (fun c10 => ?_)
          · replace hv := hv.1 c10
            refine jg_iconst (v := 0) dX9_tellPart_62 (by decide) ?_
            exact jg_bret dX9_tellPart_63 rfl (by decide) hv
          · replace hv := hv.2 c10
            refine jg_aload_n dX9_tellPart_33 rfl (List.Mem.tail _ (List.Mem.head _)) ?_
            obtain ⟨f11, hv⟩ := hv
            refine jg_getr dX9_tellPart_34 fl_RX9_290 rfl c5 f11 ?_
            refine jg_aload_n dX9_tellPart_37 rfl (List.Mem.head _) ?_
            obtain ⟨f12, hv⟩ := hv
            refine jg_getr dX9_tellPart_38 fl_RX9_290 rfl f1 f12 ?_
            refine jg_acmp_ne (tgt := 62) dX9_tellPart_41 (by decide) (fun c13 => ?_) (fun c13 => ?_)
            · replace hv := hv.1 c13
              refine jg_iconst (v := 0) dX9_tellPart_62 (by decide) ?_
              exact jg_bret dX9_tellPart_63 rfl (by decide) hv
            · replace hv := hv.2 c13
              refine jg_aload_n dX9_tellPart_44 rfl (List.Mem.tail _ (List.Mem.tail _ (List.Mem.head _))) ?_
              obtain ⟨f14, hv⟩ := hv
              refine jp_callV mX0_isInner [] [] dX9_tellPart_45 rfl cl_RX9_287 ⟨⟨by decide, by decide⟩, by decide⟩ c6 f14 (Nat.zero_le _) (Nat.zero_le _) (jM.mono (jki_k (fun r15 h16 hv => ?_)) hv)
              refine jg_if_eq (tgt := 62) dX9_tellPart_48 (by decide) (fun c17 => ?_) (fun c17 => ?_)
              · replace hv := hv.1 c17
                refine jg_iconst (v := 0) dX9_tellPart_62 (by decide) ?_
                exact jg_bret dX9_tellPart_63 rfl (by decide) hv
              · replace hv := hv.2 c17
                refine jg_aload_n dX9_tellPart_51 rfl (List.Mem.tail _ (List.Mem.tail _ (List.Mem.head _))) ?_
                obtain ⟨f18, hv⟩ := hv
                refine jg_getr dX9_tellPart_52 fl_RX9_290 rfl c6 f18 ?_
                refine jg_aload_n dX9_tellPart_55 rfl (List.Mem.head _) ?_
                obtain ⟨f19, hv⟩ := hv
                refine jg_getr dX9_tellPart_56 fl_RX9_290 rfl f1 f19 ?_
                refine jg_acmp_eq (tgt := 64) dX9_tellPart_59 (by decide) (fun c20 => ?_) (fun c20 => ?_)
                · replace hv := hv.1 c20
                  refine jg_aload_n dX9_tellPart_64 rfl (List.Mem.tail _ (List.Mem.tail _ (List.Mem.head _))) ?_
                  refine jg_geti dX9_tellPart_65 fl_RX9_293 rfl c6 f18 ?_
                  refine jg_aload_n dX9_tellPart_68 rfl (List.Mem.tail _ (List.Mem.head _)) ?_
                  obtain ⟨f21, hv⟩ := hv
                  refine jg_geti dX9_tellPart_69 fl_RX9_293 rfl c5 f21 ?_
                  refine jg_icmp_lt (tgt := 83) dX9_tellPart_72 (by decide) (fun c22 => ?_) (fun c22 => ?_)
                  · replace hv := hv.1 c22
                    refine jg_iconst (v := 0) dX9_tellPart_83 (by decide) ?_
                    exact jg_bret dX9_tellPart_84 rfl (by decide) hv
                  · replace hv := hv.2 c22
                    refine jg_aload_n dX9_tellPart_75 rfl (List.Mem.tail _ (List.Mem.tail _ (List.Mem.head _))) ?_
                    refine jg_aload_n dX9_tellPart_76 rfl (List.Mem.tail _ (List.Mem.head _)) ?_
                    refine jp_callV mX0_isBelow [.inr (.inr (o1))] [] dX9_tellPart_77 rfl cl_RX9_296 ⟨⟨by decide, by decide⟩, by decide⟩ c6 f18 (Nat.zero_le _) (Nat.zero_le _) (jM.mono (jki_k (fun r23 h24 hv => ?_)) hv)
                    refine jg_if_eq (tgt := 85) dX9_tellPart_80 (by decide) (fun c25 => ?_) (fun c25 => ?_)
                    · replace hv := hv.1 c25
                      refine jg_aload_n dX9_tellPart_85 rfl (List.Mem.head _) ?_
                      refine jg_aload_n dX9_tellPart_86 rfl (List.Mem.tail _ (List.Mem.head _)) ?_
                      obtain ⟨f26, hv⟩ := hv
                      obtain ⟨h27, e28⟩ : ∃ z : jh, z = jsr h24 15 (jd (o0)) (o1) := ⟨_, rfl⟩
                      replace hv := hv h27 e28
                      refine jp_putr dX9_tellPart_87 (jfp.nf fl_RX9_284 (fun q hq => by cases hq; rfl)) rfl f1 f26 e28 ?_
                      refine jg_aload_n dX9_tellPart_90 rfl (List.Mem.head _) ?_
                      refine jg_aload_n dX9_tellPart_91 rfl (List.Mem.tail _ (List.Mem.tail _ (List.Mem.head _))) ?_
                      obtain ⟨h29, e30⟩ : ∃ z : jh, z = jsr h27 16 (jd (o0)) (o2) := ⟨_, rfl⟩
                      replace hv := hv h29 e30
                      refine jp_putr dX9_tellPart_92 (jfp.nf fl_RX9_299 (fun q hq => by cases hq; rfl)) rfl f1 ((congrArg (fun z => jt z (jd (o0))) e28).trans f26) e30 ?_
                      refine jg_iconst (v := 1) dX9_tellPart_95 (by decide) ?_
                      exact jg_bret dX9_tellPart_96 rfl (by decide) hv
                    · replace hv := hv.2 c25
                      refine jg_iconst (v := 0) dX9_tellPart_83 (by decide) ?_
                      exact jg_bret dX9_tellPart_84 rfl (by decide) hv
                · replace hv := hv.2 c20
                  refine jg_iconst (v := 0) dX9_tellPart_62 (by decide) ?_
                  exact jg_bret dX9_tellPart_63 rfl (by decide) hv
        · replace hv := hv.2 c6
          refine jg_iconst (v := 0) dX9_tellPart_24 (by decide) ?_
          exact jg_bret dX9_tellPart_25 rfl (by decide) hv
theorem eX9_tellPart {g : jg} {o0 : Option Nat} {o1 : Option Nat} {o2 : Option Nat} {h : jh} {mc ms : Nat} {Q : jq} (hv : VX9_tellPart_0 g o0 o1 o2 h mc ms Q) : jM g mX9_tellPart [.inr (.inr (o0)), .inr (.inr (o1)), .inr (.inr (o2))] h mc ms Q := jM.of (by decide) (Nat.le_of_ble_eq_true rfl) (lv := [(0, .inr (.inr (o0))), (1, .inr (.inr (o1))), (2, .inr (.inr (o2)))]) rfl (vX9_tellPart_0 hv)
theorem dX9_fillFirstEntries_0 : decode cX9_fillFirstEntries 0 = .ok (.iconst 1, 1) := by decide +kernel
theorem dX9_fillFirstEntries_1 : decode cX9_fillFirstEntries 1 = .ok (.istore_n 1, 1) := by decide +kernel
theorem dX9_fillFirstEntries_2 : decode cX9_fillFirstEntries 2 = .ok (.iload_n 1, 1) := by decide +kernel
theorem dX9_fillFirstEntries_3 : decode cX9_fillFirstEntries 3 = .ok (.aload_n 0, 1) := by decide +kernel
theorem dX9_fillFirstEntries_4 : decode cX9_fillFirstEntries 4 = .ok (.getfield 10, 3) := by decide +kernel
theorem dX9_fillFirstEntries_7 : decode cX9_fillFirstEntries 7 = .ok (.getfield 56, 3) := by decide +kernel
theorem dX9_fillFirstEntries_10 : decode cX9_fillFirstEntries 10 = .ok (.if_icmp .gt 105, 3) := by decide +kernel
theorem dX9_fillFirstEntries_13 : decode cX9_fillFirstEntries 13 = .ok (.aload_n 0, 1) := by decide +kernel
theorem dX9_fillFirstEntries_14 : decode cX9_fillFirstEntries 14 = .ok (.getfield 10, 3) := by decide +kernel
theorem dX9_fillFirstEntries_17 : decode cX9_fillFirstEntries 17 = .ok (.getfield 302, 3) := by decide +kernel
theorem dX9_fillFirstEntries_20 : decode cX9_fillFirstEntries 20 = .ok (.iload_n 1, 1) := by decide +kernel
theorem dX9_fillFirstEntries_21 : decode cX9_fillFirstEntries 21 = .ok (.aaload, 1) := by decide +kernel
theorem dX9_fillFirstEntries_22 : decode cX9_fillFirstEntries 22 = .ok (.astore_n 2, 1) := by decide +kernel
theorem dX9_fillFirstEntries_23 : decode cX9_fillFirstEntries 23 = .ok (.aload_n 2, 1) := by decide +kernel
theorem dX9_fillFirstEntries_24 : decode cX9_fillFirstEntries 24 = .ok (.invokevirtual 306, 3) := by decide +kernel
theorem dX9_fillFirstEntries_27 : decode cX9_fillFirstEntries 27 = .ok (.ifCond .eq 82, 3) := by decide +kernel
theorem dX9_fillFirstEntries_30 : decode cX9_fillFirstEntries 30 = .ok (.aload_n 2, 1) := by decide +kernel
theorem dX9_fillFirstEntries_31 : decode cX9_fillFirstEntries 31 = .ok (.getfield 104, 3) := by decide +kernel
theorem dX9_fillFirstEntries_34 : decode cX9_fillFirstEntries 34 = .ok (.getfield 309, 3) := by decide +kernel
theorem dX9_fillFirstEntries_37 : decode cX9_fillFirstEntries 37 = .ok (.ifCond .eq 6, 3) := by decide +kernel
theorem dX9_fillFirstEntries_40 : decode cX9_fillFirstEntries 40 = .ok (.goto 69, 3) := by decide +kernel
theorem dX9_fillFirstEntries_43 : decode cX9_fillFirstEntries 43 = .ok (.aload_n 2, 1) := by decide +kernel
theorem dX9_fillFirstEntries_44 : decode cX9_fillFirstEntries 44 = .ok (.getfield 104, 3) := by decide +kernel
theorem dX9_fillFirstEntries_47 : decode cX9_fillFirstEntries 47 = .ok (.getfield 110, 3) := by decide +kernel
theorem dX9_fillFirstEntries_50 : decode cX9_fillFirstEntries 50 = .ok (.l2i, 1) := by decide +kernel
theorem dX9_fillFirstEntries_51 : decode cX9_fillFirstEntries 51 = .ok (.istore_n 3, 1) := by decide +kernel
theorem dX9_fillFirstEntries_52 : decode cX9_fillFirstEntries 52 = .ok (.aload_n 2, 1) := by decide +kernel
theorem dX9_fillFirstEntries_53 : decode cX9_fillFirstEntries 53 = .ok (.getfield 255, 3) := by decide +kernel
theorem dX9_fillFirstEntries_56 : decode cX9_fillFirstEntries 56 = .ok (.iconst 1, 1) := by decide +kernel
theorem dX9_fillFirstEntries_57 : decode cX9_fillFirstEntries 57 = .ok (.if_icmp .ne 16, 3) := by decide +kernel
theorem dX9_fillFirstEntries_60 : decode cX9_fillFirstEntries 60 = .ok (.aload_n 0, 1) := by decide +kernel
theorem dX9_fillFirstEntries_61 : decode cX9_fillFirstEntries 61 = .ok (.iload_n 3, 1) := by decide +kernel
theorem dX9_fillFirstEntries_62 : decode cX9_fillFirstEntries 62 = .ok (.aload_n 2, 1) := by decide +kernel
theorem dX9_fillFirstEntries_63 : decode cX9_fillFirstEntries 63 = .ok (.getfield 312, 3) := by decide +kernel
theorem dX9_fillFirstEntries_66 : decode cX9_fillFirstEntries 66 = .ok (.iconst 1, 1) := by decide +kernel
theorem dX9_fillFirstEntries_67 : decode cX9_fillFirstEntries 67 = .ok (.invokevirtual 315, 3) := by decide +kernel
theorem dX9_fillFirstEntries_70 : decode cX9_fillFirstEntries 70 = .ok (.goto 39, 3) := by decide +kernel
theorem dX9_fillFirstEntries_73 : decode cX9_fillFirstEntries 73 = .ok (.aload_n 2, 1) := by decide +kernel
theorem dX9_fillFirstEntries_74 : decode cX9_fillFirstEntries 74 = .ok (.getfield 255, 3) := by decide +kernel
theorem dX9_fillFirstEntries_77 : decode cX9_fillFirstEntries 77 = .ok (.iconst 2, 1) := by decide +kernel
theorem dX9_fillFirstEntries_78 : decode cX9_fillFirstEntries 78 = .ok (.if_icmp .ne 16, 3) := by decide +kernel
theorem dX9_fillFirstEntries_81 : decode cX9_fillFirstEntries 81 = .ok (.aload_n 0, 1) := by decide +kernel
theorem dX9_fillFirstEntries_82 : decode cX9_fillFirstEntries 82 = .ok (.iload_n 3, 1) := by decide +kernel
theorem dX9_fillFirstEntries_83 : decode cX9_fillFirstEntries 83 = .ok (.aload_n 2, 1) := by decide +kernel
theorem dX9_fillFirstEntries_84 : decode cX9_fillFirstEntries 84 = .ok (.getfield 312, 3) := by decide +kernel
theorem dX9_fillFirstEntries_87 : decode cX9_fillFirstEntries 87 = .ok (.iconst 2, 1) := by decide +kernel
theorem dX9_fillFirstEntries_88 : decode cX9_fillFirstEntries 88 = .ok (.invokevirtual 315, 3) := by decide +kernel
theorem dX9_fillFirstEntries_91 : decode cX9_fillFirstEntries 91 = .ok (.goto 18, 3) := by decide +kernel
theorem dX9_fillFirstEntries_94 : decode cX9_fillFirstEntries 94 = .ok (.aload_n 2, 1) := by decide +kernel
theorem dX9_fillFirstEntries_95 : decode cX9_fillFirstEntries 95 = .ok (.invokevirtual 261, 3) := by decide +kernel
theorem dX9_fillFirstEntries_98 : decode cX9_fillFirstEntries 98 = .ok (.ifCond .eq 11, 3) := by decide +kernel
theorem dX9_fillFirstEntries_101 : decode cX9_fillFirstEntries 101 = .ok (.aload_n 0, 1) := by decide +kernel
theorem dX9_fillFirstEntries_102 : decode cX9_fillFirstEntries 102 = .ok (.getfield 28, 3) := by decide +kernel
theorem dX9_fillFirstEntries_105 : decode cX9_fillFirstEntries 105 = .ok (.aload_n 2, 1) := by decide +kernel
theorem dX9_fillFirstEntries_106 : decode cX9_fillFirstEntries 106 = .ok (.invokestatic 318, 3) := by decide +kernel
theorem dX9_fillFirstEntries_109 : decode cX9_fillFirstEntries 109 = .ok (.iinc 1 1, 3) := by decide +kernel
theorem dX9_fillFirstEntries_112 : decode cX9_fillFirstEntries 112 = .ok (.goto (-110), 3) := by decide +kernel
theorem dX9_fillFirstEntries_115 : decode cX9_fillFirstEntries 115 = .ok (.return_, 1) := by decide +kernel
def VX9_fillFirstEntries_2 (g : jg) (a0 : Nat) (x1 : Int32) (h : jh) (k n : Nat) (Q : jq) : Prop := (jt h a0 = 8) ∧ (¬ (jr h 448 a0) = none) ∧ (jt h (jd (jr h 448 a0)) = 7) ∧ (((ji h 385 (jd (jr h 448 a0))) < (x1) → Q (.inl none) h) ∧ (¬ (ji h 385 (jd (jr h 448 a0))) < (x1) → (¬ (jr h 384 (jd (jr h 448 a0))) = none) ∧ (jt h (jd (jr h 384 (jd (jr h 448 a0)))) = 23) ∧ (vp_in (x1) (jn h (jd (jr h 384 (jd (jr h 448 a0)))))) ∧ (¬ (jR h (jd (jr h 384 (jd (jr h 448 a0)))) (x1 : Int32).toNatClampNeg) = none) ∧ (jt h (jd (jR h (jd (jr h 384 (jd (jr h 448 a0)))) (x1 : Int32).toNatClampNeg)) = 1) ∧ jM g mX0_lies [.inr (.inr (some (jd (jR h (jd (jr h 384 (jd (jr h 448 a0)))) (x1 : Int32).toNatClampNeg))))] h 0 0 (jki (fun (r10 : Int32) (h11 : jh) => (((r10) = 0 → jG g mX9_fillFirstEntries 2 [(0, .inr (.inr (some (a0)))), (1, .inl ((x1) + 1))] [] h11 k n Q) ∧ (¬ (r10) = 0 → (jt h11 (jd (jR h (jd (jr h 384 (jd (jr h 448 a0)))) (x1 : Int32).toNatClampNeg)) = 1) ∧ (¬ (jr h11 7 (jd (jR h (jd (jr h 384 (jd (jr h 448 a0)))) (x1 : Int32).toNatClampNeg))) = none) ∧ (jt h11 (jd (jr h11 7 (jd (jR h (jd (jr h 384 (jd (jr h 448 a0)))) (x1 : Int32).toNatClampNeg)))) = 4) ∧ (((ji h11 196 (jd (jr h11 7 (jd (jR h (jd (jr h 384 (jd (jr h 448 a0)))) (x1 : Int32).toNatClampNeg))))) = 0 → ((¬ (ji h11 2 (jd (jR h (jd (jr h 384 (jd (jr h 448 a0)))) (x1 : Int32).toNatClampNeg))) = (1) → ((¬ (ji h11 2 (jd (jR h (jd (jr h 384 (jd (jr h 448 a0)))) (x1 : Int32).toNatClampNeg))) = (2) → jM g mX0_isNumber [.inr (.inr (some (jd (jR h (jd (jr h 384 (jd (jr h 448 a0)))) (x1 : Int32).toNatClampNeg))))] h11 0 0 (jki (fun (r19 : Int32) (h20 : jh) => (((r19) = 0 → jG g mX9_fillFirstEntries 2 [(0, .inr (.inr (some (a0)))), (1, .inl ((x1) + 1))] [] h20 k n Q) ∧ (¬ (r19) = 0 → (jt h20 a0 = 8) ∧ jM g mX2_write [.inr (.inr (jr h20 450 a0)), .inr (.inr (jR h (jd (jr h 384 (jd (jr h 448 a0)))) (x1 : Int32).toNatClampNeg))] h20 0 0 (jkv (fun (h24 : jh) => jG g mX9_fillFirstEntries 2 [(0, .inr (.inr (some (a0)))), (1, .inl ((x1) + 1))] [] h24 k n Q) (fun e h9 => Q (.inr e) h9))))) (fun e h9 => Q (.inr e) h9))) ∧ ((ji h11 2 (jd (jR h (jd (jr h 384 (jd (jr h 448 a0)))) (x1 : Int32).toNatClampNeg))) = (2) → (jt h11 a0 = 8) ∧ jM g mX9_fillText [.inr (.inr (some a0)), .inl ((jl h11 192 (jd (jr h11 7 (jd (jR h (jd (jr h 384 (jd (jr h 448 a0)))) (x1 : Int32).toNatClampNeg)))) : Int64).toInt32), .inl (ji h11 4 (jd (jR h (jd (jr h 384 (jd (jr h 448 a0)))) (x1 : Int32).toNatClampNeg))), .inl (2)] h11 0 0 (jkv (fun (h27 : jh) => jG g mX9_fillFirstEntries 2 [(0, .inr (.inr (some (a0)))), (1, .inl ((x1) + 1))] [] h27 k n Q) (fun e h9 => Q (.inr e) h9))))) ∧ ((ji h11 2 (jd (jR h (jd (jr h 384 (jd (jr h 448 a0)))) (x1 : Int32).toNatClampNeg))) = (1) → (jt h11 a0 = 8) ∧ jM g mX9_fillText [.inr (.inr (some a0)), .inl ((jl h11 192 (jd (jr h11 7 (jd (jR h (jd (jr h 384 (jd (jr h 448 a0)))) (x1 : Int32).toNatClampNeg)))) : Int64).toInt32), .inl (ji h11 4 (jd (jR h (jd (jr h 384 (jd (jr h 448 a0)))) (x1 : Int32).toNatClampNeg))), .inl (1)] h11 0 0 (jkv (fun (h30 : jh) => jG g mX9_fillFirstEntries 2 [(0, .inr (.inr (some (a0)))), (1, .inl ((x1) + 1))] [] h30 k n Q) (fun e h9 => Q (.inr e) h9))))) ∧ (¬ (ji h11 196 (jd (jr h11 7 (jd (jR h (jd (jr h 384 (jd (jr h 448 a0)))) (x1 : Int32).toNatClampNeg))))) = 0 → jG g mX9_fillFirstEntries 2 [(0, .inr (.inr (some (a0)))), (1, .inl ((x1) + 1))] [] h11 k n Q))))) (fun e h9 => Q (.inr e) h9))))
set_option maxRecDepth 20000 in
theorem vX9_fillFirstEntries_2 {g : jg} {a0 : Nat} {x1 : Int32} {h : jh} {k n : Nat} {Q : jq} (hv : VX9_fillFirstEntries_2 g a0 x1 h k n Q) : jG g mX9_fillFirstEntries 2 [(0, .inr (.inr (some (a0)))), (1, .inl (x1))] [] h k n Q := by
  unfold VX9_fillFirstEntries_2 at hv
  refine jg_iload_n dX9_fillFirstEntries_2 rfl (List.Mem.tail _ (List.Mem.head _)) ?_
  refine jg_aload_n dX9_fillFirstEntries_3 rfl (List.Mem.head _) ?_
  obtain ⟨f1, hv⟩ := hv
  refine jg_getr dX9_fillFirstEntries_4 fl_RX9_10 rfl jsn f1 ?_
  obtain ⟨f2, hv⟩ := hv
  obtain ⟨f3, hv⟩ := hv
  refine jg_geti dX9_fillFirstEntries_7 fl_RX9_56 rfl f2 f3 ?_
  refine jg_icmp_gt (tgt := 115) dX9_fillFirstEntries_10 (by decide) (fun c4 => ?_) (fun c4 => ?_)
  · replace hv := hv.1 c4
    exact jg_vret dX9_fillFirstEntries_115 rfl hv
  · replace hv := hv.2 c4
    refine jg_aload_n dX9_fillFirstEntries_13 rfl (List.Mem.head _) ?_
    refine jg_getr dX9_fillFirstEntries_14 fl_RX9_10 rfl jsn f1 ?_
    refine jg_getr dX9_fillFirstEntries_17 fl_RX9_302 rfl f2 f3 ?_
    refine jg_iload_n dX9_fillFirstEntries_20 rfl (List.Mem.tail _ (List.Mem.head _)) ?_
    obtain ⟨f5, hv⟩ := hv
    obtain ⟨f6, hv⟩ := hv
    obtain ⟨f7, hv⟩ := hv
    refine jg_aald dX9_fillFirstEntries_21 f5 f6 f7 ?_
    refine jg_astore_n (lv' := [(2, .inr (.inr (jR h (jd (jr h 384 (jd (jr h 448 a0)))) (x1 : Int32).toNatClampNeg))), (0, .inr (.inr (some (a0)))), (1, .inl (x1))]) dX9_fillFirstEntries_22 rfl (by decide) rfl ?_
    refine jg_aload_n dX9_fillFirstEntries_23 rfl (List.Mem.head _) ?_
    obtain ⟨f8, hv⟩ := hv
    obtain ⟨f9, hv⟩ := hv
    refine jp_callV mX0_lies [] [] dX9_fillFirstEntries_24 rfl cl_RX9_306 ⟨⟨by decide, by decide⟩, by decide⟩ f8 f9 (Nat.zero_le _) (Nat.zero_le _) (jM.mono (jki_k (fun r10 h11 hv => ?_)) hv)
    refine jg_if_eq (tgt := 109) dX9_fillFirstEntries_27 (by decide) (fun c12 => ?_) (fun c12 => ?_)
    · replace hv := hv.1 c12
      refine jg_iinc (v := (x1) + 1) (lv' := [(1, .inl ((x1) + 1)), (2, .inr (.inr (jR h (jd (jr h 384 (jd (jr h 448 a0)))) (x1 : Int32).toNatClampNeg))), (0, .inr (.inr (some (a0))))]) dX9_fillFirstEntries_109 (List.Mem.tail _ (List.Mem.tail _ (List.Mem.head _))) rfl (by decide) rfl ?_
      refine jg_goto (tgt := 2) dX9_fillFirstEntries_112 (by decide) ?_
      refine jG.sub (lv' := [(0, .inr (.inr (some (a0)))), (1, .inl ((x1) + 1))]) (by simp) ?_
      exact hv
    · replace hv := hv.2 c12
      refine jg_aload_n dX9_fillFirstEntries_30 rfl (List.Mem.head _) ?_
      obtain ⟨f13, hv⟩ := hv
      refine jg_getr dX9_fillFirstEntries_31 fl_RX9_104 rfl f8 f13 ?_
      obtain ⟨f14, hv⟩ := hv
      obtain ⟨f15, hv⟩ := hv
      refine jg_geti dX9_fillFirstEntries_34 fl_RX9_309 rfl f14 f15 ?_
      refine jg_if_eq (tgt := 43) dX9_fillFirstEntries_37 (by decide) (fun c16 => ?_) (fun c16 => ?_)
      · replace hv := hv.1 c16
        refine jg_aload_n dX9_fillFirstEntries_43 rfl (List.Mem.head _) ?_
        refine jg_getr dX9_fillFirstEntries_44 fl_RX9_104 rfl f8 f13 ?_
        refine jg_getl dX9_fillFirstEntries_47 fl_RX9_110 rfl f14 f15 ?_
        refine jg_l2i dX9_fillFirstEntries_50 ?_
        refine jg_istore_n (lv' := [(3, .inl ((jl h11 192 (jd (jr h11 7 (jd (jR h (jd (jr h 384 (jd (jr h 448 a0)))) (x1 : Int32).toNatClampNeg)))) : Int64).toInt32)), (2, .inr (.inr (jR h (jd (jr h 384 (jd (jr h 448 a0)))) (x1 : Int32).toNatClampNeg))), (0, .inr (.inr (some (a0)))), (1, .inl (x1))]) dX9_fillFirstEntries_51 rfl (by decide) rfl ?_
        refine jg_aload_n dX9_fillFirstEntries_52 rfl (List.Mem.tail _ (List.Mem.head _)) ?_
        refine jg_geti dX9_fillFirstEntries_53 fl_RX9_255 rfl f8 f13 ?_
        refine jg_iconst (v := 1) dX9_fillFirstEntries_56 (by decide) ?_
        refine jg_icmp_ne (tgt := 73) dX9_fillFirstEntries_57 (by decide) (fun c17 => ?_) (fun c17 => ?_)
        · replace hv := hv.1 c17
          refine jg_aload_n dX9_fillFirstEntries_73 rfl (List.Mem.tail _ (List.Mem.head _)) ?_
          refine jg_geti dX9_fillFirstEntries_74 fl_RX9_255 rfl f8 f13 ?_
          refine jg_iconst (v := 2) dX9_fillFirstEntries_77 (by decide) ?_
          refine jg_icmp_ne (tgt := 94) dX9_fillFirstEntries_78 (by decide) (fun c18 => ?_) (fun c18 => ?_)
          · replace hv := hv.1 c18
            refine jg_aload_n dX9_fillFirstEntries_94 rfl (List.Mem.tail _ (List.Mem.head _)) ?_
            refine jp_callV mX0_isNumber [] [] dX9_fillFirstEntries_95 rfl cl_RX9_261 ⟨⟨by decide, by decide⟩, by decide⟩ f8 f13 (Nat.zero_le _) (Nat.zero_le _) (jM.mono (jki_k (fun r19 h20 hv => ?_)) hv)
            refine jg_if_eq (tgt := 109) dX9_fillFirstEntries_98 (by decide) (fun c21 => ?_) (fun c21 => ?_)
            · replace hv := hv.1 c21
              refine jg_iinc (v := (x1) + 1) (lv' := [(1, .inl ((x1) + 1)), (3, .inl ((jl h11 192 (jd (jr h11 7 (jd (jR h (jd (jr h 384 (jd (jr h 448 a0)))) (x1 : Int32).toNatClampNeg)))) : Int64).toInt32)), (2, .inr (.inr (jR h (jd (jr h 384 (jd (jr h 448 a0)))) (x1 : Int32).toNatClampNeg))), (0, .inr (.inr (some (a0))))]) dX9_fillFirstEntries_109 (List.Mem.tail _ (List.Mem.tail _ (List.Mem.tail _ (List.Mem.head _)))) rfl (by decide) rfl ?_
              refine jg_goto (tgt := 2) dX9_fillFirstEntries_112 (by decide) ?_
              refine jG.sub (lv' := [(0, .inr (.inr (some (a0)))), (1, .inl ((x1) + 1))]) (by simp) ?_
              exact hv
            · replace hv := hv.2 c21
              refine jg_aload_n dX9_fillFirstEntries_101 rfl (List.Mem.tail _ (List.Mem.tail _ (List.Mem.head _))) ?_
              obtain ⟨f22, hv⟩ := hv
              refine jg_getr dX9_fillFirstEntries_102 fl_RX9_28 rfl jsn f22 ?_
              refine jg_aload_n dX9_fillFirstEntries_105 rfl (List.Mem.tail _ (List.Mem.head _)) ?_
              refine jg_callS mX2_write [.inr (.inr (jr h20 450 a0)), .inr (.inr (jR h (jd (jr h 384 (jd (jr h 448 a0)))) (x1 : Int32).toNatClampNeg))] [] dX9_fillFirstEntries_106 rfl cl_RX9_318 ⟨⟨by decide, by decide⟩, by decide⟩ (Nat.zero_le _) (Nat.zero_le _) (jM.mono (jkv_k (fun h24 hv => ?_)) hv)
              refine jg_iinc (v := (x1) + 1) (lv' := [(1, .inl ((x1) + 1)), (3, .inl ((jl h11 192 (jd (jr h11 7 (jd (jR h (jd (jr h 384 (jd (jr h 448 a0)))) (x1 : Int32).toNatClampNeg)))) : Int64).toInt32)), (2, .inr (.inr (jR h (jd (jr h 384 (jd (jr h 448 a0)))) (x1 : Int32).toNatClampNeg))), (0, .inr (.inr (some (a0))))]) dX9_fillFirstEntries_109 (List.Mem.tail _ (List.Mem.tail _ (List.Mem.tail _ (List.Mem.head _)))) rfl (by decide) rfl ?_
              refine jg_goto (tgt := 2) dX9_fillFirstEntries_112 (by decide) ?_
              refine jG.sub (lv' := [(0, .inr (.inr (some (a0)))), (1, .inl ((x1) + 1))]) (by simp) ?_
              exact hv
          · replace hv := hv.2 c18
            refine jg_aload_n dX9_fillFirstEntries_81 rfl (List.Mem.tail _ (List.Mem.tail _ (List.Mem.head _))) ?_
            refine jg_iload_n dX9_fillFirstEntries_82 rfl (List.Mem.head _) ?_
            refine jg_aload_n dX9_fillFirstEntries_83 rfl (List.Mem.tail _ (List.Mem.head _)) ?_
            refine jg_geti dX9_fillFirstEntries_84 fl_RX9_312 rfl f8 f13 ?_
            refine jg_iconst (v := 2) dX9_fillFirstEntries_87 (by decide) ?_
            obtain ⟨f25, hv⟩ := hv
            refine jp_callV mX9_fillText [.inl ((jl h11 192 (jd (jr h11 7 (jd (jR h (jd (jr h 384 (jd (jr h 448 a0)))) (x1 : Int32).toNatClampNeg)))) : Int64).toInt32), .inl (ji h11 4 (jd (jR h (jd (jr h 384 (jd (jr h 448 a0)))) (x1 : Int32).toNatClampNeg))), .inl (2)] [] dX9_fillFirstEntries_88 rfl cl_RX9_315 ⟨⟨by decide, by decide⟩, by decide⟩ jsn f25 (Nat.zero_le _) (Nat.zero_le _) (jM.mono (jkv_k (fun h27 hv => ?_)) hv)
            refine jg_goto (tgt := 109) dX9_fillFirstEntries_91 (by decide) ?_
            refine jg_iinc (v := (x1) + 1) (lv' := [(1, .inl ((x1) + 1)), (3, .inl ((jl h11 192 (jd (jr h11 7 (jd (jR h (jd (jr h 384 (jd (jr h 448 a0)))) (x1 : Int32).toNatClampNeg)))) : Int64).toInt32)), (2, .inr (.inr (jR h (jd (jr h 384 (jd (jr h 448 a0)))) (x1 : Int32).toNatClampNeg))), (0, .inr (.inr (some (a0))))]) dX9_fillFirstEntries_109 (List.Mem.tail _ (List.Mem.tail _ (List.Mem.tail _ (List.Mem.head _)))) rfl (by decide) rfl ?_
            refine jg_goto (tgt := 2) dX9_fillFirstEntries_112 (by decide) ?_
            refine jG.sub (lv' := [(0, .inr (.inr (some (a0)))), (1, .inl ((x1) + 1))]) (by simp) ?_
            exact hv
        · replace hv := hv.2 c17
          refine jg_aload_n dX9_fillFirstEntries_60 rfl (List.Mem.tail _ (List.Mem.tail _ (List.Mem.head _))) ?_
          refine jg_iload_n dX9_fillFirstEntries_61 rfl (List.Mem.head _) ?_
          refine jg_aload_n dX9_fillFirstEntries_62 rfl (List.Mem.tail _ (List.Mem.head _)) ?_
          refine jg_geti dX9_fillFirstEntries_63 fl_RX9_312 rfl f8 f13 ?_
          refine jg_iconst (v := 1) dX9_fillFirstEntries_66 (by decide) ?_
          obtain ⟨f28, hv⟩ := hv
          refine jp_callV mX9_fillText [.inl ((jl h11 192 (jd (jr h11 7 (jd (jR h (jd (jr h 384 (jd (jr h 448 a0)))) (x1 : Int32).toNatClampNeg)))) : Int64).toInt32), .inl (ji h11 4 (jd (jR h (jd (jr h 384 (jd (jr h 448 a0)))) (x1 : Int32).toNatClampNeg))), .inl (1)] [] dX9_fillFirstEntries_67 rfl cl_RX9_315 ⟨⟨by decide, by decide⟩, by decide⟩ jsn f28 (Nat.zero_le _) (Nat.zero_le _) (jM.mono (jkv_k (fun h30 hv => ?_)) hv)
          refine jg_goto (tgt := 109) dX9_fillFirstEntries_70 (by decide) ?_
          refine jg_iinc (v := (x1) + 1) (lv' := [(1, .inl ((x1) + 1)), (3, .inl ((jl h11 192 (jd (jr h11 7 (jd (jR h (jd (jr h 384 (jd (jr h 448 a0)))) (x1 : Int32).toNatClampNeg)))) : Int64).toInt32)), (2, .inr (.inr (jR h (jd (jr h 384 (jd (jr h 448 a0)))) (x1 : Int32).toNatClampNeg))), (0, .inr (.inr (some (a0))))]) dX9_fillFirstEntries_109 (List.Mem.tail _ (List.Mem.tail _ (List.Mem.tail _ (List.Mem.head _)))) rfl (by decide) rfl ?_
          refine jg_goto (tgt := 2) dX9_fillFirstEntries_112 (by decide) ?_
          refine jG.sub (lv' := [(0, .inr (.inr (some (a0)))), (1, .inl ((x1) + 1))]) (by simp) ?_
          exact hv
      · replace hv := hv.2 c16
        refine jg_goto (tgt := 109) dX9_fillFirstEntries_40 (by decide) ?_
        refine jg_iinc (v := (x1) + 1) (lv' := [(1, .inl ((x1) + 1)), (2, .inr (.inr (jR h (jd (jr h 384 (jd (jr h 448 a0)))) (x1 : Int32).toNatClampNeg))), (0, .inr (.inr (some (a0))))]) dX9_fillFirstEntries_109 (List.Mem.tail _ (List.Mem.tail _ (List.Mem.head _))) rfl (by decide) rfl ?_
        refine jg_goto (tgt := 2) dX9_fillFirstEntries_112 (by decide) ?_
        refine jG.sub (lv' := [(0, .inr (.inr (some (a0)))), (1, .inl ((x1) + 1))]) (by simp) ?_
        exact hv
def VX9_fillFirstEntries_0 (g : jg) (a0 : Nat) (h : jh) (k n : Nat) (Q : jq) : Prop := jG g mX9_fillFirstEntries 2 [(0, .inr (.inr (some (a0)))), (1, .inl (1))] [] h k n Q
set_option maxRecDepth 20000 in
theorem vX9_fillFirstEntries_0 {g : jg} {a0 : Nat} {h : jh} {k n : Nat} {Q : jq} (hv : VX9_fillFirstEntries_0 g a0 h k n Q) : jG g mX9_fillFirstEntries 0 [(0, .inr (.inr (some (a0))))] [] h k n Q := by
  unfold VX9_fillFirstEntries_0 at hv
  refine jg_iconst (v := 1) dX9_fillFirstEntries_0 (by decide) ?_
  refine jg_istore_n (lv' := [(1, .inl (1)), (0, .inr (.inr (some (a0))))]) dX9_fillFirstEntries_1 rfl (by decide) rfl ?_
  refine jG.sub (lv' := [(0, .inr (.inr (some (a0)))), (1, .inl (1))]) (by simp) ?_
  exact hv
theorem eX9_fillFirstEntries {g : jg} {a0 : Nat} {h : jh} {mc ms : Nat} {Q : jq} (hv : VX9_fillFirstEntries_0 g a0 h mc ms Q) : jM g mX9_fillFirstEntries [.inr (.inr (some (a0)))] h mc ms Q := jM.of (by decide) (Nat.le_of_ble_eq_true rfl) (lv := [(0, .inr (.inr (some (a0))))]) rfl (vX9_fillFirstEntries_0 hv)
theorem dX9_fillText_0 : decode cX9_fillText 0 = .ok (.iload_n 3, 1) := by decide +kernel
theorem dX9_fillText_1 : decode cX9_fillText 1 = .ok (.istore 4, 2) := by decide +kernel
theorem dX9_fillText_3 : decode cX9_fillText 3 = .ok (.iload 4, 2) := by decide +kernel
theorem dX9_fillText_5 : decode cX9_fillText 5 = .ok (.iload_n 2, 1) := by decide +kernel
theorem dX9_fillText_6 : decode cX9_fillText 6 = .ok (.if_icmp .gt 27, 3) := by decide +kernel
theorem dX9_fillText_9 : decode cX9_fillText 9 = .ok (.aload_n 0, 1) := by decide +kernel
theorem dX9_fillText_10 : decode cX9_fillText 10 = .ok (.getfield 28, 3) := by decide +kernel
theorem dX9_fillText_13 : decode cX9_fillText 13 = .ok (.iload_n 1, 1) := by decide +kernel
theorem dX9_fillText_14 : decode cX9_fillText 14 = .ok (.iload 4, 2) := by decide +kernel
theorem dX9_fillText_16 : decode cX9_fillText 16 = .ok (.iadd, 1) := by decide +kernel
theorem dX9_fillText_17 : decode cX9_fillText 17 = .ok (.iconst 1, 1) := by decide +kernel
theorem dX9_fillText_18 : decode cX9_fillText 18 = .ok (.isub, 1) := by decide +kernel
theorem dX9_fillText_19 : decode cX9_fillText 19 = .ok (.bipush 32, 2) := by decide +kernel
theorem dX9_fillText_21 : decode cX9_fillText 21 = .ok (.invokevirtual 186, 3) := by decide +kernel
theorem dX9_fillText_24 : decode cX9_fillText 24 = .ok (.iload 4, 2) := by decide +kernel
theorem dX9_fillText_26 : decode cX9_fillText 26 = .ok (.iload_n 3, 1) := by decide +kernel
theorem dX9_fillText_27 : decode cX9_fillText 27 = .ok (.iadd, 1) := by decide +kernel
theorem dX9_fillText_28 : decode cX9_fillText 28 = .ok (.istore 4, 2) := by decide +kernel
theorem dX9_fillText_30 : decode cX9_fillText 30 = .ok (.goto (-27), 3) := by decide +kernel
theorem dX9_fillText_33 : decode cX9_fillText 33 = .ok (.return_, 1) := by decide +kernel
def VX9_fillText_3 (g : jg) (a0 : Nat) (x1 : Int32) (x2 : Int32) (x3 : Int32) (x4 : Int32) (h : jh) (k n : Nat) (Q : jq) : Prop := (((x2) < (x4) → Q (.inl none) h) ∧ (¬ (x2) < (x4) → (jt h a0 = 8) ∧ (¬ (jr h 450 a0) = none) ∧ (jt h (jd (jr h 450 a0)) = 5) ∧ jM g mX6_put [.inr (.inr (some (jd (jr h 450 a0)))), .inl (((x1) + (x4)) - (1)), .inl (32)] h 0 0 (jkv (fun (h6 : jh) => jG g mX9_fillText 3 [(0, .inr (.inr (some (a0)))), (1, .inl (x1)), (2, .inl (x2)), (3, .inl (x3)), (4, .inl ((x4) + (x3)))] [] h6 k n Q) (fun e h9 => Q (.inr e) h9))))
set_option maxRecDepth 20000 in
theorem vX9_fillText_3 {g : jg} {a0 : Nat} {x1 : Int32} {x2 : Int32} {x3 : Int32} {x4 : Int32} {h : jh} {k n : Nat} {Q : jq} (hv : VX9_fillText_3 g a0 x1 x2 x3 x4 h k n Q) : jG g mX9_fillText 3 [(0, .inr (.inr (some (a0)))), (1, .inl (x1)), (2, .inl (x2)), (3, .inl (x3)), (4, .inl (x4))] [] h k n Q := by
  unfold VX9_fillText_3 at hv
  refine jg_iload dX9_fillText_3 (List.Mem.tail _ (List.Mem.tail _ (List.Mem.tail _ (List.Mem.tail _ (List.Mem.head _))))) ?_
  refine jg_iload_n dX9_fillText_5 rfl (List.Mem.tail _ (List.Mem.tail _ (List.Mem.head _))) ?_
  refine jg_icmp_gt (tgt := 33) dX9_fillText_6 (by decide) (fun c1 => ?_) (fun c1 => ?_)
  · replace hv := hv.1 c1
    exact jg_vret dX9_fillText_33 rfl hv
  · replace hv := hv.2 c1
    refine jg_aload_n dX9_fillText_9 rfl (List.Mem.head _) ?_
    obtain ⟨f2, hv⟩ := hv
    refine jg_getr dX9_fillText_10 fl_RX9_28 rfl jsn f2 ?_
    refine jg_iload_n dX9_fillText_13 rfl (List.Mem.tail _ (List.Mem.head _)) ?_
    refine jg_iload dX9_fillText_14 (List.Mem.tail _ (List.Mem.tail _ (List.Mem.tail _ (List.Mem.tail _ (List.Mem.head _))))) ?_
    refine jg_iadd dX9_fillText_16 ?_
    refine jg_iconst (v := 1) dX9_fillText_17 (by decide) ?_
    refine jg_isub dX9_fillText_18 ?_
    refine jg_bipush (v := 32) dX9_fillText_19 (by decide) ?_
    obtain ⟨f3, hv⟩ := hv
    obtain ⟨f4, hv⟩ := hv
    refine jp_callV mX6_put [.inl (((x1) + (x4)) - (1)), .inl (32)] [] dX9_fillText_21 rfl cl_RX9_186 ⟨⟨by decide, by decide⟩, by decide⟩ f3 f4 (Nat.zero_le _) (Nat.zero_le _) (jM.mono (jkv_k (fun h6 hv => ?_)) hv)
    refine jg_iload dX9_fillText_24 (List.Mem.tail _ (List.Mem.tail _ (List.Mem.tail _ (List.Mem.tail _ (List.Mem.head _))))) ?_
    refine jg_iload_n dX9_fillText_26 rfl (List.Mem.tail _ (List.Mem.tail _ (List.Mem.tail _ (List.Mem.head _)))) ?_
    refine jg_iadd dX9_fillText_27 ?_
    refine jg_istore (lv' := [(4, .inl ((x4) + (x3))), (0, .inr (.inr (some (a0)))), (1, .inl (x1)), (2, .inl (x2)), (3, .inl (x3))]) dX9_fillText_28 (by decide) rfl ?_
    refine jg_goto (tgt := 3) dX9_fillText_30 (by decide) ?_
    refine jG.sub (lv' := [(0, .inr (.inr (some (a0)))), (1, .inl (x1)), (2, .inl (x2)), (3, .inl (x3)), (4, .inl ((x4) + (x3)))]) (by simp) ?_
    exact hv
def VX9_fillText_0 (g : jg) (a0 : Nat) (x1 : Int32) (x2 : Int32) (x3 : Int32) (h : jh) (k n : Nat) (Q : jq) : Prop := jG g mX9_fillText 3 [(0, .inr (.inr (some (a0)))), (1, .inl (x1)), (2, .inl (x2)), (3, .inl (x3)), (4, .inl (x3))] [] h k n Q
set_option maxRecDepth 20000 in
theorem vX9_fillText_0 {g : jg} {a0 : Nat} {x1 : Int32} {x2 : Int32} {x3 : Int32} {h : jh} {k n : Nat} {Q : jq} (hv : VX9_fillText_0 g a0 x1 x2 x3 h k n Q) : jG g mX9_fillText 0 [(0, .inr (.inr (some (a0)))), (1, .inl (x1)), (2, .inl (x2)), (3, .inl (x3))] [] h k n Q := by
  unfold VX9_fillText_0 at hv
  refine jg_iload_n dX9_fillText_0 rfl (List.Mem.tail _ (List.Mem.tail _ (List.Mem.tail _ (List.Mem.head _)))) ?_
  refine jg_istore (lv' := [(4, .inl (x3)), (0, .inr (.inr (some (a0)))), (1, .inl (x1)), (2, .inl (x2)), (3, .inl (x3))]) dX9_fillText_1 (by decide) rfl ?_
  refine jG.sub (lv' := [(0, .inr (.inr (some (a0)))), (1, .inl (x1)), (2, .inl (x2)), (3, .inl (x3)), (4, .inl (x3))]) (by simp) ?_
  exact hv
theorem eX9_fillText {g : jg} {a0 : Nat} {x1 : Int32} {x2 : Int32} {x3 : Int32} {h : jh} {mc ms : Nat} {Q : jq} (hv : VX9_fillText_0 g a0 x1 x2 x3 h mc ms Q) : jM g mX9_fillText [.inr (.inr (some (a0))), .inl (x1), .inl (x2), .inl (x3)] h mc ms Q := jM.of (by decide) (Nat.le_of_ble_eq_true rfl) (lv := [(0, .inr (.inr (some (a0)))), (1, .inl (x1)), (2, .inl (x2)), (3, .inl (x3))]) rfl (vX9_fillText_0 hv)
theorem dX9_fillOtherEntries_0 : decode cX9_fillOtherEntries 0 = .ok (.aload_n 0, 1) := by decide +kernel
theorem dX9_fillOtherEntries_1 : decode cX9_fillOtherEntries 1 = .ok (.getfield 10, 3) := by decide +kernel
theorem dX9_fillOtherEntries_4 : decode cX9_fillOtherEntries 4 = .ok (.getfield 56, 3) := by decide +kernel
theorem dX9_fillOtherEntries_7 : decode cX9_fillOtherEntries 7 = .ok (.istore_n 1, 1) := by decide +kernel
theorem dX9_fillOtherEntries_8 : decode cX9_fillOtherEntries 8 = .ok (.iload_n 1, 1) := by decide +kernel
theorem dX9_fillOtherEntries_9 : decode cX9_fillOtherEntries 9 = .ok (.iconst 1, 1) := by decide +kernel
theorem dX9_fillOtherEntries_10 : decode cX9_fillOtherEntries 10 = .ok (.if_icmp .lt 66, 3) := by decide +kernel
theorem dX9_fillOtherEntries_13 : decode cX9_fillOtherEntries 13 = .ok (.aload_n 0, 1) := by decide +kernel
theorem dX9_fillOtherEntries_14 : decode cX9_fillOtherEntries 14 = .ok (.getfield 10, 3) := by decide +kernel
theorem dX9_fillOtherEntries_17 : decode cX9_fillOtherEntries 17 = .ok (.getfield 302, 3) := by decide +kernel
theorem dX9_fillOtherEntries_20 : decode cX9_fillOtherEntries 20 = .ok (.iload_n 1, 1) := by decide +kernel
theorem dX9_fillOtherEntries_21 : decode cX9_fillOtherEntries 21 = .ok (.aaload, 1) := by decide +kernel
theorem dX9_fillOtherEntries_22 : decode cX9_fillOtherEntries 22 = .ok (.astore_n 2, 1) := by decide +kernel
theorem dX9_fillOtherEntries_23 : decode cX9_fillOtherEntries 23 = .ok (.aload_n 2, 1) := by decide +kernel
theorem dX9_fillOtherEntries_24 : decode cX9_fillOtherEntries 24 = .ok (.getfield 144, 3) := by decide +kernel
theorem dX9_fillOtherEntries_27 : decode cX9_fillOtherEntries 27 = .ok (.ifnull 43, 3) := by decide +kernel
theorem dX9_fillOtherEntries_30 : decode cX9_fillOtherEntries 30 = .ok (.aload_n 2, 1) := by decide +kernel
theorem dX9_fillOtherEntries_31 : decode cX9_fillOtherEntries 31 = .ok (.getfield 104, 3) := by decide +kernel
theorem dX9_fillOtherEntries_34 : decode cX9_fillOtherEntries 34 = .ok (.getfield 309, 3) := by decide +kernel
theorem dX9_fillOtherEntries_37 : decode cX9_fillOtherEntries 37 = .ok (.ifCond .ne 33, 3) := by decide +kernel
theorem dX9_fillOtherEntries_40 : decode cX9_fillOtherEntries 40 = .ok (.aload_n 0, 1) := by decide +kernel
theorem dX9_fillOtherEntries_41 : decode cX9_fillOtherEntries 41 = .ok (.getfield 28, 3) := by decide +kernel
theorem dX9_fillOtherEntries_44 : decode cX9_fillOtherEntries 44 = .ok (.aload_n 2, 1) := by decide +kernel
theorem dX9_fillOtherEntries_45 : decode cX9_fillOtherEntries 45 = .ok (.getfield 104, 3) := by decide +kernel
theorem dX9_fillOtherEntries_48 : decode cX9_fillOtherEntries 48 = .ok (.getfield 110, 3) := by decide +kernel
theorem dX9_fillOtherEntries_51 : decode cX9_fillOtherEntries 51 = .ok (.l2i, 1) := by decide +kernel
theorem dX9_fillOtherEntries_52 : decode cX9_fillOtherEntries 52 = .ok (.aload_n 2, 1) := by decide +kernel
theorem dX9_fillOtherEntries_53 : decode cX9_fillOtherEntries 53 = .ok (.getfield 144, 3) := by decide +kernel
theorem dX9_fillOtherEntries_56 : decode cX9_fillOtherEntries 56 = .ok (.getfield 131, 3) := by decide +kernel
theorem dX9_fillOtherEntries_59 : decode cX9_fillOtherEntries 59 = .ok (.l2i, 1) := by decide +kernel
theorem dX9_fillOtherEntries_60 : decode cX9_fillOtherEntries 60 = .ok (.aload_n 2, 1) := by decide +kernel
theorem dX9_fillOtherEntries_61 : decode cX9_fillOtherEntries 61 = .ok (.getfield 144, 3) := by decide +kernel
theorem dX9_fillOtherEntries_64 : decode cX9_fillOtherEntries 64 = .ok (.getfield 154, 3) := by decide +kernel
theorem dX9_fillOtherEntries_67 : decode cX9_fillOtherEntries 67 = .ok (.invokevirtual 322, 3) := by decide +kernel
theorem dX9_fillOtherEntries_70 : decode cX9_fillOtherEntries 70 = .ok (.iinc 1 (-1), 3) := by decide +kernel
theorem dX9_fillOtherEntries_73 : decode cX9_fillOtherEntries 73 = .ok (.goto (-65), 3) := by decide +kernel
theorem dX9_fillOtherEntries_76 : decode cX9_fillOtherEntries 76 = .ok (.return_, 1) := by decide +kernel
def VX9_fillOtherEntries_8 (g : jg) (a0 : Nat) (x1 : Int32) (h : jh) (k n : Nat) (Q : jq) : Prop := (((x1) < (1) → Q (.inl none) h) ∧ (¬ (x1) < (1) → (jt h a0 = 8) ∧ (¬ (jr h 448 a0) = none) ∧ (jt h (jd (jr h 448 a0)) = 7) ∧ (¬ (jr h 384 (jd (jr h 448 a0))) = none) ∧ (jt h (jd (jr h 384 (jd (jr h 448 a0)))) = 23) ∧ (vp_in (x1) (jn h (jd (jr h 384 (jd (jr h 448 a0)))))) ∧ (¬ (jR h (jd (jr h 384 (jd (jr h 448 a0)))) (x1 : Int32).toNatClampNeg) = none) ∧ (jt h (jd (jR h (jd (jr h 384 (jd (jr h 448 a0)))) (x1 : Int32).toNatClampNeg)) = 1) ∧ (((jr h 10 (jd (jR h (jd (jr h 384 (jd (jr h 448 a0)))) (x1 : Int32).toNatClampNeg))) = none → jG g mX9_fillOtherEntries 8 [(0, .inr (.inr (some (a0)))), (1, .inl ((x1) + (-1)))] [] h k n Q) ∧ (¬ (jr h 10 (jd (jR h (jd (jr h 384 (jd (jr h 448 a0)))) (x1 : Int32).toNatClampNeg))) = none → (¬ (jr h 7 (jd (jR h (jd (jr h 384 (jd (jr h 448 a0)))) (x1 : Int32).toNatClampNeg))) = none) ∧ (jt h (jd (jr h 7 (jd (jR h (jd (jr h 384 (jd (jr h 448 a0)))) (x1 : Int32).toNatClampNeg)))) = 4) ∧ ((¬ (ji h 196 (jd (jr h 7 (jd (jR h (jd (jr h 384 (jd (jr h 448 a0)))) (x1 : Int32).toNatClampNeg))))) = 0 → jG g mX9_fillOtherEntries 8 [(0, .inr (.inr (some (a0)))), (1, .inl ((x1) + (-1)))] [] h k n Q) ∧ ((ji h 196 (jd (jr h 7 (jd (jR h (jd (jr h 384 (jd (jr h 448 a0)))) (x1 : Int32).toNatClampNeg))))) = 0 → (jt h (jd (jr h 10 (jd (jR h (jd (jr h 384 (jd (jr h 448 a0)))) (x1 : Int32).toNatClampNeg)))) = 6) ∧ (¬ (jr h 450 a0) = none) ∧ (jt h (jd (jr h 450 a0)) = 5) ∧ jM g mX6_repeat [.inr (.inr (some (jd (jr h 450 a0)))), .inl ((jl h 192 (jd (jr h 7 (jd (jR h (jd (jr h 384 (jd (jr h 448 a0)))) (x1 : Int32).toNatClampNeg)))) : Int64).toInt32), .inl ((jl h 324 (jd (jr h 10 (jd (jR h (jd (jr h 384 (jd (jr h 448 a0)))) (x1 : Int32).toNatClampNeg)))) : Int64).toInt32), .inl (ji h 321 (jd (jr h 10 (jd (jR h (jd (jr h 384 (jd (jr h 448 a0)))) (x1 : Int32).toNatClampNeg)))))] h 0 0 (jkv (fun (h18 : jh) => jG g mX9_fillOtherEntries 8 [(0, .inr (.inr (some (a0)))), (1, .inl ((x1) + (-1)))] [] h18 k n Q) (fun e h9 => Q (.inr e) h9))))))))
set_option maxRecDepth 20000 in
theorem vX9_fillOtherEntries_8 {g : jg} {a0 : Nat} {x1 : Int32} {h : jh} {k n : Nat} {Q : jq} (hv : VX9_fillOtherEntries_8 g a0 x1 h k n Q) : jG g mX9_fillOtherEntries 8 [(0, .inr (.inr (some (a0)))), (1, .inl (x1))] [] h k n Q := by
  unfold VX9_fillOtherEntries_8 at hv
  refine jg_iload_n dX9_fillOtherEntries_8 rfl (List.Mem.tail _ (List.Mem.head _)) ?_
  refine jg_iconst (v := 1) dX9_fillOtherEntries_9 (by decide) ?_
  refine jg_icmp_lt (tgt := 76) dX9_fillOtherEntries_10 (by decide) (fun c1 => ?_) (fun c1 => ?_)
  · replace hv := hv.1 c1
    exact jg_vret dX9_fillOtherEntries_76 rfl hv
  · replace hv := hv.2 c1
    refine jg_aload_n dX9_fillOtherEntries_13 rfl (List.Mem.head _) ?_
    obtain ⟨f2, hv⟩ := hv
    refine jg_getr dX9_fillOtherEntries_14 fl_RX9_10 rfl jsn f2 ?_
    obtain ⟨f3, hv⟩ := hv
    obtain ⟨f4, hv⟩ := hv
    refine jg_getr dX9_fillOtherEntries_17 fl_RX9_302 rfl f3 f4 ?_
    refine jg_iload_n dX9_fillOtherEntries_20 rfl (List.Mem.tail _ (List.Mem.head _)) ?_
    obtain ⟨f5, hv⟩ := hv
    obtain ⟨f6, hv⟩ := hv
    obtain ⟨f7, hv⟩ := hv
    refine jg_aald dX9_fillOtherEntries_21 f5 f6 f7 ?_
    refine jg_astore_n (lv' := [(2, .inr (.inr (jR h (jd (jr h 384 (jd (jr h 448 a0)))) (x1 : Int32).toNatClampNeg))), (0, .inr (.inr (some (a0)))), (1, .inl (x1))]) dX9_fillOtherEntries_22 rfl (by decide) rfl ?_
    refine jg_aload_n dX9_fillOtherEntries_23 rfl (List.Mem.head _) ?_
    obtain ⟨f8, hv⟩ := hv
    obtain ⟨f9, hv⟩ := hv
    refine jg_getr dX9_fillOtherEntries_24 fl_RX9_144 rfl f8 f9 ?_
    refine jg_ifnull (tgt := 70) dX9_fillOtherEntries_27 (by decide) (fun c10 => ?_) (fun c10 => ?_)
    · replace hv := hv.1 c10
      refine jg_iinc (v := (x1) + (-1)) (lv' := [(1, .inl ((x1) + (-1))), (2, .inr (.inr (jR h (jd (jr h 384 (jd (jr h 448 a0)))) (x1 : Int32).toNatClampNeg))), (0, .inr (.inr (some (a0))))]) dX9_fillOtherEntries_70 (List.Mem.tail _ (List.Mem.tail _ (List.Mem.head _))) rfl (by decide) rfl ?_
      refine jg_goto (tgt := 8) dX9_fillOtherEntries_73 (by decide) ?_
      refine jG.sub (lv' := [(0, .inr (.inr (some (a0)))), (1, .inl ((x1) + (-1)))]) (by simp) ?_
      exact hv
    · replace hv := hv.2 c10
      refine jg_aload_n dX9_fillOtherEntries_30 rfl (List.Mem.head _) ?_
      refine jg_getr dX9_fillOtherEntries_31 fl_RX9_104 rfl f8 f9 ?_
      obtain ⟨f11, hv⟩ := hv
      obtain ⟨f12, hv⟩ := hv
      refine jg_geti dX9_fillOtherEntries_34 fl_RX9_309 rfl f11 f12 ?_
      refine jg_if_ne (tgt := 70) dX9_fillOtherEntries_37 (by decide) (fun c13 => ?_) (fun c13 => ?_)
      · replace hv := hv.1 c13
        refine jg_iinc (v := (x1) + (-1)) (lv' := [(1, .inl ((x1) + (-1))), (2, .inr (.inr (jR h (jd (jr h 384 (jd (jr h 448 a0)))) (x1 : Int32).toNatClampNeg))), (0, .inr (.inr (some (a0))))]) dX9_fillOtherEntries_70 (List.Mem.tail _ (List.Mem.tail _ (List.Mem.head _))) rfl (by decide) rfl ?_
        refine jg_goto (tgt := 8) dX9_fillOtherEntries_73 (by decide) ?_
        refine jG.sub (lv' := [(0, .inr (.inr (some (a0)))), (1, .inl ((x1) + (-1)))]) (by simp) ?_
        exact hv
      · replace hv := hv.2 c13
        refine jg_aload_n dX9_fillOtherEntries_40 rfl (List.Mem.tail _ (List.Mem.head _)) ?_
        refine jg_getr dX9_fillOtherEntries_41 fl_RX9_28 rfl jsn f2 ?_
        refine jg_aload_n dX9_fillOtherEntries_44 rfl (List.Mem.head _) ?_
        refine jg_getr dX9_fillOtherEntries_45 fl_RX9_104 rfl f8 f9 ?_
        refine jg_getl dX9_fillOtherEntries_48 fl_RX9_110 rfl f11 f12 ?_
        refine jg_l2i dX9_fillOtherEntries_51 ?_
        refine jg_aload_n dX9_fillOtherEntries_52 rfl (List.Mem.head _) ?_
        refine jg_getr dX9_fillOtherEntries_53 fl_RX9_144 rfl f8 f9 ?_
        obtain ⟨f14, hv⟩ := hv
        refine jg_getl dX9_fillOtherEntries_56 fl_RX9_131 rfl c10 f14 ?_
        refine jg_l2i dX9_fillOtherEntries_59 ?_
        refine jg_aload_n dX9_fillOtherEntries_60 rfl (List.Mem.head _) ?_
        refine jg_getr dX9_fillOtherEntries_61 fl_RX9_144 rfl f8 f9 ?_
        refine jg_geti dX9_fillOtherEntries_64 fl_RX9_154 rfl c10 f14 ?_
        obtain ⟨f15, hv⟩ := hv
        obtain ⟨f16, hv⟩ := hv
        refine jp_callV mX6_repeat [.inl ((jl h 192 (jd (jr h 7 (jd (jR h (jd (jr h 384 (jd (jr h 448 a0)))) (x1 : Int32).toNatClampNeg)))) : Int64).toInt32), .inl ((jl h 324 (jd (jr h 10 (jd (jR h (jd (jr h 384 (jd (jr h 448 a0)))) (x1 : Int32).toNatClampNeg)))) : Int64).toInt32), .inl (ji h 321 (jd (jr h 10 (jd (jR h (jd (jr h 384 (jd (jr h 448 a0)))) (x1 : Int32).toNatClampNeg)))))] [] dX9_fillOtherEntries_67 rfl cl_RX9_322 ⟨⟨by decide, by decide⟩, by decide⟩ f15 f16 (Nat.zero_le _) (Nat.zero_le _) (jM.mono (jkv_k (fun h18 hv => ?_)) hv)
        refine jg_iinc (v := (x1) + (-1)) (lv' := [(1, .inl ((x1) + (-1))), (2, .inr (.inr (jR h (jd (jr h 384 (jd (jr h 448 a0)))) (x1 : Int32).toNatClampNeg))), (0, .inr (.inr (some (a0))))]) dX9_fillOtherEntries_70 (List.Mem.tail _ (List.Mem.tail _ (List.Mem.head _))) rfl (by decide) rfl ?_
        refine jg_goto (tgt := 8) dX9_fillOtherEntries_73 (by decide) ?_
        refine jG.sub (lv' := [(0, .inr (.inr (some (a0)))), (1, .inl ((x1) + (-1)))]) (by simp) ?_
        exact hv
def VX9_fillOtherEntries_0 (g : jg) (a0 : Nat) (h : jh) (k n : Nat) (Q : jq) : Prop := (jt h a0 = 8) ∧ (¬ (jr h 448 a0) = none) ∧ (jt h (jd (jr h 448 a0)) = 7) ∧ jG g mX9_fillOtherEntries 8 [(0, .inr (.inr (some (a0)))), (1, .inl (ji h 385 (jd (jr h 448 a0))))] [] h k n Q
set_option maxRecDepth 20000 in
theorem vX9_fillOtherEntries_0 {g : jg} {a0 : Nat} {h : jh} {k n : Nat} {Q : jq} (hv : VX9_fillOtherEntries_0 g a0 h k n Q) : jG g mX9_fillOtherEntries 0 [(0, .inr (.inr (some (a0))))] [] h k n Q := by
  unfold VX9_fillOtherEntries_0 at hv
  refine jg_aload_n dX9_fillOtherEntries_0 rfl (List.Mem.head _) ?_
  obtain ⟨f19, hv⟩ := hv
  refine jg_getr dX9_fillOtherEntries_1 fl_RX9_10 rfl jsn f19 ?_
  obtain ⟨f20, hv⟩ := hv
  obtain ⟨f21, hv⟩ := hv
  refine jg_geti dX9_fillOtherEntries_4 fl_RX9_56 rfl f20 f21 ?_
  refine jg_istore_n (lv' := [(1, .inl (ji h 385 (jd (jr h 448 a0)))), (0, .inr (.inr (some (a0))))]) dX9_fillOtherEntries_7 rfl (by decide) rfl ?_
  refine jG.sub (lv' := [(0, .inr (.inr (some (a0)))), (1, .inl (ji h 385 (jd (jr h 448 a0))))]) (by simp) ?_
  exact hv
theorem eX9_fillOtherEntries {g : jg} {a0 : Nat} {h : jh} {mc ms : Nat} {Q : jq} (hv : VX9_fillOtherEntries_0 g a0 h mc ms Q) : jM g mX9_fillOtherEntries [.inr (.inr (some (a0)))] h mc ms Q := jM.of (by decide) (Nat.le_of_ble_eq_true rfl) (lv := [(0, .inr (.inr (some (a0))))]) rfl (vX9_fillOtherEntries_0 hv)
