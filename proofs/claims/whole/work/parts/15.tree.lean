/-! what the code asks, by program: X8_init X8_find X8_add X8_hasPlaceFor X8_around X8_latestTopRecord X8_latestNotNaming X8_latestOfLesserLevel X8_mayBeTable X8_mayRedefine X8_allBetweenRedefine X8_hasValues X8_firstOfName X8_records X8_tables X8_slackBytes -/
theorem dX8_init_0 : decode cX8_init 0 = .ok (.aload_n 0, 1) := by decide +kernel
theorem dX8_init_1 : decode cX8_init 1 = .ok (.invokespecial 3, 3) := by decide +kernel
theorem dX8_init_4 : decode cX8_init 4 = .ok (.aload_n 0, 1) := by decide +kernel
theorem dX8_init_5 : decode cX8_init 5 = .ok (.bipush 121, 2) := by decide +kernel
theorem dX8_init_7 : decode cX8_init 7 = .ok (.anewarray 9, 3) := by decide +kernel
theorem dX8_init_10 : decode cX8_init 10 = .ok (.putfield 11, 3) := by decide +kernel
theorem dX8_init_13 : decode cX8_init 13 = .ok (.aload_n 0, 1) := by decide +kernel
theorem dX8_init_14 : decode cX8_init 14 = .ok (.iconst 0, 1) := by decide +kernel
theorem dX8_init_15 : decode cX8_init 15 = .ok (.putfield 17, 3) := by decide +kernel
theorem dX8_init_18 : decode cX8_init 18 = .ok (.return_, 1) := by decide +kernel
def VX8_init_0 (g : jg) (a0 : Nat) (h : jh) (k n : Nat) (Q : jq) : Prop := (1 ≤ k) ∧ (121 ≤ n) ∧ ∀ h3 : jh, h3 = jmk h 23 121 → (jt h3 a0 = 7) ∧ ∀ h6 : jh, h6 = jsr h3 384 a0 (some (jz h)) → ∀ h8 : jh, h8 = jsi h6 385 a0 (0) → Q (.inl none) h8
set_option maxRecDepth 20000 in
theorem vX8_init_0 {g : jg} {a0 : Nat} {h : jh} {k n : Nat} {Q : jq} (hv : VX8_init_0 g a0 h k n Q) : jG g mX8_init 0 [(0, .inr (.inr (some (a0))))] [] h k n Q := by
  unfold VX8_init_0 at hv
  refine jg_aload_n dX8_init_0 rfl (List.Mem.head _) ?_
  refine jg_objInit dX8_init_1 jsn ol_X8_init oi_i oi_c (by decide) (by decide) ?_
  refine jg_aload_n dX8_init_4 rfl (List.Mem.head _) ?_
  refine jg_bipush (v := 121) dX8_init_5 (by decide) ?_
  obtain ⟨f1, hv⟩ := hv
  obtain ⟨f2, hv⟩ := hv
  obtain ⟨h3, e4⟩ : ∃ z : jh, z = jmk h 23 121 := ⟨_, rfl⟩
  replace hv := hv h3 e4
  refine jp_newR dX8_init_7 rl_RX8_9 (by decide) (by decide) f1 f2 e4 ?_
  obtain ⟨f5, hv⟩ := hv
  obtain ⟨h6, e7⟩ : ∃ z : jh, z = jsr h3 384 a0 (some (jz h)) := ⟨_, rfl⟩
  replace hv := hv h6 e7
  refine jp_putr dX8_init_10 (jfp.fin fl_RX8_11 (fun q hq => by cases hq; exact ⟨rfl, rfl⟩) rfl) rfl jsn f5 e7 ?_
  refine jg_aload_n dX8_init_13 rfl (List.Mem.head _) ?_
  refine jg_iconst (v := 0) dX8_init_14 (by decide) ?_
  obtain ⟨h8, e9⟩ : ∃ z : jh, z = jsi h6 385 a0 (0) := ⟨_, rfl⟩
  replace hv := hv h8 e9
  refine jp_puti dX8_init_15 (jfp.nf fl_RX8_17 (fun q hq => by cases hq; rfl)) rfl jsn ((congrArg (fun z => jt z a0) e7).trans f5) e9 ?_
  exact jg_vret dX8_init_18 rfl hv
theorem eX8_init {g : jg} {a0 : Nat} {h : jh} {mc ms : Nat} {Q : jq} (hv : VX8_init_0 g a0 h mc ms Q) : jM g mX8_init [.inr (.inr (some (a0)))] h mc ms Q := jM.of (by decide) (Nat.le_of_ble_eq_true rfl) (lv := [(0, .inr (.inr (some (a0))))]) rfl (vX8_init_0 hv)
theorem dX8_find_0 : decode cX8_find 0 = .ok (.iload_n 1, 1) := by decide +kernel
theorem dX8_find_1 : decode cX8_find 1 = .ok (.iconst 1, 1) := by decide +kernel
theorem dX8_find_2 : decode cX8_find 2 = .ok (.if_icmp .lt 17, 3) := by decide +kernel
theorem dX8_find_5 : decode cX8_find 5 = .ok (.iload_n 1, 1) := by decide +kernel
theorem dX8_find_6 : decode cX8_find 6 = .ok (.aload_n 0, 1) := by decide +kernel
theorem dX8_find_7 : decode cX8_find 7 = .ok (.getfield 17, 3) := by decide +kernel
theorem dX8_find_10 : decode cX8_find 10 = .ok (.if_icmp .gt 9, 3) := by decide +kernel
theorem dX8_find_13 : decode cX8_find 13 = .ok (.iload_n 1, 1) := by decide +kernel
theorem dX8_find_14 : decode cX8_find 14 = .ok (.bipush 120, 2) := by decide +kernel
theorem dX8_find_16 : decode cX8_find 16 = .ok (.if_icmp .le 7, 3) := by decide +kernel
theorem dX8_find_19 : decode cX8_find 19 = .ok (.aconst_null, 1) := by decide +kernel
theorem dX8_find_20 : decode cX8_find 20 = .ok (.goto 9, 3) := by decide +kernel
theorem dX8_find_23 : decode cX8_find 23 = .ok (.aload_n 0, 1) := by decide +kernel
theorem dX8_find_24 : decode cX8_find 24 = .ok (.getfield 11, 3) := by decide +kernel
theorem dX8_find_27 : decode cX8_find 27 = .ok (.iload_n 1, 1) := by decide +kernel
theorem dX8_find_28 : decode cX8_find 28 = .ok (.aaload, 1) := by decide +kernel
theorem dX8_find_29 : decode cX8_find 29 = .ok (.areturn, 1) := by decide +kernel
def VX8_find_0 (g : jg) (a0 : Nat) (x1 : Int32) (h : jh) (k n : Nat) (Q : jq) : Prop := (((x1) < (1) → Q (.inl (some (.inr (.inr (none))))) h) ∧ (¬ (x1) < (1) → (jt h a0 = 7) ∧ (((ji h 385 a0) < (x1) → Q (.inl (some (.inr (.inr (none))))) h) ∧ (¬ (ji h 385 a0) < (x1) → (((x1) ≤ (120) → (¬ (jr h 384 a0) = none) ∧ (jt h (jd (jr h 384 a0)) = 23) ∧ (vp_in (x1) (jn h (jd (jr h 384 a0)))) ∧ Q (.inl (some (.inr (.inr (jR h (jd (jr h 384 a0)) (x1 : Int32).toNatClampNeg))))) h) ∧ (¬ (x1) ≤ (120) → Q (.inl (some (.inr (.inr (none))))) h))))))
set_option maxRecDepth 20000 in
theorem vX8_find_0 {g : jg} {a0 : Nat} {x1 : Int32} {h : jh} {k n : Nat} {Q : jq} (hv : VX8_find_0 g a0 x1 h k n Q) : jG g mX8_find 0 [(0, .inr (.inr (some (a0)))), (1, .inl (x1))] [] h k n Q := by
  unfold VX8_find_0 at hv
  refine jg_iload_n dX8_find_0 rfl (List.Mem.tail _ (List.Mem.head _)) ?_
  refine jg_iconst (v := 1) dX8_find_1 (by decide) ?_
  refine jg_icmp_lt (tgt := 19) dX8_find_2 (by decide) (fun c1 => ?_) (fun c1 => ?_)
  · replace hv := hv.1 c1
    refine jg_null dX8_find_19 ?_
    refine jg_goto (tgt := 29) dX8_find_20 (by decide) ?_
    exact jg_aret dX8_find_29 rfl hv
  · replace hv := hv.2 c1
    refine jg_iload_n dX8_find_5 rfl (List.Mem.tail _ (List.Mem.head _)) ?_
    refine jg_aload_n dX8_find_6 rfl (List.Mem.head _) ?_
    obtain ⟨f2, hv⟩ := hv
    refine jg_geti dX8_find_7 fl_RX8_17 rfl jsn f2 ?_
    refine jg_icmp_gt (tgt := 19) dX8_find_10 (by decide) (fun c3 => ?_) (fun c3 => ?_)
    · replace hv := hv.1 c3
      refine jg_null dX8_find_19 ?_
      refine jg_goto (tgt := 29) dX8_find_20 (by decide) ?_
      exact jg_aret dX8_find_29 rfl hv
    · replace hv := hv.2 c3
      refine jg_iload_n dX8_find_13 rfl (List.Mem.tail _ (List.Mem.head _)) ?_
      refine jg_bipush (v := 120) dX8_find_14 (by decide) ?_
      refine jg_icmp_le (tgt := 23) dX8_find_16 (by decide) (fun c4 => ?_) (fun c4 => ?_)
      · replace hv := hv.1 c4
        refine jg_aload_n dX8_find_23 rfl (List.Mem.head _) ?_
        refine jg_getr dX8_find_24 fl_RX8_11 rfl jsn f2 ?_
        refine jg_iload_n dX8_find_27 rfl (List.Mem.tail _ (List.Mem.head _)) ?_
        obtain ⟨f5, hv⟩ := hv
        obtain ⟨f6, hv⟩ := hv
        obtain ⟨f7, hv⟩ := hv
        refine jg_aald dX8_find_28 f5 f6 f7 ?_
        exact jg_aret dX8_find_29 rfl hv
      · replace hv := hv.2 c4
        refine jg_null dX8_find_19 ?_
        refine jg_goto (tgt := 29) dX8_find_20 (by decide) ?_
        exact jg_aret dX8_find_29 rfl hv
theorem eX8_find {g : jg} {a0 : Nat} {x1 : Int32} {h : jh} {mc ms : Nat} {Q : jq} (hv : VX8_find_0 g a0 x1 h mc ms Q) : jM g mX8_find [.inr (.inr (some (a0))), .inl (x1)] h mc ms Q := jM.of (by decide) (Nat.le_of_ble_eq_true rfl) (lv := [(0, .inr (.inr (some (a0)))), (1, .inl (x1))]) rfl (vX8_find_0 hv)
theorem dX8_add_0 : decode cX8_add 0 = .ok (.aload_n 0, 1) := by decide +kernel
theorem dX8_add_1 : decode cX8_add 1 = .ok (.getfield 17, 3) := by decide +kernel
theorem dX8_add_4 : decode cX8_add 4 = .ok (.bipush 120, 2) := by decide +kernel
theorem dX8_add_6 : decode cX8_add 6 = .ok (.if_icmp .lt 4, 3) := by decide +kernel
theorem dX8_add_9 : decode cX8_add 9 = .ok (.return_, 1) := by decide +kernel
theorem dX8_add_10 : decode cX8_add 10 = .ok (.aload_n 0, 1) := by decide +kernel
theorem dX8_add_11 : decode cX8_add 11 = .ok (.aload_n 0, 1) := by decide +kernel
theorem dX8_add_12 : decode cX8_add 12 = .ok (.getfield 17, 3) := by decide +kernel
theorem dX8_add_15 : decode cX8_add 15 = .ok (.invokevirtual 21, 3) := by decide +kernel
theorem dX8_add_18 : decode cX8_add 18 = .ok (.astore 4, 2) := by decide +kernel
theorem dX8_add_20 : decode cX8_add 20 = .ok (.aload_n 0, 1) := by decide +kernel
theorem dX8_add_21 : decode cX8_add 21 = .ok (.iload_n 1, 1) := by decide +kernel
theorem dX8_add_22 : decode cX8_add 22 = .ok (.invokevirtual 25, 3) := by decide +kernel
theorem dX8_add_25 : decode cX8_add 25 = .ok (.astore 5, 2) := by decide +kernel
theorem dX8_add_27 : decode cX8_add 27 = .ok (.new 9, 3) := by decide +kernel
theorem dX8_add_30 : decode cX8_add 30 = .ok (.dup, 1) := by decide +kernel
theorem dX8_add_31 : decode cX8_add 31 = .ok (.aload_n 0, 1) := by decide +kernel
theorem dX8_add_32 : decode cX8_add 32 = .ok (.getfield 17, 3) := by decide +kernel
theorem dX8_add_35 : decode cX8_add 35 = .ok (.iconst 1, 1) := by decide +kernel
theorem dX8_add_36 : decode cX8_add 36 = .ok (.iadd, 1) := by decide +kernel
theorem dX8_add_37 : decode cX8_add 37 = .ok (.iload_n 1, 1) := by decide +kernel
theorem dX8_add_38 : decode cX8_add 38 = .ok (.iload_n 2, 1) := by decide +kernel
theorem dX8_add_39 : decode cX8_add 39 = .ok (.iload_n 3, 1) := by decide +kernel
theorem dX8_add_40 : decode cX8_add 40 = .ok (.aload 5, 2) := by decide +kernel
theorem dX8_add_42 : decode cX8_add 42 = .ok (.invokespecial 28, 3) := by decide +kernel
theorem dX8_add_45 : decode cX8_add 45 = .ok (.astore 6, 2) := by decide +kernel
theorem dX8_add_47 : decode cX8_add 47 = .ok (.aload 6, 2) := by decide +kernel
theorem dX8_add_49 : decode cX8_add 49 = .ok (.iload_n 1, 1) := by decide +kernel
theorem dX8_add_50 : decode cX8_add 50 = .ok (.iconst 1, 1) := by decide +kernel
theorem dX8_add_51 : decode cX8_add 51 = .ok (.if_icmp .eq 14, 3) := by decide +kernel
theorem dX8_add_54 : decode cX8_add 54 = .ok (.iload_n 1, 1) := by decide +kernel
theorem dX8_add_55 : decode cX8_add 55 = .ok (.bipush 77, 2) := by decide +kernel
theorem dX8_add_57 : decode cX8_add 57 = .ok (.if_icmp .eq 8, 3) := by decide +kernel
theorem dX8_add_60 : decode cX8_add 60 = .ok (.aload 4, 2) := by decide +kernel
theorem dX8_add_62 : decode cX8_add 62 = .ok (.ifnonnull 8, 3) := by decide +kernel
theorem dX8_add_65 : decode cX8_add 65 = .ok (.aload 6, 2) := by decide +kernel
theorem dX8_add_67 : decode cX8_add 67 = .ok (.goto 8, 3) := by decide +kernel
theorem dX8_add_70 : decode cX8_add 70 = .ok (.aload 4, 2) := by decide +kernel
theorem dX8_add_72 : decode cX8_add 72 = .ok (.getfield 31, 3) := by decide +kernel
theorem dX8_add_75 : decode cX8_add 75 = .ok (.putfield 31, 3) := by decide +kernel
theorem dX8_add_78 : decode cX8_add 78 = .ok (.aload 5, 2) := by decide +kernel
theorem dX8_add_80 : decode cX8_add 80 = .ok (.ifnull 15, 3) := by decide +kernel
theorem dX8_add_83 : decode cX8_add 83 = .ok (.iload_n 1, 1) := by decide +kernel
theorem dX8_add_84 : decode cX8_add 84 = .ok (.bipush 49, 2) := by decide +kernel
theorem dX8_add_86 : decode cX8_add 86 = .ok (.if_icmp .gt 9, 3) := by decide +kernel
theorem dX8_add_89 : decode cX8_add 89 = .ok (.aload 5, 2) := by decide +kernel
theorem dX8_add_91 : decode cX8_add 91 = .ok (.iload_n 1, 1) := by decide +kernel
theorem dX8_add_92 : decode cX8_add 92 = .ok (.putfield 35, 3) := by decide +kernel
theorem dX8_add_95 : decode cX8_add 95 = .ok (.aload_n 0, 1) := by decide +kernel
theorem dX8_add_96 : decode cX8_add 96 = .ok (.dup, 1) := by decide +kernel
theorem dX8_add_97 : decode cX8_add 97 = .ok (.getfield 17, 3) := by decide +kernel
theorem dX8_add_100 : decode cX8_add 100 = .ok (.iconst 1, 1) := by decide +kernel
theorem dX8_add_101 : decode cX8_add 101 = .ok (.iadd, 1) := by decide +kernel
theorem dX8_add_102 : decode cX8_add 102 = .ok (.putfield 17, 3) := by decide +kernel
theorem dX8_add_105 : decode cX8_add 105 = .ok (.aload_n 0, 1) := by decide +kernel
theorem dX8_add_106 : decode cX8_add 106 = .ok (.getfield 11, 3) := by decide +kernel
theorem dX8_add_109 : decode cX8_add 109 = .ok (.aload_n 0, 1) := by decide +kernel
theorem dX8_add_110 : decode cX8_add 110 = .ok (.getfield 17, 3) := by decide +kernel
theorem dX8_add_113 : decode cX8_add 113 = .ok (.aload 6, 2) := by decide +kernel
theorem dX8_add_115 : decode cX8_add 115 = .ok (.aastore, 1) := by decide +kernel
theorem dX8_add_116 : decode cX8_add 116 = .ok (.return_, 1) := by decide +kernel
def VX8_add_95 (g : jg) (a0 : Nat) (o6 : Option Nat) (h : jh) (k n : Nat) (Q : jq) : Prop := (jt h a0 = 7) ∧ ∀ h2 : jh, h2 = jsi h 385 a0 ((ji h 385 a0) + (1)) → (¬ (jr h2 384 a0) = none) ∧ (jt h2 (jd (jr h2 384 a0)) = 23) ∧ (vp_in (ji h2 385 a0) (jn h2 (jd (jr h2 384 a0)))) ∧ (¬ (o6) = none) ∧ (jt h2 (jd (o6)) = 1) ∧ ∀ h9 : jh, h9 = jsR h2 (jd (jr h2 384 a0)) (ji h2 385 a0 : Int32).toNatClampNeg (some (jd (o6))) → Q (.inl none) h9
set_option maxRecDepth 20000 in
theorem vX8_add_95 {g : jg} {a0 : Nat} {o6 : Option Nat} {h : jh} {k n : Nat} {Q : jq} (hv : VX8_add_95 g a0 o6 h k n Q) : jG g mX8_add 95 [(0, .inr (.inr (some (a0)))), (6, .inr (.inr (o6)))] [] h k n Q := by
  unfold VX8_add_95 at hv
  refine jg_aload_n dX8_add_95 rfl (List.Mem.head _) ?_
  refine jg_dup dX8_add_96 rfl ?_
  obtain ⟨f1, hv⟩ := hv
  refine jg_geti dX8_add_97 fl_RX8_17 rfl jsn f1 ?_
  refine jg_iconst (v := 1) dX8_add_100 (by decide) ?_
  refine jg_iadd dX8_add_101 ?_
  obtain ⟨h2, e3⟩ : ∃ z : jh, z = jsi h 385 a0 ((ji h 385 a0) + (1)) := ⟨_, rfl⟩
  replace hv := hv h2 e3
  refine jp_puti dX8_add_102 (jfp.nf fl_RX8_17 (fun q hq => by cases hq; rfl)) rfl jsn f1 e3 ?_
  refine jg_aload_n dX8_add_105 rfl (List.Mem.head _) ?_
  refine jg_getr dX8_add_106 fl_RX8_11 rfl jsn ((congrArg (fun z => jt z a0) e3).trans f1) ?_
  refine jg_aload_n dX8_add_109 rfl (List.Mem.head _) ?_
  refine jg_geti dX8_add_110 fl_RX8_17 rfl jsn ((congrArg (fun z => jt z a0) e3).trans f1) ?_
  refine jg_aload dX8_add_113 (List.Mem.tail _ (List.Mem.head _)) ?_
  obtain ⟨f4, hv⟩ := hv
  obtain ⟨f5, hv⟩ := hv
  obtain ⟨f6, hv⟩ := hv
  obtain ⟨f7, hv⟩ := hv
  obtain ⟨f8, hv⟩ := hv
  obtain ⟨h9, e10⟩ : ∃ z : jh, z = jsR h2 (jd (jr h2 384 a0)) (ji h2 385 a0 : Int32).toNatClampNeg (some (jd (o6))) := ⟨_, rfl⟩
  replace hv := hv h9 e10
  refine jp_aasto dX8_add_115 f4 f5 f6 f7 f8 e10 ?_
  exact jg_vret dX8_add_116 rfl hv
def VX8_add_75 (g : jg) (a0 : Nat) (x1 : Int32) (o5 : Option Nat) (o6 : Option Nat) (so0 : Option Nat) (so1 : Option Nat) (h : jh) (k n : Nat) (Q : jq) : Prop := (¬ (so0) = none) ∧ (jt h (jd (so0)) = 1) ∧ ∀ h13 : jh, h13 = jsr h 8 (jd (so0)) (so1) → (((o5) = none → VX8_add_95 g (a0) (o6) h13 k n Q) ∧ (¬ (o5) = none → (((49 : Int32) < (x1) → VX8_add_95 g (a0) (o6) h13 k n Q) ∧ (¬ (49 : Int32) < (x1) → (jt h13 (jd (o5)) = 1) ∧ ∀ h18 : jh, h18 = jsi h13 9 (jd (o5)) (x1) → VX8_add_95 g (a0) (o6) h18 k n Q))))
set_option maxRecDepth 20000 in
theorem vX8_add_75 {g : jg} {a0 : Nat} {x1 : Int32} {o5 : Option Nat} {o6 : Option Nat} {so0 : Option Nat} {so1 : Option Nat} {h : jh} {k n : Nat} {Q : jq} (hv : VX8_add_75 g a0 x1 o5 o6 so0 so1 h k n Q) : jG g mX8_add 75 [(0, .inr (.inr (some (a0)))), (1, .inl (x1)), (5, .inr (.inr (o5))), (6, .inr (.inr (o6)))] [.inr (.inr (so1)), .inr (.inr (so0))] h k n Q := by
  unfold VX8_add_75 at hv
  obtain ⟨f11, hv⟩ := hv
  obtain ⟨f12, hv⟩ := hv
  obtain ⟨h13, e14⟩ : ∃ z : jh, z = jsr h 8 (jd (so0)) (so1) := ⟨_, rfl⟩
  replace hv := hv h13 e14
  refine jp_putr dX8_add_75 (jfp.nf fl_RX8_31 (fun q hq => by cases hq; rfl)) rfl f11 f12 e14 ?_
  refine jg_aload dX8_add_78 (List.Mem.tail _ (List.Mem.tail _ (List.Mem.head _))) ?_
  refine jg_ifnull (tgt := 95) dX8_add_80 (by decide) (fun c15 => ?_) (fun c15 => ?_)
  · replace hv := hv.1 c15
    refine jG.sub (lv' := [(0, .inr (.inr (some (a0)))), (6, .inr (.inr (o6)))]) (by simp) ?_
    exact vX8_add_95 hv
  · replace hv := hv.2 c15
    refine jg_iload_n dX8_add_83 rfl (List.Mem.tail _ (List.Mem.head _)) ?_
    refine jg_bipush (v := 49) dX8_add_84 (by decide) ?_
    refine jg_icmp_gt (tgt := 95) dX8_add_86 (by decide) (fun c16 => ?_) (fun c16 => ?_)
    · replace hv := hv.1 c16
      refine jG.sub (lv' := [(0, .inr (.inr (some (a0)))), (6, .inr (.inr (o6)))]) (by simp) ?_
      exact vX8_add_95 hv
    · replace hv := hv.2 c16
      refine jg_aload dX8_add_89 (List.Mem.tail _ (List.Mem.tail _ (List.Mem.head _))) ?_
      refine jg_iload_n dX8_add_91 rfl (List.Mem.tail _ (List.Mem.head _)) ?_
      obtain ⟨f17, hv⟩ := hv
      obtain ⟨h18, e19⟩ : ∃ z : jh, z = jsi h13 9 (jd (o5)) (x1) := ⟨_, rfl⟩
      replace hv := hv h18 e19
      refine jp_puti dX8_add_92 (jfp.nf fl_RX8_35 (fun q hq => by cases hq; rfl)) rfl c15 f17 e19 ?_
      refine jG.sub (lv' := [(0, .inr (.inr (some (a0)))), (6, .inr (.inr (o6)))]) (by simp) ?_
      exact vX8_add_95 hv
def VX8_add_0 (g : jg) (a0 : Nat) (x1 : Int32) (x2 : Int32) (x3 : Int32) (h : jh) (k n : Nat) (Q : jq) : Prop := (jt h a0 = 7) ∧ (((ji h 385 a0) < (120) → jM g mX8_find [.inr (.inr (some a0)), .inl (ji h 385 a0)] h 0 0 (jkr (fun (r22 : Option Nat) (h23 : jh) => (jt h23 a0 = 7) ∧ jM g mX8_around [.inr (.inr (some a0)), .inl (x1)] h23 0 0 (jkr (fun (r25 : Option Nat) (h26 : jh) => (1 ≤ k) ∧ (20 ≤ n) ∧ ∀ h29 : jh, h29 = jmk h26 1 0 → (jt h29 a0 = 7) ∧ ∃ mc34 ms35 : Nat, mc34 ≤ (k - 1) ∧ ms35 ≤ (n - 20) ∧ jM g mX0_init [.inr (.inr (some (jz h26))), .inl ((ji h29 385 a0) + (1)), .inl (x1), .inl (x2), .inl (x3), .inr (.inr (r25))] h29 mc34 ms35 (jkv (fun (h33 : jh) => (((x1) = (1) → VX8_add_75 g (a0) (x1) (r25) (some (jz h26)) (some (jz h26)) (some (jz h26)) h33 ((k - 1) - mc34) ((n - 20) - ms35) Q) ∧ (¬ (x1) = (1) → (((x1) = (77) → VX8_add_75 g (a0) (x1) (r25) (some (jz h26)) (some (jz h26)) (some (jz h26)) h33 ((k - 1) - mc34) ((n - 20) - ms35) Q) ∧ (¬ (x1) = (77) → ((¬ (r22) = none → (jt h33 (jd (r22)) = 1) ∧ VX8_add_75 g (a0) (x1) (r25) (some (jz h26)) (some (jz h26)) (jr h33 8 (jd (r22))) h33 ((k - 1) - mc34) ((n - 20) - ms35) Q) ∧ ((r22) = none → VX8_add_75 g (a0) (x1) (r25) (some (jz h26)) (some (jz h26)) (some (jz h26)) h33 ((k - 1) - mc34) ((n - 20) - ms35) Q))))))) (fun _ _ => False))) (fun e h9 => Q (.inr e) h9))) (fun e h9 => Q (.inr e) h9))) ∧ (¬ (ji h 385 a0) < (120) → Q (.inl none) h))
set_option maxRecDepth 20000 in
theorem vX8_add_0 {g : jg} {a0 : Nat} {x1 : Int32} {x2 : Int32} {x3 : Int32} {h : jh} {k n : Nat} {Q : jq} (hv : VX8_add_0 g a0 x1 x2 x3 h k n Q) : jG g mX8_add 0 [(0, .inr (.inr (some (a0)))), (1, .inl (x1)), (2, .inl (x2)), (3, .inl (x3))] [] h k n Q := by
  unfold VX8_add_0 at hv
  refine jg_aload_n dX8_add_0 rfl (List.Mem.head _) ?_
  obtain ⟨f20, hv⟩ := hv
  refine jg_geti dX8_add_1 fl_RX8_17 rfl jsn f20 ?_
  refine jg_bipush (v := 120) dX8_add_4 (by decide) ?_
  refine jg_icmp_lt (tgt := 10) dX8_add_6 (by decide) (fun c21 => ?_) (fun c21 => ?_)
  · replace hv := hv.1 c21
    refine jg_aload_n dX8_add_10 rfl (List.Mem.head _) ?_
    refine jg_aload_n dX8_add_11 rfl (List.Mem.head _) ?_
    refine jg_geti dX8_add_12 fl_RX8_17 rfl jsn f20 ?_
    refine jp_callV mX8_find [.inl (ji h 385 a0)] [] dX8_add_15 rfl cl_RX8_21 ⟨⟨by decide, by decide⟩, by decide⟩ jsn f20 (Nat.zero_le _) (Nat.zero_le _) (jM.mono (jkr_k (fun r22 h23 hv => ?_)) hv)
    refine jg_astore (lv' := [(4, .inr (.inr (r22))), (0, .inr (.inr (some (a0)))), (1, .inl (x1)), (2, .inl (x2)), (3, .inl (x3))]) dX8_add_18 (by decide) rfl ?_
    refine jg_aload_n dX8_add_20 rfl (List.Mem.tail _ (List.Mem.head _)) ?_
    refine jg_iload_n dX8_add_21 rfl (List.Mem.tail _ (List.Mem.tail _ (List.Mem.head _))) ?_
    obtain ⟨f24, hv⟩ := hv
    refine jp_callV mX8_around [.inl (x1)] [] dX8_add_22 rfl cl_RX8_25 ⟨⟨by decide, by decide⟩, by decide⟩ jsn f24 (Nat.zero_le _) (Nat.zero_le _) (jM.mono (jkr_k (fun r25 h26 hv => ?_)) hv)
    refine jg_astore (lv' := [(5, .inr (.inr (r25))), (4, .inr (.inr (r22))), (0, .inr (.inr (some (a0)))), (1, .inl (x1)), (2, .inl (x2)), (3, .inl (x3))]) dX8_add_25 (by decide) rfl ?_
    obtain ⟨f27, hv⟩ := hv
    obtain ⟨f28, hv⟩ := hv
    obtain ⟨h29, e30⟩ : ∃ z : jh, z = jmk h26 1 0 := ⟨_, rfl⟩
    replace hv := hv h29 e30
    refine jp_new dX8_add_27 nl_RX8_9 f27 f28 e30 ?_
    refine jg_dup dX8_add_30 rfl ?_
    refine jg_aload_n dX8_add_31 rfl (List.Mem.tail _ (List.Mem.tail _ (List.Mem.head _))) ?_
    obtain ⟨f31, hv⟩ := hv
    refine jg_geti dX8_add_32 fl_RX8_17 rfl jsn f31 ?_
    refine jg_iconst (v := 1) dX8_add_35 (by decide) ?_
    refine jg_iadd dX8_add_36 ?_
    refine jg_iload_n dX8_add_37 rfl (List.Mem.tail _ (List.Mem.tail _ (List.Mem.tail _ (List.Mem.head _)))) ?_
    refine jg_iload_n dX8_add_38 rfl (List.Mem.tail _ (List.Mem.tail _ (List.Mem.tail _ (List.Mem.tail _ (List.Mem.head _))))) ?_
    refine jg_iload_n dX8_add_39 rfl (List.Mem.tail _ (List.Mem.tail _ (List.Mem.tail _ (List.Mem.tail _ (List.Mem.tail _ (List.Mem.head _)))))) ?_
    refine jg_aload dX8_add_40 (List.Mem.head _) ?_
    obtain ⟨mc34, ms35, f36, f37, hv⟩ := hv
    refine jg_callI mX0_init [.inl ((ji h29 385 a0) + (1)), .inl (x1), .inl (x2), .inl (x3), .inr (.inr (r25))] [.inr (.inr (some (jz h26)))] dX8_add_42 rfl cl_RX8_28 ⟨⟨by decide, by decide⟩, jcat_le _ (Nat.le_of_ble_eq_true rfl)⟩ f36 f37 (jM.mono (jkv_k (fun h33 hv => ?_)) hv)
    refine jg_astore (lv' := [(6, .inr (.inr (some (jz h26)))), (5, .inr (.inr (r25))), (4, .inr (.inr (r22))), (0, .inr (.inr (some (a0)))), (1, .inl (x1)), (2, .inl (x2)), (3, .inl (x3))]) dX8_add_45 (by decide) rfl ?_
    refine jg_aload dX8_add_47 (List.Mem.head _) ?_
    refine jg_iload_n dX8_add_49 rfl (List.Mem.tail _ (List.Mem.tail _ (List.Mem.tail _ (List.Mem.tail _ (List.Mem.head _))))) ?_
    refine jg_iconst (v := 1) dX8_add_50 (by decide) ?_
    refine jg_icmp_eq (tgt := 65) dX8_add_51 (by decide) (fun c38 => ?_) (fun c38 => ?_)
    · replace hv := hv.1 c38
      refine jg_aload dX8_add_65 (List.Mem.head _) ?_
      refine jg_goto (tgt := 75) dX8_add_67 (by decide) ?_
      refine jG.sub (lv' := [(0, .inr (.inr (some (a0)))), (1, .inl (x1)), (5, .inr (.inr (r25))), (6, .inr (.inr (some (jz h26))))]) (by simp) ?_
      exact vX8_add_75 hv
    · replace hv := hv.2 c38
      refine jg_iload_n dX8_add_54 rfl (List.Mem.tail _ (List.Mem.tail _ (List.Mem.tail _ (List.Mem.tail _ (List.Mem.head _))))) ?_
      refine jg_bipush (v := 77) dX8_add_55 (by decide) ?_
      refine jg_icmp_eq (tgt := 65) dX8_add_57 (by decide) (fun c39 => ?_) (fun c39 => ?_)
      · replace hv := hv.1 c39
        refine jg_aload dX8_add_65 (List.Mem.head _) ?_
        refine jg_goto (tgt := 75) dX8_add_67 (by decide) ?_
        refine jG.sub (lv' := [(0, .inr (.inr (some (a0)))), (1, .inl (x1)), (5, .inr (.inr (r25))), (6, .inr (.inr (some (jz h26))))]) (by simp) ?_
        exact vX8_add_75 hv
      · replace hv := hv.2 c39
        refine jg_aload dX8_add_60 (List.Mem.tail _ (List.Mem.tail _ (List.Mem.head _))) ?_
        refine jg_ifnonnull (tgt := 70) dX8_add_62 (by decide) (fun c40 => ?_) (fun c40 => ?_)
        · replace hv := hv.1 c40
          refine jg_aload dX8_add_70 (List.Mem.tail _ (List.Mem.tail _ (List.Mem.head _))) ?_
          obtain ⟨f41, hv⟩ := hv
          refine jg_getr dX8_add_72 fl_RX8_31 rfl c40 f41 ?_
          refine jG.sub (lv' := [(0, .inr (.inr (some (a0)))), (1, .inl (x1)), (5, .inr (.inr (r25))), (6, .inr (.inr (some (jz h26))))]) (by simp) ?_
          exact vX8_add_75 hv
        · replace hv := hv.2 c40
          refine jg_aload dX8_add_65 (List.Mem.head _) ?_
          refine jg_goto (tgt := 75) dX8_add_67 (by decide) ?_
          refine jG.sub (lv' := [(0, .inr (.inr (some (a0)))), (1, .inl (x1)), (5, .inr (.inr (r25))), (6, .inr (.inr (some (jz h26))))]) (by simp) ?_
          exact vX8_add_75 hv
  · replace hv := hv.2 c21
    exact jg_vret dX8_add_9 rfl hv
theorem eX8_add {g : jg} {a0 : Nat} {x1 : Int32} {x2 : Int32} {x3 : Int32} {h : jh} {mc ms : Nat} {Q : jq} (hv : VX8_add_0 g a0 x1 x2 x3 h mc ms Q) : jM g mX8_add [.inr (.inr (some (a0))), .inl (x1), .inl (x2), .inl (x3)] h mc ms Q := jM.of (by decide) (Nat.le_of_ble_eq_true rfl) (lv := [(0, .inr (.inr (some (a0)))), (1, .inl (x1)), (2, .inl (x2)), (3, .inl (x3))]) rfl (vX8_add_0 hv)
theorem dX8_hasPlaceFor_0 : decode cX8_hasPlaceFor 0 = .ok (.iload_n 1, 1) := by decide +kernel
theorem dX8_hasPlaceFor_1 : decode cX8_hasPlaceFor 1 = .ok (.iconst 1, 1) := by decide +kernel
theorem dX8_hasPlaceFor_2 : decode cX8_hasPlaceFor 2 = .ok (.if_icmp .eq 9, 3) := by decide +kernel
theorem dX8_hasPlaceFor_5 : decode cX8_hasPlaceFor 5 = .ok (.iload_n 1, 1) := by decide +kernel
theorem dX8_hasPlaceFor_6 : decode cX8_hasPlaceFor 6 = .ok (.bipush 77, 2) := by decide +kernel
theorem dX8_hasPlaceFor_8 : decode cX8_hasPlaceFor 8 = .ok (.if_icmp .ne 5, 3) := by decide +kernel
theorem dX8_hasPlaceFor_11 : decode cX8_hasPlaceFor 11 = .ok (.iconst 1, 1) := by decide +kernel
theorem dX8_hasPlaceFor_12 : decode cX8_hasPlaceFor 12 = .ok (.ireturn, 1) := by decide +kernel
theorem dX8_hasPlaceFor_13 : decode cX8_hasPlaceFor 13 = .ok (.aload_n 0, 1) := by decide +kernel
theorem dX8_hasPlaceFor_14 : decode cX8_hasPlaceFor 14 = .ok (.iload_n 1, 1) := by decide +kernel
theorem dX8_hasPlaceFor_15 : decode cX8_hasPlaceFor 15 = .ok (.invokevirtual 25, 3) := by decide +kernel
theorem dX8_hasPlaceFor_18 : decode cX8_hasPlaceFor 18 = .ok (.astore_n 2, 1) := by decide +kernel
theorem dX8_hasPlaceFor_19 : decode cX8_hasPlaceFor 19 = .ok (.aload_n 2, 1) := by decide +kernel
theorem dX8_hasPlaceFor_20 : decode cX8_hasPlaceFor 20 = .ok (.ifnonnull 5, 3) := by decide +kernel
theorem dX8_hasPlaceFor_23 : decode cX8_hasPlaceFor 23 = .ok (.iconst 0, 1) := by decide +kernel
theorem dX8_hasPlaceFor_24 : decode cX8_hasPlaceFor 24 = .ok (.ireturn, 1) := by decide +kernel
theorem dX8_hasPlaceFor_25 : decode cX8_hasPlaceFor 25 = .ok (.iload_n 1, 1) := by decide +kernel
theorem dX8_hasPlaceFor_26 : decode cX8_hasPlaceFor 26 = .ok (.bipush 88, 2) := by decide +kernel
theorem dX8_hasPlaceFor_28 : decode cX8_hasPlaceFor 28 = .ok (.if_icmp .ne 8, 3) := by decide +kernel
theorem dX8_hasPlaceFor_31 : decode cX8_hasPlaceFor 31 = .ok (.aload_n 2, 1) := by decide +kernel
theorem dX8_hasPlaceFor_32 : decode cX8_hasPlaceFor 32 = .ok (.invokevirtual 38, 3) := by decide +kernel
theorem dX8_hasPlaceFor_35 : decode cX8_hasPlaceFor 35 = .ok (.ireturn, 1) := by decide +kernel
theorem dX8_hasPlaceFor_36 : decode cX8_hasPlaceFor 36 = .ok (.aload_n 2, 1) := by decide +kernel
theorem dX8_hasPlaceFor_37 : decode cX8_hasPlaceFor 37 = .ok (.getfield 42, 3) := by decide +kernel
theorem dX8_hasPlaceFor_40 : decode cX8_hasPlaceFor 40 = .ok (.ifCond .eq 5, 3) := by decide +kernel
theorem dX8_hasPlaceFor_43 : decode cX8_hasPlaceFor 43 = .ok (.iconst 0, 1) := by decide +kernel
theorem dX8_hasPlaceFor_44 : decode cX8_hasPlaceFor 44 = .ok (.ireturn, 1) := by decide +kernel
theorem dX8_hasPlaceFor_45 : decode cX8_hasPlaceFor 45 = .ok (.iload_n 1, 1) := by decide +kernel
theorem dX8_hasPlaceFor_46 : decode cX8_hasPlaceFor 46 = .ok (.bipush 66, 2) := by decide +kernel
theorem dX8_hasPlaceFor_48 : decode cX8_hasPlaceFor 48 = .ok (.if_icmp .eq 18, 3) := by decide +kernel
theorem dX8_hasPlaceFor_51 : decode cX8_hasPlaceFor 51 = .ok (.aload_n 2, 1) := by decide +kernel
theorem dX8_hasPlaceFor_52 : decode cX8_hasPlaceFor 52 = .ok (.getfield 35, 3) := by decide +kernel
theorem dX8_hasPlaceFor_55 : decode cX8_hasPlaceFor 55 = .ok (.ifCond .eq 11, 3) := by decide +kernel
theorem dX8_hasPlaceFor_58 : decode cX8_hasPlaceFor 58 = .ok (.aload_n 2, 1) := by decide +kernel
theorem dX8_hasPlaceFor_59 : decode cX8_hasPlaceFor 59 = .ok (.getfield 35, 3) := by decide +kernel
theorem dX8_hasPlaceFor_62 : decode cX8_hasPlaceFor 62 = .ok (.iload_n 1, 1) := by decide +kernel
theorem dX8_hasPlaceFor_63 : decode cX8_hasPlaceFor 63 = .ok (.if_icmp .ne 7, 3) := by decide +kernel
theorem dX8_hasPlaceFor_66 : decode cX8_hasPlaceFor 66 = .ok (.iconst 1, 1) := by decide +kernel
theorem dX8_hasPlaceFor_67 : decode cX8_hasPlaceFor 67 = .ok (.goto 4, 3) := by decide +kernel
theorem dX8_hasPlaceFor_70 : decode cX8_hasPlaceFor 70 = .ok (.iconst 0, 1) := by decide +kernel
theorem dX8_hasPlaceFor_71 : decode cX8_hasPlaceFor 71 = .ok (.ireturn, 1) := by decide +kernel
def VX8_hasPlaceFor_0 (g : jg) (a0 : Nat) (x1 : Int32) (h : jh) (k n : Nat) (Q : jq) : Prop := (((x1) = (1) → Q (.inl (some (.inl (1)))) h) ∧ (¬ (x1) = (1) → ((¬ (x1) = (77) → (jt h a0 = 7) ∧ jM g mX8_around [.inr (.inr (some a0)), .inl (x1)] h 0 0 (jkr (fun (r4 : Option Nat) (h5 : jh) => ((¬ (r4) = none → ((¬ (x1) = (88) → (jt h5 (jd (r4)) = 1) ∧ (((ji h5 2 (jd (r4))) = 0 → (((x1) = (66) → Q (.inl (some (.inl (1)))) h5) ∧ (¬ (x1) = (66) → (((ji h5 9 (jd (r4))) = 0 → Q (.inl (some (.inl (1)))) h5) ∧ (¬ (ji h5 9 (jd (r4))) = 0 → ((¬ (ji h5 9 (jd (r4))) = (x1) → Q (.inl (some (.inl (0)))) h5) ∧ ((ji h5 9 (jd (r4))) = (x1) → Q (.inl (some (.inl (1)))) h5))))))) ∧ (¬ (ji h5 2 (jd (r4))) = 0 → Q (.inl (some (.inl (0)))) h5))) ∧ ((x1) = (88) → (jt h5 (jd (r4)) = 1) ∧ jM g mX0_isNumber [.inr (.inr (some (jd (r4))))] h5 0 0 (jki (fun (r14 : Int32) (h15 : jh) => ((r14) = 0 ∨ (r14) = 1) ∧ Q (.inl (some (.inl (r14)))) h15) (fun e h9 => Q (.inr e) h9))))) ∧ ((r4) = none → Q (.inl (some (.inl (0)))) h5))) (fun e h9 => Q (.inr e) h9))) ∧ ((x1) = (77) → Q (.inl (some (.inl (1)))) h))))
set_option maxRecDepth 20000 in
theorem vX8_hasPlaceFor_0 {g : jg} {a0 : Nat} {x1 : Int32} {h : jh} {k n : Nat} {Q : jq} (hv : VX8_hasPlaceFor_0 g a0 x1 h k n Q) : jG g mX8_hasPlaceFor 0 [(0, .inr (.inr (some (a0)))), (1, .inl (x1))] [] h k n Q := by
  unfold VX8_hasPlaceFor_0 at hv
  refine jg_iload_n dX8_hasPlaceFor_0 rfl (List.Mem.tail _ (List.Mem.head _)) ?_
  refine jg_iconst (v := 1) dX8_hasPlaceFor_1 (by decide) ?_
  refine jg_icmp_eq (tgt := 11) dX8_hasPlaceFor_2 (by decide) (fun c1 => ?_) (fun c1 => ?_)
  · replace hv := hv.1 c1
    refine jg_iconst (v := 1) dX8_hasPlaceFor_11 (by decide) ?_
    exact jg_bret dX8_hasPlaceFor_12 rfl (by decide) hv
  · replace hv := hv.2 c1
    refine jg_iload_n dX8_hasPlaceFor_5 rfl (List.Mem.tail _ (List.Mem.head _)) ?_
    refine jg_bipush (v := 77) dX8_hasPlaceFor_6 (by decide) ?_
    refine jg_icmp_ne (tgt := 13) dX8_hasPlaceFor_8 (by decide) (fun c2 => ?_) (fun c2 => ?_)
    · replace hv := hv.1 c2
      refine jg_aload_n dX8_hasPlaceFor_13 rfl (List.Mem.head _) ?_
      refine jg_iload_n dX8_hasPlaceFor_14 rfl (List.Mem.tail _ (List.Mem.head _)) ?_
      obtain ⟨f3, hv⟩ := hv
      refine jp_callV mX8_around [.inl (x1)] [] dX8_hasPlaceFor_15 rfl cl_RX8_25 ⟨⟨by decide, by decide⟩, by decide⟩ jsn f3 (Nat.zero_le _) (Nat.zero_le _) (jM.mono (jkr_k (fun r4 h5 hv => ?_)) hv)
      refine jg_astore_n (lv' := [(2, .inr (.inr (r4))), (0, .inr (.inr (some (a0)))), (1, .inl (x1))]) dX8_hasPlaceFor_18 rfl (by decide) rfl ?_
      refine jg_aload_n dX8_hasPlaceFor_19 rfl (List.Mem.head _) ?_
      refine jg_ifnonnull (tgt := 25) dX8_hasPlaceFor_20 (by decide) (fun c6 => ?_) (fun c6 => ?_)
      · replace hv := hv.1 c6
        refine jg_iload_n dX8_hasPlaceFor_25 rfl (List.Mem.tail _ (List.Mem.tail _ (List.Mem.head _))) ?_
        refine jg_bipush (v := 88) dX8_hasPlaceFor_26 (by decide) ?_
        refine jg_icmp_ne (tgt := 36) dX8_hasPlaceFor_28 (by decide) (fun c7 => ?_) (fun c7 => ?_)
        · replace hv := hv.1 c7
          refine jg_aload_n dX8_hasPlaceFor_36 rfl (List.Mem.head _) ?_
          obtain ⟨f8, hv⟩ := hv
          refine jg_geti dX8_hasPlaceFor_37 fl_RX8_42 rfl c6 f8 ?_
          refine jg_if_eq (tgt := 45) dX8_hasPlaceFor_40 (by decide) (fun c9 => ?_) (fun c9 => ?_)
          · replace hv := hv.1 c9
            refine jg_iload_n dX8_hasPlaceFor_45 rfl (List.Mem.tail _ (List.Mem.tail _ (List.Mem.head _))) ?_
            refine jg_bipush (v := 66) dX8_hasPlaceFor_46 (by decide) ?_
            refine jg_icmp_eq (tgt := 66) dX8_hasPlaceFor_48 (by decide) (fun c10 => ?_) (fun c10 => ?_)
            · replace hv := hv.1 c10
              refine jg_iconst (v := 1) dX8_hasPlaceFor_66 (by decide) ?_
              refine jg_goto (tgt := 71) dX8_hasPlaceFor_67 (by decide) ?_
              exact jg_bret dX8_hasPlaceFor_71 rfl (by decide) hv
            · replace hv := hv.2 c10
              refine jg_aload_n dX8_hasPlaceFor_51 rfl (List.Mem.head _) ?_
              refine jg_geti dX8_hasPlaceFor_52 fl_RX8_35 rfl c6 f8 ?_
              refine jg_if_eq (tgt := 66) dX8_hasPlaceFor_55 (by decide) (fun c11 => ?_) (fun c11 => ?_)
              · replace hv := hv.1 c11
                refine jg_iconst (v := 1) dX8_hasPlaceFor_66 (by decide) ?_
                refine jg_goto (tgt := 71) dX8_hasPlaceFor_67 (by decide) ?_
                exact jg_bret dX8_hasPlaceFor_71 rfl (by decide) hv
              · replace hv := hv.2 c11
                refine jg_aload_n dX8_hasPlaceFor_58 rfl (List.Mem.head _) ?_
                refine jg_geti dX8_hasPlaceFor_59 fl_RX8_35 rfl c6 f8 ?_
                refine jg_iload_n dX8_hasPlaceFor_62 rfl (List.Mem.tail _ (List.Mem.tail _ (List.Mem.head _))) ?_
                refine jg_icmp_ne (tgt := 70) dX8_hasPlaceFor_63 (by decide) (fun c12 => ?_) (fun c12 => ?_)
                · replace hv := hv.1 c12
                  refine jg_iconst (v := 0) dX8_hasPlaceFor_70 (by decide) ?_
                  exact jg_bret dX8_hasPlaceFor_71 rfl (by decide) hv
                · replace hv := hv.2 c12
                  refine jg_iconst (v := 1) dX8_hasPlaceFor_66 (by decide) ?_
                  refine jg_goto (tgt := 71) dX8_hasPlaceFor_67 (by decide) ?_
                  exact jg_bret dX8_hasPlaceFor_71 rfl (by decide) hv
          · replace hv := hv.2 c9
            refine jg_iconst (v := 0) dX8_hasPlaceFor_43 (by decide) ?_
            exact jg_bret dX8_hasPlaceFor_44 rfl (by decide) hv
        · replace hv := hv.2 c7
          refine jg_aload_n dX8_hasPlaceFor_31 rfl (List.Mem.head _) ?_
          obtain ⟨f13, hv⟩ := hv
          refine jp_callV mX0_isNumber [] [] dX8_hasPlaceFor_32 rfl cl_RX8_38 ⟨⟨by decide, by decide⟩, by decide⟩ c6 f13 (Nat.zero_le _) (Nat.zero_le _) (jM.mono (jki_k (fun r14 h15 hv => ?_)) hv)
          obtain ⟨f16, hv⟩ := hv
          exact jg_bret dX8_hasPlaceFor_35 rfl f16 hv
      · replace hv := hv.2 c6
        refine jg_iconst (v := 0) dX8_hasPlaceFor_23 (by decide) ?_
        exact jg_bret dX8_hasPlaceFor_24 rfl (by decide) hv
    · replace hv := hv.2 c2
      refine jg_iconst (v := 1) dX8_hasPlaceFor_11 (by decide) ?_
      exact jg_bret dX8_hasPlaceFor_12 rfl (by decide) hv
theorem eX8_hasPlaceFor {g : jg} {a0 : Nat} {x1 : Int32} {h : jh} {mc ms : Nat} {Q : jq} (hv : VX8_hasPlaceFor_0 g a0 x1 h mc ms Q) : jM g mX8_hasPlaceFor [.inr (.inr (some (a0))), .inl (x1)] h mc ms Q := jM.of (by decide) (Nat.le_of_ble_eq_true rfl) (lv := [(0, .inr (.inr (some (a0)))), (1, .inl (x1))]) rfl (vX8_hasPlaceFor_0 hv)
theorem dX8_around_0 : decode cX8_around 0 = .ok (.iload_n 1, 1) := by decide +kernel
theorem dX8_around_1 : decode cX8_around 1 = .ok (.lookupswitch 55 #[(1, 43), (66, 45), (77, 43), (88, 50)], 43) := by decide +kernel
theorem dX8_around_44 : decode cX8_around 44 = .ok (.aconst_null, 1) := by decide +kernel
theorem dX8_around_45 : decode cX8_around 45 = .ok (.areturn, 1) := by decide +kernel
theorem dX8_around_46 : decode cX8_around 46 = .ok (.aload_n 0, 1) := by decide +kernel
theorem dX8_around_47 : decode cX8_around 47 = .ok (.invokevirtual 45, 3) := by decide +kernel
theorem dX8_around_50 : decode cX8_around 50 = .ok (.areturn, 1) := by decide +kernel
theorem dX8_around_51 : decode cX8_around 51 = .ok (.aload_n 0, 1) := by decide +kernel
theorem dX8_around_52 : decode cX8_around 52 = .ok (.invokevirtual 49, 3) := by decide +kernel
theorem dX8_around_55 : decode cX8_around 55 = .ok (.areturn, 1) := by decide +kernel
theorem dX8_around_56 : decode cX8_around 56 = .ok (.aload_n 0, 1) := by decide +kernel
theorem dX8_around_57 : decode cX8_around 57 = .ok (.iload_n 1, 1) := by decide +kernel
theorem dX8_around_58 : decode cX8_around 58 = .ok (.invokevirtual 52, 3) := by decide +kernel
theorem dX8_around_61 : decode cX8_around 61 = .ok (.areturn, 1) := by decide +kernel
def VX8_around_0 (g : jg) (a0 : Nat) (x1 : Int32) (h : jh) (k n : Nat) (Q : jq) : Prop := (((x1) = 1 → Q (.inl (some (.inr (.inr (none))))) h) ∧ ((x1) = 66 → (jt h a0 = 7) ∧ jM g mX8_latestTopRecord [.inr (.inr (some a0))] h 0 0 (jkr (fun (r4 : Option Nat) (h5 : jh) => Q (.inl (some (.inr (.inr (r4))))) h5) (fun e h9 => Q (.inr e) h9))) ∧ ((x1) = 77 → Q (.inl (some (.inr (.inr (none))))) h) ∧ ((x1) = 88 → (jt h a0 = 7) ∧ jM g mX8_latestNotNaming [.inr (.inr (some a0))] h 0 0 (jkr (fun (r9 : Option Nat) (h10 : jh) => Q (.inl (some (.inr (.inr (r9))))) h10) (fun e h9 => Q (.inr e) h9))) ∧ (¬ (x1) = 1 → ¬ (x1) = 66 → ¬ (x1) = 77 → ¬ (x1) = 88 → (jt h a0 = 7) ∧ jM g mX8_latestOfLesserLevel [.inr (.inr (some a0)), .inl (x1)] h 0 0 (jkr (fun (r12 : Option Nat) (h13 : jh) => Q (.inl (some (.inr (.inr (r12))))) h13) (fun e h9 => Q (.inr e) h9))))
set_option maxRecDepth 20000 in
theorem vX8_around_0 {g : jg} {a0 : Nat} {x1 : Int32} {h : jh} {k n : Nat} {Q : jq} (hv : VX8_around_0 g a0 x1 h k n Q) : jG g mX8_around 0 [(0, .inr (.inr (some (a0)))), (1, .inl (x1))] [] h k n Q := by
  unfold VX8_around_0 at hv
  refine jg_iload_n dX8_around_0 rfl (List.Mem.tail _ (List.Mem.head _)) ?_
  by_cases c1 : (x1) = 1
  · replace hv := hv.1 c1
    refine jg_ls (tgt := 44) (off := 43) dX8_around_1 (by decide) (by rw [c1]; decide) (by decide) ?_
    refine jg_null dX8_around_44 ?_
    exact jg_aret dX8_around_45 rfl hv
  by_cases c2 : (x1) = 66
  · replace hv := hv.2.1 c2
    refine jg_ls (tgt := 46) (off := 45) dX8_around_1 (by decide) (by rw [c2]; decide) (by decide) ?_
    refine jg_aload_n dX8_around_46 rfl (List.Mem.head _) ?_
    obtain ⟨f3, hv⟩ := hv
    refine jp_callV mX8_latestTopRecord [] [] dX8_around_47 rfl cl_RX8_45 ⟨⟨by decide, by decide⟩, by decide⟩ jsn f3 (Nat.zero_le _) (Nat.zero_le _) (jM.mono (jkr_k (fun r4 h5 hv => ?_)) hv)
    exact jg_aret dX8_around_50 rfl hv
  by_cases c6 : (x1) = 77
  · replace hv := hv.2.2.1 c6
    refine jg_ls (tgt := 44) (off := 43) dX8_around_1 (by decide) (by rw [c6]; decide) (by decide) ?_
    refine jg_null dX8_around_44 ?_
    exact jg_aret dX8_around_45 rfl hv
  by_cases c7 : (x1) = 88
  · replace hv := hv.2.2.2.1 c7
    refine jg_ls (tgt := 51) (off := 50) dX8_around_1 (by decide) (by rw [c7]; decide) (by decide) ?_
    refine jg_aload_n dX8_around_51 rfl (List.Mem.head _) ?_
    obtain ⟨f8, hv⟩ := hv
    refine jp_callV mX8_latestNotNaming [] [] dX8_around_52 rfl cl_RX8_49 ⟨⟨by decide, by decide⟩, by decide⟩ jsn f8 (Nat.zero_le _) (Nat.zero_le _) (jM.mono (jkr_k (fun r9 h10 hv => ?_)) hv)
    exact jg_aret dX8_around_55 rfl hv
  replace hv := hv.2.2.2.2 c1 c2 c6 c7
  refine jg_ls (tgt := 56) (off := 55) dX8_around_1 (by decide) (by rw [show (#[(1, 43), (66, 45), (77, 43), (88, 50)] : Array (Int × Int)).toList = [(1, 43), (66, 45), (77, 43), (88, 50)] from rfl, lv_osw c1 (by decide), lv_osw c2 (by decide), lv_osw c6 (by decide), lv_osw c7 (by decide)]; rfl) (by decide) ?_
  refine jg_aload_n dX8_around_56 rfl (List.Mem.head _) ?_
  refine jg_iload_n dX8_around_57 rfl (List.Mem.tail _ (List.Mem.head _)) ?_
  obtain ⟨f11, hv⟩ := hv
  refine jp_callV mX8_latestOfLesserLevel [.inl (x1)] [] dX8_around_58 rfl cl_RX8_52 ⟨⟨by decide, by decide⟩, by decide⟩ jsn f11 (Nat.zero_le _) (Nat.zero_le _) (jM.mono (jkr_k (fun r12 h13 hv => ?_)) hv)
  exact jg_aret dX8_around_61 rfl hv
theorem eX8_around {g : jg} {a0 : Nat} {x1 : Int32} {h : jh} {mc ms : Nat} {Q : jq} (hv : VX8_around_0 g a0 x1 h mc ms Q) : jM g mX8_around [.inr (.inr (some (a0))), .inl (x1)] h mc ms Q := jM.of (by decide) (Nat.le_of_ble_eq_true rfl) (lv := [(0, .inr (.inr (some (a0)))), (1, .inl (x1))]) rfl (vX8_around_0 hv)
theorem dX8_latestTopRecord_0 : decode cX8_latestTopRecord 0 = .ok (.aload_n 0, 1) := by decide +kernel
theorem dX8_latestTopRecord_1 : decode cX8_latestTopRecord 1 = .ok (.aload_n 0, 1) := by decide +kernel
theorem dX8_latestTopRecord_2 : decode cX8_latestTopRecord 2 = .ok (.getfield 17, 3) := by decide +kernel
theorem dX8_latestTopRecord_5 : decode cX8_latestTopRecord 5 = .ok (.invokevirtual 21, 3) := by decide +kernel
theorem dX8_latestTopRecord_8 : decode cX8_latestTopRecord 8 = .ok (.astore_n 1, 1) := by decide +kernel
theorem dX8_latestTopRecord_9 : decode cX8_latestTopRecord 9 = .ok (.aload_n 1, 1) := by decide +kernel
theorem dX8_latestTopRecord_10 : decode cX8_latestTopRecord 10 = .ok (.ifnull 14, 3) := by decide +kernel
theorem dX8_latestTopRecord_13 : decode cX8_latestTopRecord 13 = .ok (.aload_n 1, 1) := by decide +kernel
theorem dX8_latestTopRecord_14 : decode cX8_latestTopRecord 14 = .ok (.getfield 31, 3) := by decide +kernel
theorem dX8_latestTopRecord_17 : decode cX8_latestTopRecord 17 = .ok (.getfield 55, 3) := by decide +kernel
theorem dX8_latestTopRecord_20 : decode cX8_latestTopRecord 20 = .ok (.iconst 1, 1) := by decide +kernel
theorem dX8_latestTopRecord_21 : decode cX8_latestTopRecord 21 = .ok (.if_icmp .eq 7, 3) := by decide +kernel
theorem dX8_latestTopRecord_24 : decode cX8_latestTopRecord 24 = .ok (.aconst_null, 1) := by decide +kernel
theorem dX8_latestTopRecord_25 : decode cX8_latestTopRecord 25 = .ok (.goto 7, 3) := by decide +kernel
theorem dX8_latestTopRecord_28 : decode cX8_latestTopRecord 28 = .ok (.aload_n 1, 1) := by decide +kernel
theorem dX8_latestTopRecord_29 : decode cX8_latestTopRecord 29 = .ok (.getfield 31, 3) := by decide +kernel
theorem dX8_latestTopRecord_32 : decode cX8_latestTopRecord 32 = .ok (.areturn, 1) := by decide +kernel
def VX8_latestTopRecord_0 (g : jg) (a0 : Nat) (h : jh) (k n : Nat) (Q : jq) : Prop := (jt h a0 = 7) ∧ jM g mX8_find [.inr (.inr (some a0)), .inl (ji h 385 a0)] h 0 0 (jkr (fun (r2 : Option Nat) (h3 : jh) => (((r2) = none → Q (.inl (some (.inr (.inr (none))))) h3) ∧ (¬ (r2) = none → (jt h3 (jd (r2)) = 1) ∧ (¬ (jr h3 8 (jd (r2))) = none) ∧ (jt h3 (jd (jr h3 8 (jd (r2)))) = 1) ∧ (((ji h3 1 (jd (jr h3 8 (jd (r2))))) = (1) → Q (.inl (some (.inr (.inr (jr h3 8 (jd (r2))))))) h3) ∧ (¬ (ji h3 1 (jd (jr h3 8 (jd (r2))))) = (1) → Q (.inl (some (.inr (.inr (none))))) h3))))) (fun e h9 => Q (.inr e) h9))
set_option maxRecDepth 20000 in
theorem vX8_latestTopRecord_0 {g : jg} {a0 : Nat} {h : jh} {k n : Nat} {Q : jq} (hv : VX8_latestTopRecord_0 g a0 h k n Q) : jG g mX8_latestTopRecord 0 [(0, .inr (.inr (some (a0))))] [] h k n Q := by
  unfold VX8_latestTopRecord_0 at hv
  refine jg_aload_n dX8_latestTopRecord_0 rfl (List.Mem.head _) ?_
  refine jg_aload_n dX8_latestTopRecord_1 rfl (List.Mem.head _) ?_
  obtain ⟨f1, hv⟩ := hv
  refine jg_geti dX8_latestTopRecord_2 fl_RX8_17 rfl jsn f1 ?_
  refine jp_callV mX8_find [.inl (ji h 385 a0)] [] dX8_latestTopRecord_5 rfl cl_RX8_21 ⟨⟨by decide, by decide⟩, by decide⟩ jsn f1 (Nat.zero_le _) (Nat.zero_le _) (jM.mono (jkr_k (fun r2 h3 hv => ?_)) hv)
  refine jg_astore_n (lv' := [(1, .inr (.inr (r2))), (0, .inr (.inr (some (a0))))]) dX8_latestTopRecord_8 rfl (by decide) rfl ?_
  refine jg_aload_n dX8_latestTopRecord_9 rfl (List.Mem.head _) ?_
  refine jg_ifnull (tgt := 24) dX8_latestTopRecord_10 (by decide) (fun c4 => ?_) (fun c4 => ?_)
  · replace hv := hv.1 c4
    refine jg_null dX8_latestTopRecord_24 ?_
    refine jg_goto (tgt := 32) dX8_latestTopRecord_25 (by decide) ?_
    exact jg_aret dX8_latestTopRecord_32 rfl hv
  · replace hv := hv.2 c4
    refine jg_aload_n dX8_latestTopRecord_13 rfl (List.Mem.head _) ?_
    obtain ⟨f5, hv⟩ := hv
    refine jg_getr dX8_latestTopRecord_14 fl_RX8_31 rfl c4 f5 ?_
    obtain ⟨f6, hv⟩ := hv
    obtain ⟨f7, hv⟩ := hv
    refine jg_geti dX8_latestTopRecord_17 fl_RX8_55 rfl f6 f7 ?_
    refine jg_iconst (v := 1) dX8_latestTopRecord_20 (by decide) ?_
    refine jg_icmp_eq (tgt := 28) dX8_latestTopRecord_21 (by decide) (fun c8 => ?_) (fun c8 => ?_)
    · replace hv := hv.1 c8
      refine jg_aload_n dX8_latestTopRecord_28 rfl (List.Mem.head _) ?_
      refine jg_getr dX8_latestTopRecord_29 fl_RX8_31 rfl c4 f5 ?_
      exact jg_aret dX8_latestTopRecord_32 rfl hv
    · replace hv := hv.2 c8
      refine jg_null dX8_latestTopRecord_24 ?_
      refine jg_goto (tgt := 32) dX8_latestTopRecord_25 (by decide) ?_
      exact jg_aret dX8_latestTopRecord_32 rfl hv
theorem eX8_latestTopRecord {g : jg} {a0 : Nat} {h : jh} {mc ms : Nat} {Q : jq} (hv : VX8_latestTopRecord_0 g a0 h mc ms Q) : jM g mX8_latestTopRecord [.inr (.inr (some (a0)))] h mc ms Q := jM.of (by decide) (Nat.le_of_ble_eq_true rfl) (lv := [(0, .inr (.inr (some (a0))))]) rfl (vX8_latestTopRecord_0 hv)
theorem dX8_latestNotNaming_0 : decode cX8_latestNotNaming 0 = .ok (.aload_n 0, 1) := by decide +kernel
theorem dX8_latestNotNaming_1 : decode cX8_latestNotNaming 1 = .ok (.getfield 17, 3) := by decide +kernel
theorem dX8_latestNotNaming_4 : decode cX8_latestNotNaming 4 = .ok (.istore_n 1, 1) := by decide +kernel
theorem dX8_latestNotNaming_5 : decode cX8_latestNotNaming 5 = .ok (.iload_n 1, 1) := by decide +kernel
theorem dX8_latestNotNaming_6 : decode cX8_latestNotNaming 6 = .ok (.iconst 1, 1) := by decide +kernel
theorem dX8_latestNotNaming_7 : decode cX8_latestNotNaming 7 = .ok (.if_icmp .lt 30, 3) := by decide +kernel
theorem dX8_latestNotNaming_10 : decode cX8_latestNotNaming 10 = .ok (.aload_n 0, 1) := by decide +kernel
theorem dX8_latestNotNaming_11 : decode cX8_latestNotNaming 11 = .ok (.getfield 11, 3) := by decide +kernel
theorem dX8_latestNotNaming_14 : decode cX8_latestNotNaming 14 = .ok (.iload_n 1, 1) := by decide +kernel
theorem dX8_latestNotNaming_15 : decode cX8_latestNotNaming 15 = .ok (.aaload, 1) := by decide +kernel
theorem dX8_latestNotNaming_16 : decode cX8_latestNotNaming 16 = .ok (.getfield 55, 3) := by decide +kernel
theorem dX8_latestNotNaming_19 : decode cX8_latestNotNaming 19 = .ok (.bipush 88, 2) := by decide +kernel
theorem dX8_latestNotNaming_21 : decode cX8_latestNotNaming 21 = .ok (.if_icmp .eq 10, 3) := by decide +kernel
theorem dX8_latestNotNaming_24 : decode cX8_latestNotNaming 24 = .ok (.aload_n 0, 1) := by decide +kernel
theorem dX8_latestNotNaming_25 : decode cX8_latestNotNaming 25 = .ok (.getfield 11, 3) := by decide +kernel
theorem dX8_latestNotNaming_28 : decode cX8_latestNotNaming 28 = .ok (.iload_n 1, 1) := by decide +kernel
theorem dX8_latestNotNaming_29 : decode cX8_latestNotNaming 29 = .ok (.aaload, 1) := by decide +kernel
theorem dX8_latestNotNaming_30 : decode cX8_latestNotNaming 30 = .ok (.areturn, 1) := by decide +kernel
theorem dX8_latestNotNaming_31 : decode cX8_latestNotNaming 31 = .ok (.iinc 1 (-1), 3) := by decide +kernel
theorem dX8_latestNotNaming_34 : decode cX8_latestNotNaming 34 = .ok (.goto (-29), 3) := by decide +kernel
theorem dX8_latestNotNaming_37 : decode cX8_latestNotNaming 37 = .ok (.aconst_null, 1) := by decide +kernel
theorem dX8_latestNotNaming_38 : decode cX8_latestNotNaming 38 = .ok (.areturn, 1) := by decide +kernel
def VX8_latestNotNaming_5 (g : jg) (a0 : Nat) (x1 : Int32) (h : jh) (k n : Nat) (Q : jq) : Prop := (((x1) < (1) → Q (.inl (some (.inr (.inr (none))))) h) ∧ (¬ (x1) < (1) → (jt h a0 = 7) ∧ (¬ (jr h 384 a0) = none) ∧ (jt h (jd (jr h 384 a0)) = 23) ∧ (vp_in (x1) (jn h (jd (jr h 384 a0)))) ∧ (¬ (jR h (jd (jr h 384 a0)) (x1 : Int32).toNatClampNeg) = none) ∧ (jt h (jd (jR h (jd (jr h 384 a0)) (x1 : Int32).toNatClampNeg)) = 1) ∧ (((ji h 1 (jd (jR h (jd (jr h 384 a0)) (x1 : Int32).toNatClampNeg))) = (88) → jG g mX8_latestNotNaming 5 [(0, .inr (.inr (some (a0)))), (1, .inl ((x1) + (-1)))] [] h k n Q) ∧ (¬ (ji h 1 (jd (jR h (jd (jr h 384 a0)) (x1 : Int32).toNatClampNeg))) = (88) → Q (.inl (some (.inr (.inr (jR h (jd (jr h 384 a0)) (x1 : Int32).toNatClampNeg))))) h))))
set_option maxRecDepth 20000 in
theorem vX8_latestNotNaming_5 {g : jg} {a0 : Nat} {x1 : Int32} {h : jh} {k n : Nat} {Q : jq} (hv : VX8_latestNotNaming_5 g a0 x1 h k n Q) : jG g mX8_latestNotNaming 5 [(0, .inr (.inr (some (a0)))), (1, .inl (x1))] [] h k n Q := by
  unfold VX8_latestNotNaming_5 at hv
  refine jg_iload_n dX8_latestNotNaming_5 rfl (List.Mem.tail _ (List.Mem.head _)) ?_
  refine jg_iconst (v := 1) dX8_latestNotNaming_6 (by decide) ?_
  refine jg_icmp_lt (tgt := 37) dX8_latestNotNaming_7 (by decide) (fun c1 => ?_) (fun c1 => ?_)
  · replace hv := hv.1 c1
    refine jg_null dX8_latestNotNaming_37 ?_
    exact jg_aret dX8_latestNotNaming_38 rfl hv
  · replace hv := hv.2 c1
    refine jg_aload_n dX8_latestNotNaming_10 rfl (List.Mem.head _) ?_
    obtain ⟨f2, hv⟩ := hv
    refine jg_getr dX8_latestNotNaming_11 fl_RX8_11 rfl jsn f2 ?_
    refine jg_iload_n dX8_latestNotNaming_14 rfl (List.Mem.tail _ (List.Mem.head _)) ?_
    obtain ⟨f3, hv⟩ := hv
    obtain ⟨f4, hv⟩ := hv
    obtain ⟨f5, hv⟩ := hv
    refine jg_aald dX8_latestNotNaming_15 f3 f4 f5 ?_
    obtain ⟨f6, hv⟩ := hv
    obtain ⟨f7, hv⟩ := hv
    refine jg_geti dX8_latestNotNaming_16 fl_RX8_55 rfl f6 f7 ?_
    refine jg_bipush (v := 88) dX8_latestNotNaming_19 (by decide) ?_
    refine jg_icmp_eq (tgt := 31) dX8_latestNotNaming_21 (by decide) (fun c8 => ?_) (fun c8 => ?_)
    · replace hv := hv.1 c8
      refine jg_iinc (v := (x1) + (-1)) (lv' := [(1, .inl ((x1) + (-1))), (0, .inr (.inr (some (a0))))]) dX8_latestNotNaming_31 (List.Mem.tail _ (List.Mem.head _)) rfl (by decide) rfl ?_
      refine jg_goto (tgt := 5) dX8_latestNotNaming_34 (by decide) ?_
      refine jG.sub (lv' := [(0, .inr (.inr (some (a0)))), (1, .inl ((x1) + (-1)))]) (by simp) ?_
      exact hv
    · replace hv := hv.2 c8
      refine jg_aload_n dX8_latestNotNaming_24 rfl (List.Mem.head _) ?_
      refine jg_getr dX8_latestNotNaming_25 fl_RX8_11 rfl jsn f2 ?_
      refine jg_iload_n dX8_latestNotNaming_28 rfl (List.Mem.tail _ (List.Mem.head _)) ?_
      refine jg_aald dX8_latestNotNaming_29 f3 f4 f5 ?_
      exact jg_aret dX8_latestNotNaming_30 rfl hv
def VX8_latestNotNaming_0 (g : jg) (a0 : Nat) (h : jh) (k n : Nat) (Q : jq) : Prop := (jt h a0 = 7) ∧ jG g mX8_latestNotNaming 5 [(0, .inr (.inr (some (a0)))), (1, .inl (ji h 385 a0))] [] h k n Q
set_option maxRecDepth 20000 in
theorem vX8_latestNotNaming_0 {g : jg} {a0 : Nat} {h : jh} {k n : Nat} {Q : jq} (hv : VX8_latestNotNaming_0 g a0 h k n Q) : jG g mX8_latestNotNaming 0 [(0, .inr (.inr (some (a0))))] [] h k n Q := by
  unfold VX8_latestNotNaming_0 at hv
  refine jg_aload_n dX8_latestNotNaming_0 rfl (List.Mem.head _) ?_
  obtain ⟨f9, hv⟩ := hv
  refine jg_geti dX8_latestNotNaming_1 fl_RX8_17 rfl jsn f9 ?_
  refine jg_istore_n (lv' := [(1, .inl (ji h 385 a0)), (0, .inr (.inr (some (a0))))]) dX8_latestNotNaming_4 rfl (by decide) rfl ?_
  refine jG.sub (lv' := [(0, .inr (.inr (some (a0)))), (1, .inl (ji h 385 a0))]) (by simp) ?_
  exact hv
theorem eX8_latestNotNaming {g : jg} {a0 : Nat} {h : jh} {mc ms : Nat} {Q : jq} (hv : VX8_latestNotNaming_0 g a0 h mc ms Q) : jM g mX8_latestNotNaming [.inr (.inr (some (a0)))] h mc ms Q := jM.of (by decide) (Nat.le_of_ble_eq_true rfl) (lv := [(0, .inr (.inr (some (a0))))]) rfl (vX8_latestNotNaming_0 hv)
theorem dX8_latestOfLesserLevel_0 : decode cX8_latestOfLesserLevel 0 = .ok (.aload_n 0, 1) := by decide +kernel
theorem dX8_latestOfLesserLevel_1 : decode cX8_latestOfLesserLevel 1 = .ok (.getfield 17, 3) := by decide +kernel
theorem dX8_latestOfLesserLevel_4 : decode cX8_latestOfLesserLevel 4 = .ok (.istore_n 2, 1) := by decide +kernel
theorem dX8_latestOfLesserLevel_5 : decode cX8_latestOfLesserLevel 5 = .ok (.iload_n 2, 1) := by decide +kernel
theorem dX8_latestOfLesserLevel_6 : decode cX8_latestOfLesserLevel 6 = .ok (.iconst 1, 1) := by decide +kernel
theorem dX8_latestOfLesserLevel_7 : decode cX8_latestOfLesserLevel 7 = .ok (.if_icmp .lt 46, 3) := by decide +kernel
theorem dX8_latestOfLesserLevel_10 : decode cX8_latestOfLesserLevel 10 = .ok (.aload_n 0, 1) := by decide +kernel
theorem dX8_latestOfLesserLevel_11 : decode cX8_latestOfLesserLevel 11 = .ok (.getfield 11, 3) := by decide +kernel
theorem dX8_latestOfLesserLevel_14 : decode cX8_latestOfLesserLevel 14 = .ok (.iload_n 2, 1) := by decide +kernel
theorem dX8_latestOfLesserLevel_15 : decode cX8_latestOfLesserLevel 15 = .ok (.aaload, 1) := by decide +kernel
theorem dX8_latestOfLesserLevel_16 : decode cX8_latestOfLesserLevel 16 = .ok (.astore_n 3, 1) := by decide +kernel
theorem dX8_latestOfLesserLevel_17 : decode cX8_latestOfLesserLevel 17 = .ok (.aload_n 3, 1) := by decide +kernel
theorem dX8_latestOfLesserLevel_18 : decode cX8_latestOfLesserLevel 18 = .ok (.getfield 55, 3) := by decide +kernel
theorem dX8_latestOfLesserLevel_21 : decode cX8_latestOfLesserLevel 21 = .ok (.bipush 66, 2) := by decide +kernel
theorem dX8_latestOfLesserLevel_23 : decode cX8_latestOfLesserLevel 23 = .ok (.if_icmp .eq 12, 3) := by decide +kernel
theorem dX8_latestOfLesserLevel_26 : decode cX8_latestOfLesserLevel 26 = .ok (.aload_n 3, 1) := by decide +kernel
theorem dX8_latestOfLesserLevel_27 : decode cX8_latestOfLesserLevel 27 = .ok (.getfield 55, 3) := by decide +kernel
theorem dX8_latestOfLesserLevel_30 : decode cX8_latestOfLesserLevel 30 = .ok (.bipush 77, 2) := by decide +kernel
theorem dX8_latestOfLesserLevel_32 : decode cX8_latestOfLesserLevel 32 = .ok (.if_icmp .ne 5, 3) := by decide +kernel
theorem dX8_latestOfLesserLevel_35 : decode cX8_latestOfLesserLevel 35 = .ok (.aconst_null, 1) := by decide +kernel
theorem dX8_latestOfLesserLevel_36 : decode cX8_latestOfLesserLevel 36 = .ok (.areturn, 1) := by decide +kernel
theorem dX8_latestOfLesserLevel_37 : decode cX8_latestOfLesserLevel 37 = .ok (.aload_n 3, 1) := by decide +kernel
theorem dX8_latestOfLesserLevel_38 : decode cX8_latestOfLesserLevel 38 = .ok (.getfield 55, 3) := by decide +kernel
theorem dX8_latestOfLesserLevel_41 : decode cX8_latestOfLesserLevel 41 = .ok (.iload_n 1, 1) := by decide +kernel
theorem dX8_latestOfLesserLevel_42 : decode cX8_latestOfLesserLevel 42 = .ok (.if_icmp .ge 5, 3) := by decide +kernel
theorem dX8_latestOfLesserLevel_45 : decode cX8_latestOfLesserLevel 45 = .ok (.aload_n 3, 1) := by decide +kernel
theorem dX8_latestOfLesserLevel_46 : decode cX8_latestOfLesserLevel 46 = .ok (.areturn, 1) := by decide +kernel
theorem dX8_latestOfLesserLevel_47 : decode cX8_latestOfLesserLevel 47 = .ok (.iinc 2 (-1), 3) := by decide +kernel
theorem dX8_latestOfLesserLevel_50 : decode cX8_latestOfLesserLevel 50 = .ok (.goto (-45), 3) := by decide +kernel
theorem dX8_latestOfLesserLevel_53 : decode cX8_latestOfLesserLevel 53 = .ok (.aconst_null, 1) := by decide +kernel
theorem dX8_latestOfLesserLevel_54 : decode cX8_latestOfLesserLevel 54 = .ok (.areturn, 1) := by decide +kernel
def VX8_latestOfLesserLevel_5 (g : jg) (a0 : Nat) (x1 : Int32) (x2 : Int32) (h : jh) (k n : Nat) (Q : jq) : Prop := (((x2) < (1) → Q (.inl (some (.inr (.inr (none))))) h) ∧ (¬ (x2) < (1) → (jt h a0 = 7) ∧ (¬ (jr h 384 a0) = none) ∧ (jt h (jd (jr h 384 a0)) = 23) ∧ (vp_in (x2) (jn h (jd (jr h 384 a0)))) ∧ (¬ (jR h (jd (jr h 384 a0)) (x2 : Int32).toNatClampNeg) = none) ∧ (jt h (jd (jR h (jd (jr h 384 a0)) (x2 : Int32).toNatClampNeg)) = 1) ∧ (((ji h 1 (jd (jR h (jd (jr h 384 a0)) (x2 : Int32).toNatClampNeg))) = (66) → Q (.inl (some (.inr (.inr (none))))) h) ∧ (¬ (ji h 1 (jd (jR h (jd (jr h 384 a0)) (x2 : Int32).toNatClampNeg))) = (66) → ((¬ (ji h 1 (jd (jR h (jd (jr h 384 a0)) (x2 : Int32).toNatClampNeg))) = (77) → (((x1) ≤ (ji h 1 (jd (jR h (jd (jr h 384 a0)) (x2 : Int32).toNatClampNeg))) → jG g mX8_latestOfLesserLevel 5 [(0, .inr (.inr (some (a0)))), (1, .inl (x1)), (2, .inl ((x2) + (-1)))] [] h k n Q) ∧ (¬ (x1) ≤ (ji h 1 (jd (jR h (jd (jr h 384 a0)) (x2 : Int32).toNatClampNeg))) → Q (.inl (some (.inr (.inr (jR h (jd (jr h 384 a0)) (x2 : Int32).toNatClampNeg))))) h))) ∧ ((ji h 1 (jd (jR h (jd (jr h 384 a0)) (x2 : Int32).toNatClampNeg))) = (77) → Q (.inl (some (.inr (.inr (none))))) h))))))
set_option maxRecDepth 20000 in
theorem vX8_latestOfLesserLevel_5 {g : jg} {a0 : Nat} {x1 : Int32} {x2 : Int32} {h : jh} {k n : Nat} {Q : jq} (hv : VX8_latestOfLesserLevel_5 g a0 x1 x2 h k n Q) : jG g mX8_latestOfLesserLevel 5 [(0, .inr (.inr (some (a0)))), (1, .inl (x1)), (2, .inl (x2))] [] h k n Q := by
  unfold VX8_latestOfLesserLevel_5 at hv
  refine jg_iload_n dX8_latestOfLesserLevel_5 rfl (List.Mem.tail _ (List.Mem.tail _ (List.Mem.head _))) ?_
  refine jg_iconst (v := 1) dX8_latestOfLesserLevel_6 (by decide) ?_
  refine jg_icmp_lt (tgt := 53) dX8_latestOfLesserLevel_7 (by decide) (fun c1 => ?_) (fun c1 => ?_)
  · replace hv := hv.1 c1
    refine jg_null dX8_latestOfLesserLevel_53 ?_
    exact jg_aret dX8_latestOfLesserLevel_54 rfl hv
  · replace hv := hv.2 c1
    refine jg_aload_n dX8_latestOfLesserLevel_10 rfl (List.Mem.head _) ?_
    obtain ⟨f2, hv⟩ := hv
    refine jg_getr dX8_latestOfLesserLevel_11 fl_RX8_11 rfl jsn f2 ?_
    refine jg_iload_n dX8_latestOfLesserLevel_14 rfl (List.Mem.tail _ (List.Mem.tail _ (List.Mem.head _))) ?_
    obtain ⟨f3, hv⟩ := hv
    obtain ⟨f4, hv⟩ := hv
    obtain ⟨f5, hv⟩ := hv
    refine jg_aald dX8_latestOfLesserLevel_15 f3 f4 f5 ?_
    refine jg_astore_n (lv' := [(3, .inr (.inr (jR h (jd (jr h 384 a0)) (x2 : Int32).toNatClampNeg))), (0, .inr (.inr (some (a0)))), (1, .inl (x1)), (2, .inl (x2))]) dX8_latestOfLesserLevel_16 rfl (by decide) rfl ?_
    refine jg_aload_n dX8_latestOfLesserLevel_17 rfl (List.Mem.head _) ?_
    obtain ⟨f6, hv⟩ := hv
    obtain ⟨f7, hv⟩ := hv
    refine jg_geti dX8_latestOfLesserLevel_18 fl_RX8_55 rfl f6 f7 ?_
    refine jg_bipush (v := 66) dX8_latestOfLesserLevel_21 (by decide) ?_
    refine jg_icmp_eq (tgt := 35) dX8_latestOfLesserLevel_23 (by decide) (fun c8 => ?_) (fun c8 => ?_)
    · replace hv := hv.1 c8
      refine jg_null dX8_latestOfLesserLevel_35 ?_
      exact jg_aret dX8_latestOfLesserLevel_36 rfl hv
    · replace hv := hv.2 c8
      refine jg_aload_n dX8_latestOfLesserLevel_26 rfl (List.Mem.head _) ?_
      refine jg_geti dX8_latestOfLesserLevel_27 fl_RX8_55 rfl f6 f7 ?_
      refine jg_bipush (v := 77) dX8_latestOfLesserLevel_30 (by decide) ?_
      refine jg_icmp_ne (tgt := 37) dX8_latestOfLesserLevel_32 (by decide) (fun c9 => ?_) (fun c9 => ?_)
      · replace hv := hv.1 c9
        refine jg_aload_n dX8_latestOfLesserLevel_37 rfl (List.Mem.head _) ?_
        refine jg_geti dX8_latestOfLesserLevel_38 fl_RX8_55 rfl f6 f7 ?_
        refine jg_iload_n dX8_latestOfLesserLevel_41 rfl (List.Mem.tail _ (List.Mem.tail _ (List.Mem.head _))) ?_
        refine jg_icmp_ge (tgt := 47) dX8_latestOfLesserLevel_42 (by decide) (fun c10 => ?_) (fun c10 => ?_)
        · replace hv := hv.1 c10
          refine jg_iinc (v := (x2) + (-1)) (lv' := [(2, .inl ((x2) + (-1))), (3, .inr (.inr (jR h (jd (jr h 384 a0)) (x2 : Int32).toNatClampNeg))), (0, .inr (.inr (some (a0)))), (1, .inl (x1))]) dX8_latestOfLesserLevel_47 (List.Mem.tail _ (List.Mem.tail _ (List.Mem.tail _ (List.Mem.head _)))) rfl (by decide) rfl ?_
          refine jg_goto (tgt := 5) dX8_latestOfLesserLevel_50 (by decide) ?_
          refine jG.sub (lv' := [(0, .inr (.inr (some (a0)))), (1, .inl (x1)), (2, .inl ((x2) + (-1)))]) (by simp) ?_
          exact hv
        · replace hv := hv.2 c10
          refine jg_aload_n dX8_latestOfLesserLevel_45 rfl (List.Mem.head _) ?_
          exact jg_aret dX8_latestOfLesserLevel_46 rfl hv
      · replace hv := hv.2 c9
        refine jg_null dX8_latestOfLesserLevel_35 ?_
        exact jg_aret dX8_latestOfLesserLevel_36 rfl hv
def VX8_latestOfLesserLevel_0 (g : jg) (a0 : Nat) (x1 : Int32) (h : jh) (k n : Nat) (Q : jq) : Prop := (jt h a0 = 7) ∧ jG g mX8_latestOfLesserLevel 5 [(0, .inr (.inr (some (a0)))), (1, .inl (x1)), (2, .inl (ji h 385 a0))] [] h k n Q
set_option maxRecDepth 20000 in
theorem vX8_latestOfLesserLevel_0 {g : jg} {a0 : Nat} {x1 : Int32} {h : jh} {k n : Nat} {Q : jq} (hv : VX8_latestOfLesserLevel_0 g a0 x1 h k n Q) : jG g mX8_latestOfLesserLevel 0 [(0, .inr (.inr (some (a0)))), (1, .inl (x1))] [] h k n Q := by
  unfold VX8_latestOfLesserLevel_0 at hv
  refine jg_aload_n dX8_latestOfLesserLevel_0 rfl (List.Mem.head _) ?_
  obtain ⟨f11, hv⟩ := hv
  refine jg_geti dX8_latestOfLesserLevel_1 fl_RX8_17 rfl jsn f11 ?_
  refine jg_istore_n (lv' := [(2, .inl (ji h 385 a0)), (0, .inr (.inr (some (a0)))), (1, .inl (x1))]) dX8_latestOfLesserLevel_4 rfl (by decide) rfl ?_
  refine jG.sub (lv' := [(0, .inr (.inr (some (a0)))), (1, .inl (x1)), (2, .inl (ji h 385 a0))]) (by simp) ?_
  exact hv
theorem eX8_latestOfLesserLevel {g : jg} {a0 : Nat} {x1 : Int32} {h : jh} {mc ms : Nat} {Q : jq} (hv : VX8_latestOfLesserLevel_0 g a0 x1 h mc ms Q) : jM g mX8_latestOfLesserLevel [.inr (.inr (some (a0))), .inl (x1)] h mc ms Q := jM.of (by decide) (Nat.le_of_ble_eq_true rfl) (lv := [(0, .inr (.inr (some (a0)))), (1, .inl (x1))]) rfl (vX8_latestOfLesserLevel_0 hv)
theorem dX8_mayBeTable_0 : decode cX8_mayBeTable 0 = .ok (.aload_n 1, 1) := by decide +kernel
theorem dX8_mayBeTable_1 : decode cX8_mayBeTable 1 = .ok (.invokevirtual 58, 3) := by decide +kernel
theorem dX8_mayBeTable_4 : decode cX8_mayBeTable 4 = .ok (.ifCond .eq 17, 3) := by decide +kernel
theorem dX8_mayBeTable_7 : decode cX8_mayBeTable 7 = .ok (.aload_n 1, 1) := by decide +kernel
theorem dX8_mayBeTable_8 : decode cX8_mayBeTable 8 = .ok (.getfield 61, 3) := by decide +kernel
theorem dX8_mayBeTable_11 : decode cX8_mayBeTable 11 = .ok (.ifnonnull 10, 3) := by decide +kernel
theorem dX8_mayBeTable_14 : decode cX8_mayBeTable 14 = .ok (.aload_n 1, 1) := by decide +kernel
theorem dX8_mayBeTable_15 : decode cX8_mayBeTable 15 = .ok (.getfield 65, 3) := by decide +kernel
theorem dX8_mayBeTable_18 : decode cX8_mayBeTable 18 = .ok (.ifCond .eq 5, 3) := by decide +kernel
theorem dX8_mayBeTable_21 : decode cX8_mayBeTable 21 = .ok (.iconst 0, 1) := by decide +kernel
theorem dX8_mayBeTable_22 : decode cX8_mayBeTable 22 = .ok (.ireturn, 1) := by decide +kernel
theorem dX8_mayBeTable_23 : decode cX8_mayBeTable 23 = .ok (.iload_n 2, 1) := by decide +kernel
theorem dX8_mayBeTable_24 : decode cX8_mayBeTable 24 = .ok (.ifCond .eq 12, 3) := by decide +kernel
theorem dX8_mayBeTable_27 : decode cX8_mayBeTable 27 = .ok (.aload_n 1, 1) := by decide +kernel
theorem dX8_mayBeTable_28 : decode cX8_mayBeTable 28 = .ok (.invokevirtual 69, 3) := by decide +kernel
theorem dX8_mayBeTable_31 : decode cX8_mayBeTable 31 = .ok (.ifCond .le 5, 3) := by decide +kernel
theorem dX8_mayBeTable_34 : decode cX8_mayBeTable 34 = .ok (.iconst 0, 1) := by decide +kernel
theorem dX8_mayBeTable_35 : decode cX8_mayBeTable 35 = .ok (.ireturn, 1) := by decide +kernel
theorem dX8_mayBeTable_36 : decode cX8_mayBeTable 36 = .ok (.aload_n 1, 1) := by decide +kernel
theorem dX8_mayBeTable_37 : decode cX8_mayBeTable 37 = .ok (.getfield 73, 3) := by decide +kernel
theorem dX8_mayBeTable_40 : decode cX8_mayBeTable 40 = .ok (.istore_n 3, 1) := by decide +kernel
theorem dX8_mayBeTable_41 : decode cX8_mayBeTable 41 = .ok (.iload_n 3, 1) := by decide +kernel
theorem dX8_mayBeTable_42 : decode cX8_mayBeTable 42 = .ok (.aload_n 0, 1) := by decide +kernel
theorem dX8_mayBeTable_43 : decode cX8_mayBeTable 43 = .ok (.getfield 17, 3) := by decide +kernel
theorem dX8_mayBeTable_46 : decode cX8_mayBeTable 46 = .ok (.if_icmp .gt 65, 3) := by decide +kernel
theorem dX8_mayBeTable_49 : decode cX8_mayBeTable 49 = .ok (.aload_n 0, 1) := by decide +kernel
theorem dX8_mayBeTable_50 : decode cX8_mayBeTable 50 = .ok (.getfield 11, 3) := by decide +kernel
theorem dX8_mayBeTable_53 : decode cX8_mayBeTable 53 = .ok (.iload_n 3, 1) := by decide +kernel
theorem dX8_mayBeTable_54 : decode cX8_mayBeTable 54 = .ok (.aaload, 1) := by decide +kernel
theorem dX8_mayBeTable_55 : decode cX8_mayBeTable 55 = .ok (.astore 4, 2) := by decide +kernel
theorem dX8_mayBeTable_57 : decode cX8_mayBeTable 57 = .ok (.aload 4, 2) := by decide +kernel
theorem dX8_mayBeTable_59 : decode cX8_mayBeTable 59 = .ok (.aload_n 1, 1) := by decide +kernel
theorem dX8_mayBeTable_60 : decode cX8_mayBeTable 60 = .ok (.if_acmp .eq 15, 3) := by decide +kernel
theorem dX8_mayBeTable_63 : decode cX8_mayBeTable 63 = .ok (.aload 4, 2) := by decide +kernel
theorem dX8_mayBeTable_65 : decode cX8_mayBeTable 65 = .ok (.aload_n 1, 1) := by decide +kernel
theorem dX8_mayBeTable_66 : decode cX8_mayBeTable 66 = .ok (.invokevirtual 76, 3) := by decide +kernel
theorem dX8_mayBeTable_69 : decode cX8_mayBeTable 69 = .ok (.ifCond .ne 6, 3) := by decide +kernel
theorem dX8_mayBeTable_72 : decode cX8_mayBeTable 72 = .ok (.goto 33, 3) := by decide +kernel
theorem dX8_mayBeTable_75 : decode cX8_mayBeTable 75 = .ok (.aload 4, 2) := by decide +kernel
theorem dX8_mayBeTable_77 : decode cX8_mayBeTable 77 = .ok (.invokevirtual 69, 3) := by decide +kernel
theorem dX8_mayBeTable_80 : decode cX8_mayBeTable 80 = .ok (.iconst 3, 1) := by decide +kernel
theorem dX8_mayBeTable_81 : decode cX8_mayBeTable 81 = .ok (.if_icmp .ge 22, 3) := by decide +kernel
theorem dX8_mayBeTable_84 : decode cX8_mayBeTable 84 = .ok (.aload 4, 2) := by decide +kernel
theorem dX8_mayBeTable_86 : decode cX8_mayBeTable 86 = .ok (.getfield 61, 3) := by decide +kernel
theorem dX8_mayBeTable_89 : decode cX8_mayBeTable 89 = .ok (.ifnull 16, 3) := by decide +kernel
theorem dX8_mayBeTable_92 : decode cX8_mayBeTable 92 = .ok (.aload 4, 2) := by decide +kernel
theorem dX8_mayBeTable_94 : decode cX8_mayBeTable 94 = .ok (.getfield 61, 3) := by decide +kernel
theorem dX8_mayBeTable_97 : decode cX8_mayBeTable 97 = .ok (.getfield 80, 3) := by decide +kernel
theorem dX8_mayBeTable_100 : decode cX8_mayBeTable 100 = .ok (.ifCond .eq 5, 3) := by decide +kernel
theorem dX8_mayBeTable_103 : decode cX8_mayBeTable 103 = .ok (.iconst 0, 1) := by decide +kernel
theorem dX8_mayBeTable_104 : decode cX8_mayBeTable 104 = .ok (.ireturn, 1) := by decide +kernel
theorem dX8_mayBeTable_105 : decode cX8_mayBeTable 105 = .ok (.iinc 3 1, 3) := by decide +kernel
theorem dX8_mayBeTable_108 : decode cX8_mayBeTable 108 = .ok (.goto (-67), 3) := by decide +kernel
theorem dX8_mayBeTable_111 : decode cX8_mayBeTable 111 = .ok (.iconst 1, 1) := by decide +kernel
theorem dX8_mayBeTable_112 : decode cX8_mayBeTable 112 = .ok (.ireturn, 1) := by decide +kernel
def VX8_mayBeTable_75 (g : jg) (a0 : Nat) (o1 : Option Nat) (x3 : Int32) (o4 : Option Nat) (h : jh) (k n : Nat) (Q : jq) : Prop := (¬ (o4) = none) ∧ (jt h (jd (o4)) = 1) ∧ jM g mX0_tablesWithin [.inr (.inr (some (jd (o4))))] h 0 0 (jki (fun (r3 : Int32) (h4 : jh) => (((3 : Int32) ≤ (r3) → Q (.inl (some (.inl (0)))) h4) ∧ (¬ (3 : Int32) ≤ (r3) → (jt h4 (jd (o4)) = 1) ∧ (((jr h4 10 (jd (o4))) = none → jG g mX8_mayBeTable 41 [(0, .inr (.inr (some (a0)))), (1, .inr (.inr (o1))), (3, .inl ((x3) + 1))] [] h4 k n Q) ∧ (¬ (jr h4 10 (jd (o4))) = none → (jt h4 (jd (jr h4 10 (jd (o4)))) = 6) ∧ (((ji h4 322 (jd (jr h4 10 (jd (o4))))) = 0 → jG g mX8_mayBeTable 41 [(0, .inr (.inr (some (a0)))), (1, .inr (.inr (o1))), (3, .inl ((x3) + 1))] [] h4 k n Q) ∧ (¬ (ji h4 322 (jd (jr h4 10 (jd (o4))))) = 0 → Q (.inl (some (.inl (0)))) h4))))))) (fun e h9 => Q (.inr e) h9))
set_option maxRecDepth 20000 in
theorem vX8_mayBeTable_75 {g : jg} {a0 : Nat} {o1 : Option Nat} {x3 : Int32} {o4 : Option Nat} {h : jh} {k n : Nat} {Q : jq} (hv : VX8_mayBeTable_75 g a0 o1 x3 o4 h k n Q) : jG g mX8_mayBeTable 75 [(0, .inr (.inr (some (a0)))), (1, .inr (.inr (o1))), (3, .inl (x3)), (4, .inr (.inr (o4)))] [] h k n Q := by
  unfold VX8_mayBeTable_75 at hv
  refine jg_aload dX8_mayBeTable_75 (List.Mem.tail _ (List.Mem.tail _ (List.Mem.tail _ (List.Mem.head _)))) ?_
  obtain ⟨f1, hv⟩ := hv
  obtain ⟨f2, hv⟩ := hv
  refine jp_callV mX0_tablesWithin [] [] dX8_mayBeTable_77 rfl cl_RX8_69 ⟨⟨by decide, by decide⟩, by decide⟩ f1 f2 (Nat.zero_le _) (Nat.zero_le _) (jM.mono (jki_k (fun r3 h4 hv => ?_)) hv)
  refine jg_iconst (v := 3) dX8_mayBeTable_80 (by decide) ?_
  refine jg_icmp_ge (tgt := 103) dX8_mayBeTable_81 (by decide) (fun c5 => ?_) (fun c5 => ?_)
  · replace hv := hv.1 c5
    refine jg_iconst (v := 0) dX8_mayBeTable_103 (by decide) ?_
    exact jg_bret dX8_mayBeTable_104 rfl (by decide) hv
  · replace hv := hv.2 c5
    refine jg_aload dX8_mayBeTable_84 (List.Mem.tail _ (List.Mem.tail _ (List.Mem.tail _ (List.Mem.head _)))) ?_
    obtain ⟨f6, hv⟩ := hv
    refine jg_getr dX8_mayBeTable_86 fl_RX8_61 rfl f1 f6 ?_
    refine jg_ifnull (tgt := 105) dX8_mayBeTable_89 (by decide) (fun c7 => ?_) (fun c7 => ?_)
    · replace hv := hv.1 c7
      refine jg_iinc (v := (x3) + 1) (lv' := [(3, .inl ((x3) + 1)), (0, .inr (.inr (some (a0)))), (1, .inr (.inr (o1))), (4, .inr (.inr (o4)))]) dX8_mayBeTable_105 (List.Mem.tail _ (List.Mem.tail _ (List.Mem.head _))) rfl (by decide) rfl ?_
      refine jg_goto (tgt := 41) dX8_mayBeTable_108 (by decide) ?_
      refine jG.sub (lv' := [(0, .inr (.inr (some (a0)))), (1, .inr (.inr (o1))), (3, .inl ((x3) + 1))]) (by simp) ?_
      exact hv
    · replace hv := hv.2 c7
      refine jg_aload dX8_mayBeTable_92 (List.Mem.tail _ (List.Mem.tail _ (List.Mem.tail _ (List.Mem.head _)))) ?_
      refine jg_getr dX8_mayBeTable_94 fl_RX8_61 rfl f1 f6 ?_
      obtain ⟨f8, hv⟩ := hv
      refine jg_geti dX8_mayBeTable_97 fl_RX8_80 rfl c7 f8 ?_
      refine jg_if_eq (tgt := 105) dX8_mayBeTable_100 (by decide) (fun c9 => ?_) (fun c9 => ?_)
      · replace hv := hv.1 c9
        refine jg_iinc (v := (x3) + 1) (lv' := [(3, .inl ((x3) + 1)), (0, .inr (.inr (some (a0)))), (1, .inr (.inr (o1))), (4, .inr (.inr (o4)))]) dX8_mayBeTable_105 (List.Mem.tail _ (List.Mem.tail _ (List.Mem.head _))) rfl (by decide) rfl ?_
        refine jg_goto (tgt := 41) dX8_mayBeTable_108 (by decide) ?_
        refine jG.sub (lv' := [(0, .inr (.inr (some (a0)))), (1, .inr (.inr (o1))), (3, .inl ((x3) + 1))]) (by simp) ?_
        exact hv
      · replace hv := hv.2 c9
        refine jg_iconst (v := 0) dX8_mayBeTable_103 (by decide) ?_
        exact jg_bret dX8_mayBeTable_104 rfl (by decide) hv
def VX8_mayBeTable_41 (g : jg) (a0 : Nat) (o1 : Option Nat) (x3 : Int32) (h : jh) (k n : Nat) (Q : jq) : Prop := (jt h a0 = 7) ∧ (((ji h 385 a0) < (x3) → Q (.inl (some (.inl (1)))) h) ∧ (¬ (ji h 385 a0) < (x3) → (¬ (jr h 384 a0) = none) ∧ (jt h (jd (jr h 384 a0)) = 23) ∧ (vp_in (x3) (jn h (jd (jr h 384 a0)))) ∧ (((jR h (jd (jr h 384 a0)) (x3 : Int32).toNatClampNeg) = (o1) → VX8_mayBeTable_75 g (a0) (o1) (x3) (jR h (jd (jr h 384 a0)) (x3 : Int32).toNatClampNeg) h k n Q) ∧ (¬ (jR h (jd (jr h 384 a0)) (x3 : Int32).toNatClampNeg) = (o1) → (¬ (jR h (jd (jr h 384 a0)) (x3 : Int32).toNatClampNeg) = none) ∧ (jt h (jd (jR h (jd (jr h 384 a0)) (x3 : Int32).toNatClampNeg)) = 1) ∧ jM g mX0_isBelow [.inr (.inr (some (jd (jR h (jd (jr h 384 a0)) (x3 : Int32).toNatClampNeg)))), .inr (.inr (o1))] h 0 0 (jki (fun (r18 : Int32) (h19 : jh) => ((¬ (r18) = 0 → VX8_mayBeTable_75 g (a0) (o1) (x3) (jR h (jd (jr h 384 a0)) (x3 : Int32).toNatClampNeg) h19 k n Q) ∧ ((r18) = 0 → jG g mX8_mayBeTable 41 [(0, .inr (.inr (some (a0)))), (1, .inr (.inr (o1))), (3, .inl ((x3) + 1))] [] h19 k n Q))) (fun e h9 => Q (.inr e) h9))))))
set_option maxRecDepth 20000 in
theorem vX8_mayBeTable_41 {g : jg} {a0 : Nat} {o1 : Option Nat} {x3 : Int32} {h : jh} {k n : Nat} {Q : jq} (hv : VX8_mayBeTable_41 g a0 o1 x3 h k n Q) : jG g mX8_mayBeTable 41 [(0, .inr (.inr (some (a0)))), (1, .inr (.inr (o1))), (3, .inl (x3))] [] h k n Q := by
  unfold VX8_mayBeTable_41 at hv
  refine jg_iload_n dX8_mayBeTable_41 rfl (List.Mem.tail _ (List.Mem.tail _ (List.Mem.head _))) ?_
  refine jg_aload_n dX8_mayBeTable_42 rfl (List.Mem.head _) ?_
  obtain ⟨f10, hv⟩ := hv
  refine jg_geti dX8_mayBeTable_43 fl_RX8_17 rfl jsn f10 ?_
  refine jg_icmp_gt (tgt := 111) dX8_mayBeTable_46 (by decide) (fun c11 => ?_) (fun c11 => ?_)
  · replace hv := hv.1 c11
    refine jg_iconst (v := 1) dX8_mayBeTable_111 (by decide) ?_
    exact jg_bret dX8_mayBeTable_112 rfl (by decide) hv
  · replace hv := hv.2 c11
    refine jg_aload_n dX8_mayBeTable_49 rfl (List.Mem.head _) ?_
    refine jg_getr dX8_mayBeTable_50 fl_RX8_11 rfl jsn f10 ?_
    refine jg_iload_n dX8_mayBeTable_53 rfl (List.Mem.tail _ (List.Mem.tail _ (List.Mem.head _))) ?_
    obtain ⟨f12, hv⟩ := hv
    obtain ⟨f13, hv⟩ := hv
    obtain ⟨f14, hv⟩ := hv
    refine jg_aald dX8_mayBeTable_54 f12 f13 f14 ?_
    refine jg_astore (lv' := [(4, .inr (.inr (jR h (jd (jr h 384 a0)) (x3 : Int32).toNatClampNeg))), (0, .inr (.inr (some (a0)))), (1, .inr (.inr (o1))), (3, .inl (x3))]) dX8_mayBeTable_55 (by decide) rfl ?_
    refine jg_aload dX8_mayBeTable_57 (List.Mem.head _) ?_
    refine jg_aload_n dX8_mayBeTable_59 rfl (List.Mem.tail _ (List.Mem.tail _ (List.Mem.head _))) ?_
    refine jg_acmp_eq (tgt := 75) dX8_mayBeTable_60 (by decide) (fun c15 => ?_) (fun c15 => ?_)
    · replace hv := hv.1 c15
      refine jG.sub (lv' := [(0, .inr (.inr (some (a0)))), (1, .inr (.inr (o1))), (3, .inl (x3)), (4, .inr (.inr (jR h (jd (jr h 384 a0)) (x3 : Int32).toNatClampNeg)))]) (by simp) ?_
      exact vX8_mayBeTable_75 hv
    · replace hv := hv.2 c15
      refine jg_aload dX8_mayBeTable_63 (List.Mem.head _) ?_
      refine jg_aload_n dX8_mayBeTable_65 rfl (List.Mem.tail _ (List.Mem.tail _ (List.Mem.head _))) ?_
      obtain ⟨f16, hv⟩ := hv
      obtain ⟨f17, hv⟩ := hv
      refine jp_callV mX0_isBelow [.inr (.inr (o1))] [] dX8_mayBeTable_66 rfl cl_RX8_76 ⟨⟨by decide, by decide⟩, by decide⟩ f16 f17 (Nat.zero_le _) (Nat.zero_le _) (jM.mono (jki_k (fun r18 h19 hv => ?_)) hv)
      refine jg_if_ne (tgt := 75) dX8_mayBeTable_69 (by decide) (fun c20 => ?_) (fun c20 => ?_)
      · replace hv := hv.1 c20
        refine jG.sub (lv' := [(0, .inr (.inr (some (a0)))), (1, .inr (.inr (o1))), (3, .inl (x3)), (4, .inr (.inr (jR h (jd (jr h 384 a0)) (x3 : Int32).toNatClampNeg)))]) (by simp) ?_
        exact vX8_mayBeTable_75 hv
      · replace hv := hv.2 c20
        refine jg_goto (tgt := 105) dX8_mayBeTable_72 (by decide) ?_
        refine jg_iinc (v := (x3) + 1) (lv' := [(3, .inl ((x3) + 1)), (4, .inr (.inr (jR h (jd (jr h 384 a0)) (x3 : Int32).toNatClampNeg))), (0, .inr (.inr (some (a0)))), (1, .inr (.inr (o1)))]) dX8_mayBeTable_105 (List.Mem.tail _ (List.Mem.tail _ (List.Mem.tail _ (List.Mem.head _)))) rfl (by decide) rfl ?_
        refine jg_goto (tgt := 41) dX8_mayBeTable_108 (by decide) ?_
        refine jG.sub (lv' := [(0, .inr (.inr (some (a0)))), (1, .inr (.inr (o1))), (3, .inl ((x3) + 1))]) (by simp) ?_
        exact hv
def VX8_mayBeTable_0 (g : jg) (a0 : Nat) (o1 : Option Nat) (x2 : Int32) (h : jh) (k n : Nat) (Q : jq) : Prop := (¬ (o1) = none) ∧ (jt h (jd (o1)) = 1) ∧ jM g mX0_isInner [.inr (.inr (some (jd (o1))))] h 0 0 (jki (fun (r23 : Int32) (h24 : jh) => (((r23) = 0 → Q (.inl (some (.inl (0)))) h24) ∧ (¬ (r23) = 0 → (jt h24 (jd (o1)) = 1) ∧ ((¬ (jr h24 10 (jd (o1))) = none → Q (.inl (some (.inl (0)))) h24) ∧ ((jr h24 10 (jd (o1))) = none → (((ji h24 18 (jd (o1))) = 0 → (((x2) = 0 → jG g mX8_mayBeTable 41 [(0, .inr (.inr (some (a0)))), (1, .inr (.inr (o1))), (3, .inl (ji h24 0 (jd (o1))))] [] h24 k n Q) ∧ (¬ (x2) = 0 → jM g mX0_tablesWithin [.inr (.inr (some (jd (o1))))] h24 0 0 (jki (fun (r30 : Int32) (h31 : jh) => (((r30) ≤ 0 → (jt h31 (jd (o1)) = 1) ∧ jG g mX8_mayBeTable 41 [(0, .inr (.inr (some (a0)))), (1, .inr (.inr (o1))), (3, .inl (ji h31 0 (jd (o1))))] [] h31 k n Q) ∧ (¬ (r30) ≤ 0 → Q (.inl (some (.inl (0)))) h31))) (fun e h9 => Q (.inr e) h9))))) ∧ (¬ (ji h24 18 (jd (o1))) = 0 → Q (.inl (some (.inl (0)))) h24))))))) (fun e h9 => Q (.inr e) h9))
set_option maxRecDepth 20000 in
theorem vX8_mayBeTable_0 {g : jg} {a0 : Nat} {o1 : Option Nat} {x2 : Int32} {h : jh} {k n : Nat} {Q : jq} (hv : VX8_mayBeTable_0 g a0 o1 x2 h k n Q) : jG g mX8_mayBeTable 0 [(0, .inr (.inr (some (a0)))), (1, .inr (.inr (o1))), (2, .inl (x2))] [] h k n Q := by
  unfold VX8_mayBeTable_0 at hv
  refine jg_aload_n dX8_mayBeTable_0 rfl (List.Mem.tail _ (List.Mem.head _)) ?_
  obtain ⟨f21, hv⟩ := hv
  obtain ⟨f22, hv⟩ := hv
  refine jp_callV mX0_isInner [] [] dX8_mayBeTable_1 rfl cl_RX8_58 ⟨⟨by decide, by decide⟩, by decide⟩ f21 f22 (Nat.zero_le _) (Nat.zero_le _) (jM.mono (jki_k (fun r23 h24 hv => ?_)) hv)
  refine jg_if_eq (tgt := 21) dX8_mayBeTable_4 (by decide) (fun c25 => ?_) (fun c25 => ?_)
  · replace hv := hv.1 c25
    refine jg_iconst (v := 0) dX8_mayBeTable_21 (by decide) ?_
    exact jg_bret dX8_mayBeTable_22 rfl (by decide) hv
  · replace hv := hv.2 c25
    refine jg_aload_n dX8_mayBeTable_7 rfl (List.Mem.tail _ (List.Mem.head _)) ?_
    obtain ⟨f26, hv⟩ := hv
    refine jg_getr dX8_mayBeTable_8 fl_RX8_61 rfl f21 f26 ?_
    refine jg_ifnonnull (tgt := 21) dX8_mayBeTable_11 (by decide) (fun c27 => ?_) (fun c27 => ?_)
    · replace hv := hv.1 c27
      refine jg_iconst (v := 0) dX8_mayBeTable_21 (by decide) ?_
      exact jg_bret dX8_mayBeTable_22 rfl (by decide) hv
    · replace hv := hv.2 c27
      refine jg_aload_n dX8_mayBeTable_14 rfl (List.Mem.tail _ (List.Mem.head _)) ?_
      refine jg_geti dX8_mayBeTable_15 fl_RX8_65 rfl f21 f26 ?_
      refine jg_if_eq (tgt := 23) dX8_mayBeTable_18 (by decide) (fun c28 => ?_) (fun c28 => ?_)
      · replace hv := hv.1 c28
        refine jg_iload_n dX8_mayBeTable_23 rfl (List.Mem.tail _ (List.Mem.tail _ (List.Mem.head _))) ?_
        refine jg_if_eq (tgt := 36) dX8_mayBeTable_24 (by decide) (fun c29 => ?_) (fun c29 => ?_)
        · replace hv := hv.1 c29
          refine jg_aload_n dX8_mayBeTable_36 rfl (List.Mem.tail _ (List.Mem.head _)) ?_
          refine jg_geti dX8_mayBeTable_37 fl_RX8_73 rfl f21 f26 ?_
          refine jg_istore_n (lv' := [(3, .inl (ji h24 0 (jd (o1)))), (0, .inr (.inr (some (a0)))), (1, .inr (.inr (o1))), (2, .inl (x2))]) dX8_mayBeTable_40 rfl (by decide) rfl ?_
          refine jG.sub (lv' := [(0, .inr (.inr (some (a0)))), (1, .inr (.inr (o1))), (3, .inl (ji h24 0 (jd (o1))))]) (by simp) ?_
          exact hv
        · replace hv := hv.2 c29
          refine jg_aload_n dX8_mayBeTable_27 rfl (List.Mem.tail _ (List.Mem.head _)) ?_
          refine jp_callV mX0_tablesWithin [] [] dX8_mayBeTable_28 rfl cl_RX8_69 ⟨⟨by decide, by decide⟩, by decide⟩ f21 f26 (Nat.zero_le _) (Nat.zero_le _) (jM.mono (jki_k (fun r30 h31 hv => ?_)) hv)
          refine jg_if_le (tgt := 36) dX8_mayBeTable_31 (by decide) (fun c32 => ?_) (fun c32 => ?_)
          · replace hv := hv.1 c32
            refine jg_aload_n dX8_mayBeTable_36 rfl (List.Mem.tail _ (List.Mem.head _)) ?_
            obtain ⟨f33, hv⟩ := hv
            refine jg_geti dX8_mayBeTable_37 fl_RX8_73 rfl f21 f33 ?_
            refine jg_istore_n (lv' := [(3, .inl (ji h31 0 (jd (o1)))), (0, .inr (.inr (some (a0)))), (1, .inr (.inr (o1))), (2, .inl (x2))]) dX8_mayBeTable_40 rfl (by decide) rfl ?_
            refine jG.sub (lv' := [(0, .inr (.inr (some (a0)))), (1, .inr (.inr (o1))), (3, .inl (ji h31 0 (jd (o1))))]) (by simp) ?_
            exact hv
          · replace hv := hv.2 c32
            refine jg_iconst (v := 0) dX8_mayBeTable_34 (by decide) ?_
            exact jg_bret dX8_mayBeTable_35 rfl (by decide) hv
      · replace hv := hv.2 c28
        refine jg_iconst (v := 0) dX8_mayBeTable_21 (by decide) ?_
        exact jg_bret dX8_mayBeTable_22 rfl (by decide) hv
theorem eX8_mayBeTable {g : jg} {a0 : Nat} {o1 : Option Nat} {x2 : Int32} {h : jh} {mc ms : Nat} {Q : jq} (hv : VX8_mayBeTable_0 g a0 o1 x2 h mc ms Q) : jM g mX8_mayBeTable [.inr (.inr (some (a0))), .inr (.inr (o1)), .inl (x2)] h mc ms Q := jM.of (by decide) (Nat.le_of_ble_eq_true rfl) (lv := [(0, .inr (.inr (some (a0)))), (1, .inr (.inr (o1))), (2, .inl (x2))]) rfl (vX8_mayBeTable_0 hv)
theorem dX8_mayRedefine_0 : decode cX8_mayRedefine 0 = .ok (.aload_n 2, 1) := by decide +kernel
theorem dX8_mayRedefine_1 : decode cX8_mayRedefine 1 = .ok (.getfield 73, 3) := by decide +kernel
theorem dX8_mayRedefine_4 : decode cX8_mayRedefine 4 = .ok (.aload_n 1, 1) := by decide +kernel
theorem dX8_mayRedefine_5 : decode cX8_mayRedefine 5 = .ok (.getfield 73, 3) := by decide +kernel
theorem dX8_mayRedefine_8 : decode cX8_mayRedefine 8 = .ok (.if_icmp .ge 23, 3) := by decide +kernel
theorem dX8_mayRedefine_11 : decode cX8_mayRedefine 11 = .ok (.aload_n 2, 1) := by decide +kernel
theorem dX8_mayRedefine_12 : decode cX8_mayRedefine 12 = .ok (.getfield 55, 3) := by decide +kernel
theorem dX8_mayRedefine_15 : decode cX8_mayRedefine 15 = .ok (.aload_n 1, 1) := by decide +kernel
theorem dX8_mayRedefine_16 : decode cX8_mayRedefine 16 = .ok (.getfield 55, 3) := by decide +kernel
theorem dX8_mayRedefine_19 : decode cX8_mayRedefine 19 = .ok (.if_icmp .ne 12, 3) := by decide +kernel
theorem dX8_mayRedefine_22 : decode cX8_mayRedefine 22 = .ok (.aload_n 1, 1) := by decide +kernel
theorem dX8_mayRedefine_23 : decode cX8_mayRedefine 23 = .ok (.getfield 55, 3) := by decide +kernel
theorem dX8_mayRedefine_26 : decode cX8_mayRedefine 26 = .ok (.bipush 49, 2) := by decide +kernel
theorem dX8_mayRedefine_28 : decode cX8_mayRedefine 28 = .ok (.if_icmp .le 5, 3) := by decide +kernel
theorem dX8_mayRedefine_31 : decode cX8_mayRedefine 31 = .ok (.iconst 0, 1) := by decide +kernel
theorem dX8_mayRedefine_32 : decode cX8_mayRedefine 32 = .ok (.ireturn, 1) := by decide +kernel
theorem dX8_mayRedefine_33 : decode cX8_mayRedefine 33 = .ok (.aload_n 2, 1) := by decide +kernel
theorem dX8_mayRedefine_34 : decode cX8_mayRedefine 34 = .ok (.getfield 85, 3) := by decide +kernel
theorem dX8_mayRedefine_37 : decode cX8_mayRedefine 37 = .ok (.aload_n 1, 1) := by decide +kernel
theorem dX8_mayRedefine_38 : decode cX8_mayRedefine 38 = .ok (.getfield 85, 3) := by decide +kernel
theorem dX8_mayRedefine_41 : decode cX8_mayRedefine 41 = .ok (.if_acmp .ne 17, 3) := by decide +kernel
theorem dX8_mayRedefine_44 : decode cX8_mayRedefine 44 = .ok (.aload_n 2, 1) := by decide +kernel
theorem dX8_mayRedefine_45 : decode cX8_mayRedefine 45 = .ok (.getfield 88, 3) := by decide +kernel
theorem dX8_mayRedefine_48 : decode cX8_mayRedefine 48 = .ok (.ifnonnull 10, 3) := by decide +kernel
theorem dX8_mayRedefine_51 : decode cX8_mayRedefine 51 = .ok (.aload_n 2, 1) := by decide +kernel
theorem dX8_mayRedefine_52 : decode cX8_mayRedefine 52 = .ok (.getfield 61, 3) := by decide +kernel
theorem dX8_mayRedefine_55 : decode cX8_mayRedefine 55 = .ok (.ifnull 5, 3) := by decide +kernel
theorem dX8_mayRedefine_58 : decode cX8_mayRedefine 58 = .ok (.iconst 0, 1) := by decide +kernel
theorem dX8_mayRedefine_59 : decode cX8_mayRedefine 59 = .ok (.ireturn, 1) := by decide +kernel
theorem dX8_mayRedefine_60 : decode cX8_mayRedefine 60 = .ok (.aload_n 1, 1) := by decide +kernel
theorem dX8_mayRedefine_61 : decode cX8_mayRedefine 61 = .ok (.getfield 88, 3) := by decide +kernel
theorem dX8_mayRedefine_64 : decode cX8_mayRedefine 64 = .ok (.ifnonnull 26, 3) := by decide +kernel
theorem dX8_mayRedefine_67 : decode cX8_mayRedefine 67 = .ok (.aload_n 1, 1) := by decide +kernel
theorem dX8_mayRedefine_68 : decode cX8_mayRedefine 68 = .ok (.getfield 65, 3) := by decide +kernel
theorem dX8_mayRedefine_71 : decode cX8_mayRedefine 71 = .ok (.ifCond .ne 19, 3) := by decide +kernel
theorem dX8_mayRedefine_74 : decode cX8_mayRedefine 74 = .ok (.aload_n 1, 1) := by decide +kernel
theorem dX8_mayRedefine_75 : decode cX8_mayRedefine 75 = .ok (.getfield 91, 3) := by decide +kernel
theorem dX8_mayRedefine_78 : decode cX8_mayRedefine 78 = .ok (.iconst (-1), 1) := by decide +kernel
theorem dX8_mayRedefine_79 : decode cX8_mayRedefine 79 = .ok (.if_icmp .ne 11, 3) := by decide +kernel
theorem dX8_mayRedefine_82 : decode cX8_mayRedefine 82 = .ok (.aload_n 2, 1) := by decide +kernel
theorem dX8_mayRedefine_83 : decode cX8_mayRedefine 83 = .ok (.getfield 91, 3) := by decide +kernel
theorem dX8_mayRedefine_86 : decode cX8_mayRedefine 86 = .ok (.iconst (-1), 1) := by decide +kernel
theorem dX8_mayRedefine_87 : decode cX8_mayRedefine 87 = .ok (.if_icmp .eq 5, 3) := by decide +kernel
theorem dX8_mayRedefine_90 : decode cX8_mayRedefine 90 = .ok (.iconst 0, 1) := by decide +kernel
theorem dX8_mayRedefine_91 : decode cX8_mayRedefine 91 = .ok (.ireturn, 1) := by decide +kernel
theorem dX8_mayRedefine_92 : decode cX8_mayRedefine 92 = .ok (.aload_n 0, 1) := by decide +kernel
theorem dX8_mayRedefine_93 : decode cX8_mayRedefine 93 = .ok (.aload_n 1, 1) := by decide +kernel
theorem dX8_mayRedefine_94 : decode cX8_mayRedefine 94 = .ok (.aload_n 2, 1) := by decide +kernel
theorem dX8_mayRedefine_95 : decode cX8_mayRedefine 95 = .ok (.invokevirtual 94, 3) := by decide +kernel
theorem dX8_mayRedefine_98 : decode cX8_mayRedefine 98 = .ok (.ifCond .eq 15, 3) := by decide +kernel
theorem dX8_mayRedefine_101 : decode cX8_mayRedefine 101 = .ok (.aload_n 0, 1) := by decide +kernel
theorem dX8_mayRedefine_102 : decode cX8_mayRedefine 102 = .ok (.aload_n 1, 1) := by decide +kernel
theorem dX8_mayRedefine_103 : decode cX8_mayRedefine 103 = .ok (.invokevirtual 98, 3) := by decide +kernel
theorem dX8_mayRedefine_106 : decode cX8_mayRedefine 106 = .ok (.ifCond .ne 7, 3) := by decide +kernel
theorem dX8_mayRedefine_109 : decode cX8_mayRedefine 109 = .ok (.iconst 1, 1) := by decide +kernel
theorem dX8_mayRedefine_110 : decode cX8_mayRedefine 110 = .ok (.goto 4, 3) := by decide +kernel
theorem dX8_mayRedefine_113 : decode cX8_mayRedefine 113 = .ok (.iconst 0, 1) := by decide +kernel
theorem dX8_mayRedefine_114 : decode cX8_mayRedefine 114 = .ok (.ireturn, 1) := by decide +kernel
def VX8_mayRedefine_0 (g : jg) (a0 : Nat) (o1 : Option Nat) (o2 : Option Nat) (h : jh) (k n : Nat) (Q : jq) : Prop := (¬ (o2) = none) ∧ (jt h (jd (o2)) = 1) ∧ (¬ (o1) = none) ∧ (jt h (jd (o1)) = 1) ∧ (((ji h 0 (jd (o1))) ≤ (ji h 0 (jd (o2))) → Q (.inl (some (.inl (0)))) h) ∧ (¬ (ji h 0 (jd (o1))) ≤ (ji h 0 (jd (o2))) → ((¬ (ji h 1 (jd (o2))) = (ji h 1 (jd (o1))) → Q (.inl (some (.inl (0)))) h) ∧ ((ji h 1 (jd (o2))) = (ji h 1 (jd (o1))) → (((ji h 1 (jd (o1))) ≤ (49) → ((¬ (jr h 5 (jd (o2))) = (jr h 5 (jd (o1))) → Q (.inl (some (.inl (0)))) h) ∧ ((jr h 5 (jd (o2))) = (jr h 5 (jd (o1))) → ((¬ (jr h 17 (jd (o2))) = none → Q (.inl (some (.inl (0)))) h) ∧ ((jr h 17 (jd (o2))) = none → (((jr h 10 (jd (o2))) = none → ((¬ (jr h 17 (jd (o1))) = none → Q (.inl (some (.inl (0)))) h) ∧ ((jr h 17 (jd (o1))) = none → ((¬ (ji h 18 (jd (o1))) = 0 → Q (.inl (some (.inl (0)))) h) ∧ ((ji h 18 (jd (o1))) = 0 → ((¬ (ji h 19 (jd (o1))) = ((-1)) → Q (.inl (some (.inl (0)))) h) ∧ ((ji h 19 (jd (o1))) = ((-1)) → (((ji h 19 (jd (o2))) = ((-1)) → (jt h a0 = 7) ∧ jM g mX8_allBetweenRedefine [.inr (.inr (some a0)), .inr (.inr (o1)), .inr (.inr (o2))] h 0 0 (jki (fun (r16 : Int32) (h17 : jh) => (((r16) = 0 → Q (.inl (some (.inl (0)))) h17) ∧ (¬ (r16) = 0 → (jt h17 a0 = 7) ∧ jM g mX8_hasValues [.inr (.inr (some a0)), .inr (.inr (o1))] h17 0 0 (jki (fun (r20 : Int32) (h21 : jh) => ((¬ (r20) = 0 → Q (.inl (some (.inl (0)))) h21) ∧ ((r20) = 0 → Q (.inl (some (.inl (1)))) h21))) (fun e h9 => Q (.inr e) h9))))) (fun e h9 => Q (.inr e) h9))) ∧ (¬ (ji h 19 (jd (o2))) = ((-1)) → Q (.inl (some (.inl (0)))) h))))))))) ∧ (¬ (jr h 10 (jd (o2))) = none → Q (.inl (some (.inl (0)))) h))))))) ∧ (¬ (ji h 1 (jd (o1))) ≤ (49) → Q (.inl (some (.inl (0)))) h))))))
set_option maxRecDepth 20000 in
theorem vX8_mayRedefine_0 {g : jg} {a0 : Nat} {o1 : Option Nat} {o2 : Option Nat} {h : jh} {k n : Nat} {Q : jq} (hv : VX8_mayRedefine_0 g a0 o1 o2 h k n Q) : jG g mX8_mayRedefine 0 [(0, .inr (.inr (some (a0)))), (1, .inr (.inr (o1))), (2, .inr (.inr (o2)))] [] h k n Q := by
  unfold VX8_mayRedefine_0 at hv
  refine jg_aload_n dX8_mayRedefine_0 rfl (List.Mem.tail _ (List.Mem.tail _ (List.Mem.head _))) ?_
  obtain ⟨f1, hv⟩ := hv
  obtain ⟨f2, hv⟩ := hv
  refine jg_geti dX8_mayRedefine_1 fl_RX8_73 rfl f1 f2 ?_
  refine jg_aload_n dX8_mayRedefine_4 rfl (List.Mem.tail _ (List.Mem.head _)) ?_
  obtain ⟨f3, hv⟩ := hv
  obtain ⟨f4, hv⟩ := hv
  refine jg_geti dX8_mayRedefine_5 fl_RX8_73 rfl f3 f4 ?_
  refine jg_icmp_ge (tgt := 31) dX8_mayRedefine_8 (by decide) (fun c5 => ?_) (fun c5 => ?_)
  · replace hv := hv.1 c5
    refine jg_iconst (v := 0) dX8_mayRedefine_31 (by decide) ?_
    exact jg_bret dX8_mayRedefine_32 rfl (by decide) hv
  · replace hv := hv.2 c5
    refine jg_aload_n dX8_mayRedefine_11 rfl (List.Mem.tail _ (List.Mem.tail _ (List.Mem.head _))) ?_
    refine jg_geti dX8_mayRedefine_12 fl_RX8_55 rfl f1 f2 ?_
    refine jg_aload_n dX8_mayRedefine_15 rfl (List.Mem.tail _ (List.Mem.head _)) ?_
    refine jg_geti dX8_mayRedefine_16 fl_RX8_55 rfl f3 f4 ?_
    refine jg_icmp_ne (tgt := 31) dX8_mayRedefine_19 (by decide) (fun c6 => ?_) (fun c6 => ?_)
    · replace hv := hv.1 c6
      refine jg_iconst (v := 0) dX8_mayRedefine_31 (by decide) ?_
      exact jg_bret dX8_mayRedefine_32 rfl (by decide) hv
    · replace hv := hv.2 c6
      refine jg_aload_n dX8_mayRedefine_22 rfl (List.Mem.tail _ (List.Mem.head _)) ?_
      refine jg_geti dX8_mayRedefine_23 fl_RX8_55 rfl f3 f4 ?_
      refine jg_bipush (v := 49) dX8_mayRedefine_26 (by decide) ?_
      refine jg_icmp_le (tgt := 33) dX8_mayRedefine_28 (by decide) (fun c7 => ?_) (fun c7 => ?_)
      · replace hv := hv.1 c7
        refine jg_aload_n dX8_mayRedefine_33 rfl (List.Mem.tail _ (List.Mem.tail _ (List.Mem.head _))) ?_
        refine jg_getr dX8_mayRedefine_34 fl_RX8_85 rfl f1 f2 ?_
        refine jg_aload_n dX8_mayRedefine_37 rfl (List.Mem.tail _ (List.Mem.head _)) ?_
        refine jg_getr dX8_mayRedefine_38 fl_RX8_85 rfl f3 f4 ?_
        refine jg_acmp_ne (tgt := 58) dX8_mayRedefine_41 (by decide) (fun c8 => ?_) (fun c8 => ?_)
        · replace hv := hv.1 c8
          refine jg_iconst (v := 0) dX8_mayRedefine_58 (by decide) ?_
          exact jg_bret dX8_mayRedefine_59 rfl (by decide) hv
        · replace hv := hv.2 c8
          refine jg_aload_n dX8_mayRedefine_44 rfl (List.Mem.tail _ (List.Mem.tail _ (List.Mem.head _))) ?_
          refine jg_getr dX8_mayRedefine_45 fl_RX8_88 rfl f1 f2 ?_
          refine jg_ifnonnull (tgt := 58) dX8_mayRedefine_48 (by decide) (fun c9 => ?_) (fun c9 => ?_)
          · replace hv := hv.1 c9
            refine jg_iconst (v := 0) dX8_mayRedefine_58 (by decide) ?_
            exact jg_bret dX8_mayRedefine_59 rfl (by decide) hv
          · replace hv := hv.2 c9
            refine jg_aload_n dX8_mayRedefine_51 rfl (List.Mem.tail _ (List.Mem.tail _ (List.Mem.head _))) ?_
            refine jg_getr dX8_mayRedefine_52 fl_RX8_61 rfl f1 f2 ?_
            refine jg_ifnull (tgt := 60) dX8_mayRedefine_55 (by decide) (fun c10 => ?_) (fun c10 => ?_)
            · replace hv := hv.1 c10
              refine jg_aload_n dX8_mayRedefine_60 rfl (List.Mem.tail _ (List.Mem.head _)) ?_
              refine jg_getr dX8_mayRedefine_61 fl_RX8_88 rfl f3 f4 ?_
              refine jg_ifnonnull (tgt := 90) dX8_mayRedefine_64 (by decide) (fun c11 => ?_) (fun c11 => ?_)
              · replace hv := hv.1 c11
                refine jg_iconst (v := 0) dX8_mayRedefine_90 (by decide) ?_
                exact jg_bret dX8_mayRedefine_91 rfl (by decide) hv
              · replace hv := hv.2 c11
                refine jg_aload_n dX8_mayRedefine_67 rfl (List.Mem.tail _ (List.Mem.head _)) ?_
                refine jg_geti dX8_mayRedefine_68 fl_RX8_65 rfl f3 f4 ?_
                refine jg_if_ne (tgt := 90) dX8_mayRedefine_71 (by decide) (fun c12 => ?_) (fun c12 => ?_)
                · replace hv := hv.1 c12
                  refine jg_iconst (v := 0) dX8_mayRedefine_90 (by decide) ?_
                  exact jg_bret dX8_mayRedefine_91 rfl (by decide) hv
                · replace hv := hv.2 c12
                  refine jg_aload_n dX8_mayRedefine_74 rfl (List.Mem.tail _ (List.Mem.head _)) ?_
                  refine jg_geti dX8_mayRedefine_75 fl_RX8_91 rfl f3 f4 ?_
                  refine jg_iconst (v := (-1)) dX8_mayRedefine_78 (by decide) ?_
                  refine jg_icmp_ne (tgt := 90) dX8_mayRedefine_79 (by decide) (fun c13 => ?_) (fun c13 => ?_)
                  · replace hv := hv.1 c13
                    refine jg_iconst (v := 0) dX8_mayRedefine_90 (by decide) ?_
                    exact jg_bret dX8_mayRedefine_91 rfl (by decide) hv
                  · replace hv := hv.2 c13
                    refine jg_aload_n dX8_mayRedefine_82 rfl (List.Mem.tail _ (List.Mem.tail _ (List.Mem.head _))) ?_
                    refine jg_geti dX8_mayRedefine_83 fl_RX8_91 rfl f1 f2 ?_
                    refine jg_iconst (v := (-1)) dX8_mayRedefine_86 (by decide) ?_
                    refine jg_icmp_eq (tgt := 92) dX8_mayRedefine_87 (by decide) (fun c14 => ?_) (fun c14 => ?_)
                    · replace hv := hv.1 c14
                      refine jg_aload_n dX8_mayRedefine_92 rfl (List.Mem.head _) ?_
                      refine jg_aload_n dX8_mayRedefine_93 rfl (List.Mem.tail _ (List.Mem.head _)) ?_
                      refine jg_aload_n dX8_mayRedefine_94 rfl (List.Mem.tail _ (List.Mem.tail _ (List.Mem.head _))) ?_
                      obtain ⟨f15, hv⟩ := hv
                      refine jp_callV mX8_allBetweenRedefine [.inr (.inr (o1)), .inr (.inr (o2))] [] dX8_mayRedefine_95 rfl cl_RX8_94 ⟨⟨by decide, by decide⟩, by decide⟩ jsn f15 (Nat.zero_le _) (Nat.zero_le _) (jM.mono (jki_k (fun r16 h17 hv => ?_)) hv)
                      refine jg_if_eq (tgt := 113) dX8_mayRedefine_98 (by decide) (fun c18 => ?_) (fun c18 => ?_)
                      · replace hv := hv.1 c18
                        refine jg_iconst (v := 0) dX8_mayRedefine_113 (by decide) ?_
                        exact jg_bret dX8_mayRedefine_114 rfl (by decide) hv
                      · replace hv := hv.2 c18
                        refine jg_aload_n dX8_mayRedefine_101 rfl (List.Mem.head _) ?_
                        refine jg_aload_n dX8_mayRedefine_102 rfl (List.Mem.tail _ (List.Mem.head _)) ?_
                        obtain ⟨f19, hv⟩ := hv
                        refine jp_callV mX8_hasValues [.inr (.inr (o1))] [] dX8_mayRedefine_103 rfl cl_RX8_98 ⟨⟨by decide, by decide⟩, by decide⟩ jsn f19 (Nat.zero_le _) (Nat.zero_le _) (jM.mono (jki_k (fun r20 h21 hv => ?_)) hv)
                        refine jg_if_ne (tgt := 113) dX8_mayRedefine_106 (by decide) (fun c22 => ?_) (fun c22 => ?_)
                        · replace hv := hv.1 c22
                          refine jg_iconst (v := 0) dX8_mayRedefine_113 (by decide) ?_
                          exact jg_bret dX8_mayRedefine_114 rfl (by decide) hv
                        · replace hv := hv.2 c22
                          refine jg_iconst (v := 1) dX8_mayRedefine_109 (by decide) ?_
                          refine jg_goto (tgt := 114) dX8_mayRedefine_110 (by decide) ?_
                          exact jg_bret dX8_mayRedefine_114 rfl (by decide) hv
                    · replace hv := hv.2 c14
                      refine jg_iconst (v := 0) dX8_mayRedefine_90 (by decide) ?_
                      exact jg_bret dX8_mayRedefine_91 rfl (by decide) hv
            · replace hv := hv.2 c10
              refine jg_iconst (v := 0) dX8_mayRedefine_58 (by decide) ?_
              exact jg_bret dX8_mayRedefine_59 rfl (by decide) hv
      · replace hv := hv.2 c7
        refine jg_iconst (v := 0) dX8_mayRedefine_31 (by decide) ?_
        exact jg_bret dX8_mayRedefine_32 rfl (by decide) hv
theorem eX8_mayRedefine {g : jg} {a0 : Nat} {o1 : Option Nat} {o2 : Option Nat} {h : jh} {mc ms : Nat} {Q : jq} (hv : VX8_mayRedefine_0 g a0 o1 o2 h mc ms Q) : jM g mX8_mayRedefine [.inr (.inr (some (a0))), .inr (.inr (o1)), .inr (.inr (o2))] h mc ms Q := jM.of (by decide) (Nat.le_of_ble_eq_true rfl) (lv := [(0, .inr (.inr (some (a0)))), (1, .inr (.inr (o1))), (2, .inr (.inr (o2)))]) rfl (vX8_mayRedefine_0 hv)
theorem dX8_allBetweenRedefine_0 : decode cX8_allBetweenRedefine 0 = .ok (.aload_n 2, 1) := by decide +kernel
theorem dX8_allBetweenRedefine_1 : decode cX8_allBetweenRedefine 1 = .ok (.getfield 73, 3) := by decide +kernel
theorem dX8_allBetweenRedefine_4 : decode cX8_allBetweenRedefine 4 = .ok (.iconst 1, 1) := by decide +kernel
theorem dX8_allBetweenRedefine_5 : decode cX8_allBetweenRedefine 5 = .ok (.iadd, 1) := by decide +kernel
theorem dX8_allBetweenRedefine_6 : decode cX8_allBetweenRedefine 6 = .ok (.istore_n 3, 1) := by decide +kernel
theorem dX8_allBetweenRedefine_7 : decode cX8_allBetweenRedefine 7 = .ok (.iload_n 3, 1) := by decide +kernel
theorem dX8_allBetweenRedefine_8 : decode cX8_allBetweenRedefine 8 = .ok (.aload_n 1, 1) := by decide +kernel
theorem dX8_allBetweenRedefine_9 : decode cX8_allBetweenRedefine 9 = .ok (.getfield 73, 3) := by decide +kernel
theorem dX8_allBetweenRedefine_12 : decode cX8_allBetweenRedefine 12 = .ok (.if_icmp .ge 52, 3) := by decide +kernel
theorem dX8_allBetweenRedefine_15 : decode cX8_allBetweenRedefine 15 = .ok (.aload_n 0, 1) := by decide +kernel
theorem dX8_allBetweenRedefine_16 : decode cX8_allBetweenRedefine 16 = .ok (.getfield 11, 3) := by decide +kernel
theorem dX8_allBetweenRedefine_19 : decode cX8_allBetweenRedefine 19 = .ok (.iload_n 3, 1) := by decide +kernel
theorem dX8_allBetweenRedefine_20 : decode cX8_allBetweenRedefine 20 = .ok (.aaload, 1) := by decide +kernel
theorem dX8_allBetweenRedefine_21 : decode cX8_allBetweenRedefine 21 = .ok (.astore 4, 2) := by decide +kernel
theorem dX8_allBetweenRedefine_23 : decode cX8_allBetweenRedefine 23 = .ok (.aload 4, 2) := by decide +kernel
theorem dX8_allBetweenRedefine_25 : decode cX8_allBetweenRedefine 25 = .ok (.getfield 55, 3) := by decide +kernel
theorem dX8_allBetweenRedefine_28 : decode cX8_allBetweenRedefine 28 = .ok (.aload_n 1, 1) := by decide +kernel
theorem dX8_allBetweenRedefine_29 : decode cX8_allBetweenRedefine 29 = .ok (.getfield 55, 3) := by decide +kernel
theorem dX8_allBetweenRedefine_32 : decode cX8_allBetweenRedefine 32 = .ok (.if_icmp .ne 26, 3) := by decide +kernel
theorem dX8_allBetweenRedefine_35 : decode cX8_allBetweenRedefine 35 = .ok (.aload 4, 2) := by decide +kernel
theorem dX8_allBetweenRedefine_37 : decode cX8_allBetweenRedefine 37 = .ok (.getfield 85, 3) := by decide +kernel
theorem dX8_allBetweenRedefine_40 : decode cX8_allBetweenRedefine 40 = .ok (.aload_n 1, 1) := by decide +kernel
theorem dX8_allBetweenRedefine_41 : decode cX8_allBetweenRedefine 41 = .ok (.getfield 85, 3) := by decide +kernel
theorem dX8_allBetweenRedefine_44 : decode cX8_allBetweenRedefine 44 = .ok (.if_acmp .ne 14, 3) := by decide +kernel
theorem dX8_allBetweenRedefine_47 : decode cX8_allBetweenRedefine 47 = .ok (.aload 4, 2) := by decide +kernel
theorem dX8_allBetweenRedefine_49 : decode cX8_allBetweenRedefine 49 = .ok (.getfield 88, 3) := by decide +kernel
theorem dX8_allBetweenRedefine_52 : decode cX8_allBetweenRedefine 52 = .ok (.aload_n 2, 1) := by decide +kernel
theorem dX8_allBetweenRedefine_53 : decode cX8_allBetweenRedefine 53 = .ok (.if_acmp .eq 5, 3) := by decide +kernel
theorem dX8_allBetweenRedefine_56 : decode cX8_allBetweenRedefine 56 = .ok (.iconst 0, 1) := by decide +kernel
theorem dX8_allBetweenRedefine_57 : decode cX8_allBetweenRedefine 57 = .ok (.ireturn, 1) := by decide +kernel
theorem dX8_allBetweenRedefine_58 : decode cX8_allBetweenRedefine 58 = .ok (.iinc 3 1, 3) := by decide +kernel
theorem dX8_allBetweenRedefine_61 : decode cX8_allBetweenRedefine 61 = .ok (.goto (-54), 3) := by decide +kernel
theorem dX8_allBetweenRedefine_64 : decode cX8_allBetweenRedefine 64 = .ok (.iconst 1, 1) := by decide +kernel
theorem dX8_allBetweenRedefine_65 : decode cX8_allBetweenRedefine 65 = .ok (.ireturn, 1) := by decide +kernel
def VX8_allBetweenRedefine_7 (g : jg) (a0 : Nat) (o1 : Option Nat) (o2 : Option Nat) (x3 : Int32) (h : jh) (k n : Nat) (Q : jq) : Prop := (¬ (o1) = none) ∧ (jt h (jd (o1)) = 1) ∧ (((ji h 0 (jd (o1))) ≤ (x3) → Q (.inl (some (.inl (1)))) h) ∧ (¬ (ji h 0 (jd (o1))) ≤ (x3) → (jt h a0 = 7) ∧ (¬ (jr h 384 a0) = none) ∧ (jt h (jd (jr h 384 a0)) = 23) ∧ (vp_in (x3) (jn h (jd (jr h 384 a0)))) ∧ (¬ (jR h (jd (jr h 384 a0)) (x3 : Int32).toNatClampNeg) = none) ∧ (jt h (jd (jR h (jd (jr h 384 a0)) (x3 : Int32).toNatClampNeg)) = 1) ∧ ((¬ (ji h 1 (jd (jR h (jd (jr h 384 a0)) (x3 : Int32).toNatClampNeg))) = (ji h 1 (jd (o1))) → jG g mX8_allBetweenRedefine 7 [(0, .inr (.inr (some (a0)))), (1, .inr (.inr (o1))), (2, .inr (.inr (o2))), (3, .inl ((x3) + 1))] [] h k n Q) ∧ ((ji h 1 (jd (jR h (jd (jr h 384 a0)) (x3 : Int32).toNatClampNeg))) = (ji h 1 (jd (o1))) → ((¬ (jr h 5 (jd (jR h (jd (jr h 384 a0)) (x3 : Int32).toNatClampNeg))) = (jr h 5 (jd (o1))) → jG g mX8_allBetweenRedefine 7 [(0, .inr (.inr (some (a0)))), (1, .inr (.inr (o1))), (2, .inr (.inr (o2))), (3, .inl ((x3) + 1))] [] h k n Q) ∧ ((jr h 5 (jd (jR h (jd (jr h 384 a0)) (x3 : Int32).toNatClampNeg))) = (jr h 5 (jd (o1))) → (((jr h 17 (jd (jR h (jd (jr h 384 a0)) (x3 : Int32).toNatClampNeg))) = (o2) → jG g mX8_allBetweenRedefine 7 [(0, .inr (.inr (some (a0)))), (1, .inr (.inr (o1))), (2, .inr (.inr (o2))), (3, .inl ((x3) + 1))] [] h k n Q) ∧ (¬ (jr h 17 (jd (jR h (jd (jr h 384 a0)) (x3 : Int32).toNatClampNeg))) = (o2) → Q (.inl (some (.inl (0)))) h))))))))
set_option maxRecDepth 20000 in
theorem vX8_allBetweenRedefine_7 {g : jg} {a0 : Nat} {o1 : Option Nat} {o2 : Option Nat} {x3 : Int32} {h : jh} {k n : Nat} {Q : jq} (hv : VX8_allBetweenRedefine_7 g a0 o1 o2 x3 h k n Q) : jG g mX8_allBetweenRedefine 7 [(0, .inr (.inr (some (a0)))), (1, .inr (.inr (o1))), (2, .inr (.inr (o2))), (3, .inl (x3))] [] h k n Q := by
  unfold VX8_allBetweenRedefine_7 at hv
  refine jg_iload_n dX8_allBetweenRedefine_7 rfl (List.Mem.tail _ (List.Mem.tail _ (List.Mem.tail _ (List.Mem.head _)))) ?_
  refine jg_aload_n dX8_allBetweenRedefine_8 rfl (List.Mem.tail _ (List.Mem.head _)) ?_
  obtain ⟨f1, hv⟩ := hv
  obtain ⟨f2, hv⟩ := hv
  refine jg_geti dX8_allBetweenRedefine_9 fl_RX8_73 rfl f1 f2 ?_
  refine jg_icmp_ge (tgt := 64) dX8_allBetweenRedefine_12 (by decide) (fun c3 => ?_) (fun c3 => ?_)
  · replace hv := hv.1 c3
    refine jg_iconst (v := 1) dX8_allBetweenRedefine_64 (by decide) ?_
    exact jg_bret dX8_allBetweenRedefine_65 rfl (by decide) hv
  · replace hv := hv.2 c3
    refine jg_aload_n dX8_allBetweenRedefine_15 rfl (List.Mem.head _) ?_
    obtain ⟨f4, hv⟩ := hv
    refine jg_getr dX8_allBetweenRedefine_16 fl_RX8_11 rfl jsn f4 ?_
    refine jg_iload_n dX8_allBetweenRedefine_19 rfl (List.Mem.tail _ (List.Mem.tail _ (List.Mem.tail _ (List.Mem.head _)))) ?_
    obtain ⟨f5, hv⟩ := hv
    obtain ⟨f6, hv⟩ := hv
    obtain ⟨f7, hv⟩ := hv
    refine jg_aald dX8_allBetweenRedefine_20 f5 f6 f7 ?_
    refine jg_astore (lv' := [(4, .inr (.inr (jR h (jd (jr h 384 a0)) (x3 : Int32).toNatClampNeg))), (0, .inr (.inr (some (a0)))), (1, .inr (.inr (o1))), (2, .inr (.inr (o2))), (3, .inl (x3))]) dX8_allBetweenRedefine_21 (by decide) rfl ?_
    refine jg_aload dX8_allBetweenRedefine_23 (List.Mem.head _) ?_
    obtain ⟨f8, hv⟩ := hv
    obtain ⟨f9, hv⟩ := hv
    refine jg_geti dX8_allBetweenRedefine_25 fl_RX8_55 rfl f8 f9 ?_
    refine jg_aload_n dX8_allBetweenRedefine_28 rfl (List.Mem.tail _ (List.Mem.tail _ (List.Mem.head _))) ?_
    refine jg_geti dX8_allBetweenRedefine_29 fl_RX8_55 rfl f1 f2 ?_
    refine jg_icmp_ne (tgt := 58) dX8_allBetweenRedefine_32 (by decide) (fun c10 => ?_) (fun c10 => ?_)
    · replace hv := hv.1 c10
      refine jg_iinc (v := (x3) + 1) (lv' := [(3, .inl ((x3) + 1)), (4, .inr (.inr (jR h (jd (jr h 384 a0)) (x3 : Int32).toNatClampNeg))), (0, .inr (.inr (some (a0)))), (1, .inr (.inr (o1))), (2, .inr (.inr (o2)))]) dX8_allBetweenRedefine_58 (List.Mem.tail _ (List.Mem.tail _ (List.Mem.tail _ (List.Mem.tail _ (List.Mem.head _))))) rfl (by decide) rfl ?_
      refine jg_goto (tgt := 7) dX8_allBetweenRedefine_61 (by decide) ?_
      refine jG.sub (lv' := [(0, .inr (.inr (some (a0)))), (1, .inr (.inr (o1))), (2, .inr (.inr (o2))), (3, .inl ((x3) + 1))]) (by simp) ?_
      exact hv
    · replace hv := hv.2 c10
      refine jg_aload dX8_allBetweenRedefine_35 (List.Mem.head _) ?_
      refine jg_getr dX8_allBetweenRedefine_37 fl_RX8_85 rfl f8 f9 ?_
      refine jg_aload_n dX8_allBetweenRedefine_40 rfl (List.Mem.tail _ (List.Mem.tail _ (List.Mem.head _))) ?_
      refine jg_getr dX8_allBetweenRedefine_41 fl_RX8_85 rfl f1 f2 ?_
      refine jg_acmp_ne (tgt := 58) dX8_allBetweenRedefine_44 (by decide) (fun c11 => ?_) (fun c11 => ?_)
      · replace hv := hv.1 c11
        refine jg_iinc (v := (x3) + 1) (lv' := [(3, .inl ((x3) + 1)), (4, .inr (.inr (jR h (jd (jr h 384 a0)) (x3 : Int32).toNatClampNeg))), (0, .inr (.inr (some (a0)))), (1, .inr (.inr (o1))), (2, .inr (.inr (o2)))]) dX8_allBetweenRedefine_58 (List.Mem.tail _ (List.Mem.tail _ (List.Mem.tail _ (List.Mem.tail _ (List.Mem.head _))))) rfl (by decide) rfl ?_
        refine jg_goto (tgt := 7) dX8_allBetweenRedefine_61 (by decide) ?_
        refine jG.sub (lv' := [(0, .inr (.inr (some (a0)))), (1, .inr (.inr (o1))), (2, .inr (.inr (o2))), (3, .inl ((x3) + 1))]) (by simp) ?_
        exact hv
      · replace hv := hv.2 c11
        refine jg_aload dX8_allBetweenRedefine_47 (List.Mem.head _) ?_
        refine jg_getr dX8_allBetweenRedefine_49 fl_RX8_88 rfl f8 f9 ?_
        refine jg_aload_n dX8_allBetweenRedefine_52 rfl (List.Mem.tail _ (List.Mem.tail _ (List.Mem.tail _ (List.Mem.head _)))) ?_
        refine jg_acmp_eq (tgt := 58) dX8_allBetweenRedefine_53 (by decide) (fun c12 => ?_) (fun c12 => ?_)
        · replace hv := hv.1 c12
          refine jg_iinc (v := (x3) + 1) (lv' := [(3, .inl ((x3) + 1)), (4, .inr (.inr (jR h (jd (jr h 384 a0)) (x3 : Int32).toNatClampNeg))), (0, .inr (.inr (some (a0)))), (1, .inr (.inr (o1))), (2, .inr (.inr (o2)))]) dX8_allBetweenRedefine_58 (List.Mem.tail _ (List.Mem.tail _ (List.Mem.tail _ (List.Mem.tail _ (List.Mem.head _))))) rfl (by decide) rfl ?_
          refine jg_goto (tgt := 7) dX8_allBetweenRedefine_61 (by decide) ?_
          refine jG.sub (lv' := [(0, .inr (.inr (some (a0)))), (1, .inr (.inr (o1))), (2, .inr (.inr (o2))), (3, .inl ((x3) + 1))]) (by simp) ?_
          exact hv
        · replace hv := hv.2 c12
          refine jg_iconst (v := 0) dX8_allBetweenRedefine_56 (by decide) ?_
          exact jg_bret dX8_allBetweenRedefine_57 rfl (by decide) hv
def VX8_allBetweenRedefine_0 (g : jg) (a0 : Nat) (o1 : Option Nat) (o2 : Option Nat) (h : jh) (k n : Nat) (Q : jq) : Prop := (¬ (o2) = none) ∧ (jt h (jd (o2)) = 1) ∧ jG g mX8_allBetweenRedefine 7 [(0, .inr (.inr (some (a0)))), (1, .inr (.inr (o1))), (2, .inr (.inr (o2))), (3, .inl ((ji h 0 (jd (o2))) + (1)))] [] h k n Q
set_option maxRecDepth 20000 in
theorem vX8_allBetweenRedefine_0 {g : jg} {a0 : Nat} {o1 : Option Nat} {o2 : Option Nat} {h : jh} {k n : Nat} {Q : jq} (hv : VX8_allBetweenRedefine_0 g a0 o1 o2 h k n Q) : jG g mX8_allBetweenRedefine 0 [(0, .inr (.inr (some (a0)))), (1, .inr (.inr (o1))), (2, .inr (.inr (o2)))] [] h k n Q := by
  unfold VX8_allBetweenRedefine_0 at hv
  refine jg_aload_n dX8_allBetweenRedefine_0 rfl (List.Mem.tail _ (List.Mem.tail _ (List.Mem.head _))) ?_
  obtain ⟨f13, hv⟩ := hv
  obtain ⟨f14, hv⟩ := hv
  refine jg_geti dX8_allBetweenRedefine_1 fl_RX8_73 rfl f13 f14 ?_
  refine jg_iconst (v := 1) dX8_allBetweenRedefine_4 (by decide) ?_
  refine jg_iadd dX8_allBetweenRedefine_5 ?_
  refine jg_istore_n (lv' := [(3, .inl ((ji h 0 (jd (o2))) + (1))), (0, .inr (.inr (some (a0)))), (1, .inr (.inr (o1))), (2, .inr (.inr (o2)))]) dX8_allBetweenRedefine_6 rfl (by decide) rfl ?_
  refine jG.sub (lv' := [(0, .inr (.inr (some (a0)))), (1, .inr (.inr (o1))), (2, .inr (.inr (o2))), (3, .inl ((ji h 0 (jd (o2))) + (1)))]) (by simp) ?_
  exact hv
theorem eX8_allBetweenRedefine {g : jg} {a0 : Nat} {o1 : Option Nat} {o2 : Option Nat} {h : jh} {mc ms : Nat} {Q : jq} (hv : VX8_allBetweenRedefine_0 g a0 o1 o2 h mc ms Q) : jM g mX8_allBetweenRedefine [.inr (.inr (some (a0))), .inr (.inr (o1)), .inr (.inr (o2))] h mc ms Q := jM.of (by decide) (Nat.le_of_ble_eq_true rfl) (lv := [(0, .inr (.inr (some (a0)))), (1, .inr (.inr (o1))), (2, .inr (.inr (o2)))]) rfl (vX8_allBetweenRedefine_0 hv)
theorem dX8_hasValues_0 : decode cX8_hasValues 0 = .ok (.aload_n 1, 1) := by decide +kernel
theorem dX8_hasValues_1 : decode cX8_hasValues 1 = .ok (.getfield 73, 3) := by decide +kernel
theorem dX8_hasValues_4 : decode cX8_hasValues 4 = .ok (.istore_n 2, 1) := by decide +kernel
theorem dX8_hasValues_5 : decode cX8_hasValues 5 = .ok (.iload_n 2, 1) := by decide +kernel
theorem dX8_hasValues_6 : decode cX8_hasValues 6 = .ok (.aload_n 0, 1) := by decide +kernel
theorem dX8_hasValues_7 : decode cX8_hasValues 7 = .ok (.getfield 17, 3) := by decide +kernel
theorem dX8_hasValues_10 : decode cX8_hasValues 10 = .ok (.if_icmp .gt 38, 3) := by decide +kernel
theorem dX8_hasValues_13 : decode cX8_hasValues 13 = .ok (.aload_n 0, 1) := by decide +kernel
theorem dX8_hasValues_14 : decode cX8_hasValues 14 = .ok (.getfield 11, 3) := by decide +kernel
theorem dX8_hasValues_17 : decode cX8_hasValues 17 = .ok (.iload_n 2, 1) := by decide +kernel
theorem dX8_hasValues_18 : decode cX8_hasValues 18 = .ok (.aaload, 1) := by decide +kernel
theorem dX8_hasValues_19 : decode cX8_hasValues 19 = .ok (.astore_n 3, 1) := by decide +kernel
theorem dX8_hasValues_20 : decode cX8_hasValues 20 = .ok (.aload_n 3, 1) := by decide +kernel
theorem dX8_hasValues_21 : decode cX8_hasValues 21 = .ok (.getfield 101, 3) := by decide +kernel
theorem dX8_hasValues_24 : decode cX8_hasValues 24 = .ok (.ifCond .eq 18, 3) := by decide +kernel
theorem dX8_hasValues_27 : decode cX8_hasValues 27 = .ok (.aload_n 3, 1) := by decide +kernel
theorem dX8_hasValues_28 : decode cX8_hasValues 28 = .ok (.aload_n 1, 1) := by decide +kernel
theorem dX8_hasValues_29 : decode cX8_hasValues 29 = .ok (.if_acmp .eq 11, 3) := by decide +kernel
theorem dX8_hasValues_32 : decode cX8_hasValues 32 = .ok (.aload_n 3, 1) := by decide +kernel
theorem dX8_hasValues_33 : decode cX8_hasValues 33 = .ok (.aload_n 1, 1) := by decide +kernel
theorem dX8_hasValues_34 : decode cX8_hasValues 34 = .ok (.invokevirtual 76, 3) := by decide +kernel
theorem dX8_hasValues_37 : decode cX8_hasValues 37 = .ok (.ifCond .eq 5, 3) := by decide +kernel
theorem dX8_hasValues_40 : decode cX8_hasValues 40 = .ok (.iconst 1, 1) := by decide +kernel
theorem dX8_hasValues_41 : decode cX8_hasValues 41 = .ok (.ireturn, 1) := by decide +kernel
theorem dX8_hasValues_42 : decode cX8_hasValues 42 = .ok (.iinc 2 1, 3) := by decide +kernel
theorem dX8_hasValues_45 : decode cX8_hasValues 45 = .ok (.goto (-40), 3) := by decide +kernel
theorem dX8_hasValues_48 : decode cX8_hasValues 48 = .ok (.iconst 0, 1) := by decide +kernel
theorem dX8_hasValues_49 : decode cX8_hasValues 49 = .ok (.ireturn, 1) := by decide +kernel
def VX8_hasValues_5 (g : jg) (a0 : Nat) (o1 : Option Nat) (x2 : Int32) (h : jh) (k n : Nat) (Q : jq) : Prop := (jt h a0 = 7) ∧ (((ji h 385 a0) < (x2) → Q (.inl (some (.inl (0)))) h) ∧ (¬ (ji h 385 a0) < (x2) → (¬ (jr h 384 a0) = none) ∧ (jt h (jd (jr h 384 a0)) = 23) ∧ (vp_in (x2) (jn h (jd (jr h 384 a0)))) ∧ (¬ (jR h (jd (jr h 384 a0)) (x2 : Int32).toNatClampNeg) = none) ∧ (jt h (jd (jR h (jd (jr h 384 a0)) (x2 : Int32).toNatClampNeg)) = 1) ∧ (((ji h 12 (jd (jR h (jd (jr h 384 a0)) (x2 : Int32).toNatClampNeg))) = 0 → jG g mX8_hasValues 5 [(0, .inr (.inr (some (a0)))), (1, .inr (.inr (o1))), (2, .inl ((x2) + 1))] [] h k n Q) ∧ (¬ (ji h 12 (jd (jR h (jd (jr h 384 a0)) (x2 : Int32).toNatClampNeg))) = 0 → (((jR h (jd (jr h 384 a0)) (x2 : Int32).toNatClampNeg) = (o1) → Q (.inl (some (.inl (1)))) h) ∧ (¬ (jR h (jd (jr h 384 a0)) (x2 : Int32).toNatClampNeg) = (o1) → jM g mX0_isBelow [.inr (.inr (some (jd (jR h (jd (jr h 384 a0)) (x2 : Int32).toNatClampNeg)))), .inr (.inr (o1))] h 0 0 (jki (fun (r10 : Int32) (h11 : jh) => (((r10) = 0 → jG g mX8_hasValues 5 [(0, .inr (.inr (some (a0)))), (1, .inr (.inr (o1))), (2, .inl ((x2) + 1))] [] h11 k n Q) ∧ (¬ (r10) = 0 → Q (.inl (some (.inl (1)))) h11))) (fun e h9 => Q (.inr e) h9))))))))
set_option maxRecDepth 20000 in
theorem vX8_hasValues_5 {g : jg} {a0 : Nat} {o1 : Option Nat} {x2 : Int32} {h : jh} {k n : Nat} {Q : jq} (hv : VX8_hasValues_5 g a0 o1 x2 h k n Q) : jG g mX8_hasValues 5 [(0, .inr (.inr (some (a0)))), (1, .inr (.inr (o1))), (2, .inl (x2))] [] h k n Q := by
  unfold VX8_hasValues_5 at hv
  refine jg_iload_n dX8_hasValues_5 rfl (List.Mem.tail _ (List.Mem.tail _ (List.Mem.head _))) ?_
  refine jg_aload_n dX8_hasValues_6 rfl (List.Mem.head _) ?_
  obtain ⟨f1, hv⟩ := hv
  refine jg_geti dX8_hasValues_7 fl_RX8_17 rfl jsn f1 ?_
  refine jg_icmp_gt (tgt := 48) dX8_hasValues_10 (by decide) (fun c2 => ?_) (fun c2 => ?_)
  · replace hv := hv.1 c2
    refine jg_iconst (v := 0) dX8_hasValues_48 (by decide) ?_
    exact jg_bret dX8_hasValues_49 rfl (by decide) hv
  · replace hv := hv.2 c2
    refine jg_aload_n dX8_hasValues_13 rfl (List.Mem.head _) ?_
    refine jg_getr dX8_hasValues_14 fl_RX8_11 rfl jsn f1 ?_
    refine jg_iload_n dX8_hasValues_17 rfl (List.Mem.tail _ (List.Mem.tail _ (List.Mem.head _))) ?_
    obtain ⟨f3, hv⟩ := hv
    obtain ⟨f4, hv⟩ := hv
    obtain ⟨f5, hv⟩ := hv
    refine jg_aald dX8_hasValues_18 f3 f4 f5 ?_
    refine jg_astore_n (lv' := [(3, .inr (.inr (jR h (jd (jr h 384 a0)) (x2 : Int32).toNatClampNeg))), (0, .inr (.inr (some (a0)))), (1, .inr (.inr (o1))), (2, .inl (x2))]) dX8_hasValues_19 rfl (by decide) rfl ?_
    refine jg_aload_n dX8_hasValues_20 rfl (List.Mem.head _) ?_
    obtain ⟨f6, hv⟩ := hv
    obtain ⟨f7, hv⟩ := hv
    refine jg_geti dX8_hasValues_21 fl_RX8_101 rfl f6 f7 ?_
    refine jg_if_eq (tgt := 42) dX8_hasValues_24 (by decide) (fun c8 => ?_) (fun c8 => ?_)
    · replace hv := hv.1 c8
      refine jg_iinc (v := (x2) + 1) (lv' := [(2, .inl ((x2) + 1)), (3, .inr (.inr (jR h (jd (jr h 384 a0)) (x2 : Int32).toNatClampNeg))), (0, .inr (.inr (some (a0)))), (1, .inr (.inr (o1)))]) dX8_hasValues_42 (List.Mem.tail _ (List.Mem.tail _ (List.Mem.tail _ (List.Mem.head _)))) rfl (by decide) rfl ?_
      refine jg_goto (tgt := 5) dX8_hasValues_45 (by decide) ?_
      refine jG.sub (lv' := [(0, .inr (.inr (some (a0)))), (1, .inr (.inr (o1))), (2, .inl ((x2) + 1))]) (by simp) ?_
      exact hv
    · replace hv := hv.2 c8
      refine jg_aload_n dX8_hasValues_27 rfl (List.Mem.head _) ?_
      refine jg_aload_n dX8_hasValues_28 rfl (List.Mem.tail _ (List.Mem.tail _ (List.Mem.head _))) ?_
      refine jg_acmp_eq (tgt := 40) dX8_hasValues_29 (by decide) (fun c9 => ?_) (fun c9 => ?_)
      · replace hv := hv.1 c9
        refine jg_iconst (v := 1) dX8_hasValues_40 (by decide) ?_
        exact jg_bret dX8_hasValues_41 rfl (by decide) hv
      · replace hv := hv.2 c9
        refine jg_aload_n dX8_hasValues_32 rfl (List.Mem.head _) ?_
        refine jg_aload_n dX8_hasValues_33 rfl (List.Mem.tail _ (List.Mem.tail _ (List.Mem.head _))) ?_
        refine jp_callV mX0_isBelow [.inr (.inr (o1))] [] dX8_hasValues_34 rfl cl_RX8_76 ⟨⟨by decide, by decide⟩, by decide⟩ f6 f7 (Nat.zero_le _) (Nat.zero_le _) (jM.mono (jki_k (fun r10 h11 hv => ?_)) hv)
        refine jg_if_eq (tgt := 42) dX8_hasValues_37 (by decide) (fun c12 => ?_) (fun c12 => ?_)
        · replace hv := hv.1 c12
          refine jg_iinc (v := (x2) + 1) (lv' := [(2, .inl ((x2) + 1)), (3, .inr (.inr (jR h (jd (jr h 384 a0)) (x2 : Int32).toNatClampNeg))), (0, .inr (.inr (some (a0)))), (1, .inr (.inr (o1)))]) dX8_hasValues_42 (List.Mem.tail _ (List.Mem.tail _ (List.Mem.tail _ (List.Mem.head _)))) rfl (by decide) rfl ?_
          refine jg_goto (tgt := 5) dX8_hasValues_45 (by decide) ?_
          refine jG.sub (lv' := [(0, .inr (.inr (some (a0)))), (1, .inr (.inr (o1))), (2, .inl ((x2) + 1))]) (by simp) ?_
          exact hv
        · replace hv := hv.2 c12
          refine jg_iconst (v := 1) dX8_hasValues_40 (by decide) ?_
          exact jg_bret dX8_hasValues_41 rfl (by decide) hv
def VX8_hasValues_0 (g : jg) (a0 : Nat) (o1 : Option Nat) (h : jh) (k n : Nat) (Q : jq) : Prop := (¬ (o1) = none) ∧ (jt h (jd (o1)) = 1) ∧ jG g mX8_hasValues 5 [(0, .inr (.inr (some (a0)))), (1, .inr (.inr (o1))), (2, .inl (ji h 0 (jd (o1))))] [] h k n Q
set_option maxRecDepth 20000 in
theorem vX8_hasValues_0 {g : jg} {a0 : Nat} {o1 : Option Nat} {h : jh} {k n : Nat} {Q : jq} (hv : VX8_hasValues_0 g a0 o1 h k n Q) : jG g mX8_hasValues 0 [(0, .inr (.inr (some (a0)))), (1, .inr (.inr (o1)))] [] h k n Q := by
  unfold VX8_hasValues_0 at hv
  refine jg_aload_n dX8_hasValues_0 rfl (List.Mem.tail _ (List.Mem.head _)) ?_
  obtain ⟨f13, hv⟩ := hv
  obtain ⟨f14, hv⟩ := hv
  refine jg_geti dX8_hasValues_1 fl_RX8_73 rfl f13 f14 ?_
  refine jg_istore_n (lv' := [(2, .inl (ji h 0 (jd (o1)))), (0, .inr (.inr (some (a0)))), (1, .inr (.inr (o1)))]) dX8_hasValues_4 rfl (by decide) rfl ?_
  refine jG.sub (lv' := [(0, .inr (.inr (some (a0)))), (1, .inr (.inr (o1))), (2, .inl (ji h 0 (jd (o1))))]) (by simp) ?_
  exact hv
theorem eX8_hasValues {g : jg} {a0 : Nat} {o1 : Option Nat} {h : jh} {mc ms : Nat} {Q : jq} (hv : VX8_hasValues_0 g a0 o1 h mc ms Q) : jM g mX8_hasValues [.inr (.inr (some (a0))), .inr (.inr (o1))] h mc ms Q := jM.of (by decide) (Nat.le_of_ble_eq_true rfl) (lv := [(0, .inr (.inr (some (a0)))), (1, .inr (.inr (o1)))]) rfl (vX8_hasValues_0 hv)
theorem dX8_firstOfName_0 : decode cX8_firstOfName 0 = .ok (.iconst 1, 1) := by decide +kernel
theorem dX8_firstOfName_1 : decode cX8_firstOfName 1 = .ok (.istore_n 2, 1) := by decide +kernel
theorem dX8_firstOfName_2 : decode cX8_firstOfName 2 = .ok (.iload_n 2, 1) := by decide +kernel
theorem dX8_firstOfName_3 : decode cX8_firstOfName 3 = .ok (.aload_n 0, 1) := by decide +kernel
theorem dX8_firstOfName_4 : decode cX8_firstOfName 4 = .ok (.getfield 17, 3) := by decide +kernel
theorem dX8_firstOfName_7 : decode cX8_firstOfName 7 = .ok (.if_icmp .gt 29, 3) := by decide +kernel
theorem dX8_firstOfName_10 : decode cX8_firstOfName 10 = .ok (.aload_n 0, 1) := by decide +kernel
theorem dX8_firstOfName_11 : decode cX8_firstOfName 11 = .ok (.getfield 11, 3) := by decide +kernel
theorem dX8_firstOfName_14 : decode cX8_firstOfName 14 = .ok (.iload_n 2, 1) := by decide +kernel
theorem dX8_firstOfName_15 : decode cX8_firstOfName 15 = .ok (.aaload, 1) := by decide +kernel
theorem dX8_firstOfName_16 : decode cX8_firstOfName 16 = .ok (.getfield 91, 3) := by decide +kernel
theorem dX8_firstOfName_19 : decode cX8_firstOfName 19 = .ok (.iload_n 1, 1) := by decide +kernel
theorem dX8_firstOfName_20 : decode cX8_firstOfName 20 = .ok (.if_icmp .ne 10, 3) := by decide +kernel
theorem dX8_firstOfName_23 : decode cX8_firstOfName 23 = .ok (.aload_n 0, 1) := by decide +kernel
theorem dX8_firstOfName_24 : decode cX8_firstOfName 24 = .ok (.getfield 11, 3) := by decide +kernel
theorem dX8_firstOfName_27 : decode cX8_firstOfName 27 = .ok (.iload_n 2, 1) := by decide +kernel
theorem dX8_firstOfName_28 : decode cX8_firstOfName 28 = .ok (.aaload, 1) := by decide +kernel
theorem dX8_firstOfName_29 : decode cX8_firstOfName 29 = .ok (.areturn, 1) := by decide +kernel
theorem dX8_firstOfName_30 : decode cX8_firstOfName 30 = .ok (.iinc 2 1, 3) := by decide +kernel
theorem dX8_firstOfName_33 : decode cX8_firstOfName 33 = .ok (.goto (-31), 3) := by decide +kernel
theorem dX8_firstOfName_36 : decode cX8_firstOfName 36 = .ok (.aconst_null, 1) := by decide +kernel
theorem dX8_firstOfName_37 : decode cX8_firstOfName 37 = .ok (.areturn, 1) := by decide +kernel
def VX8_firstOfName_2 (g : jg) (a0 : Nat) (x1 : Int32) (x2 : Int32) (h : jh) (k n : Nat) (Q : jq) : Prop := (jt h a0 = 7) ∧ (((ji h 385 a0) < (x2) → Q (.inl (some (.inr (.inr (none))))) h) ∧ (¬ (ji h 385 a0) < (x2) → (¬ (jr h 384 a0) = none) ∧ (jt h (jd (jr h 384 a0)) = 23) ∧ (vp_in (x2) (jn h (jd (jr h 384 a0)))) ∧ (¬ (jR h (jd (jr h 384 a0)) (x2 : Int32).toNatClampNeg) = none) ∧ (jt h (jd (jR h (jd (jr h 384 a0)) (x2 : Int32).toNatClampNeg)) = 1) ∧ ((¬ (ji h 19 (jd (jR h (jd (jr h 384 a0)) (x2 : Int32).toNatClampNeg))) = (x1) → jG g mX8_firstOfName 2 [(0, .inr (.inr (some (a0)))), (1, .inl (x1)), (2, .inl ((x2) + 1))] [] h k n Q) ∧ ((ji h 19 (jd (jR h (jd (jr h 384 a0)) (x2 : Int32).toNatClampNeg))) = (x1) → Q (.inl (some (.inr (.inr (jR h (jd (jr h 384 a0)) (x2 : Int32).toNatClampNeg))))) h))))
set_option maxRecDepth 20000 in
theorem vX8_firstOfName_2 {g : jg} {a0 : Nat} {x1 : Int32} {x2 : Int32} {h : jh} {k n : Nat} {Q : jq} (hv : VX8_firstOfName_2 g a0 x1 x2 h k n Q) : jG g mX8_firstOfName 2 [(0, .inr (.inr (some (a0)))), (1, .inl (x1)), (2, .inl (x2))] [] h k n Q := by
  unfold VX8_firstOfName_2 at hv
  refine jg_iload_n dX8_firstOfName_2 rfl (List.Mem.tail _ (List.Mem.tail _ (List.Mem.head _))) ?_
  refine jg_aload_n dX8_firstOfName_3 rfl (List.Mem.head _) ?_
  obtain ⟨f1, hv⟩ := hv
  refine jg_geti dX8_firstOfName_4 fl_RX8_17 rfl jsn f1 ?_
  refine jg_icmp_gt (tgt := 36) dX8_firstOfName_7 (by decide) (fun c2 => ?_) (fun c2 => ?_)
  · replace hv := hv.1 c2
    refine jg_null dX8_firstOfName_36 ?_
    exact jg_aret dX8_firstOfName_37 rfl hv
  · replace hv := hv.2 c2
    refine jg_aload_n dX8_firstOfName_10 rfl (List.Mem.head _) ?_
    refine jg_getr dX8_firstOfName_11 fl_RX8_11 rfl jsn f1 ?_
    refine jg_iload_n dX8_firstOfName_14 rfl (List.Mem.tail _ (List.Mem.tail _ (List.Mem.head _))) ?_
    obtain ⟨f3, hv⟩ := hv
    obtain ⟨f4, hv⟩ := hv
    obtain ⟨f5, hv⟩ := hv
    refine jg_aald dX8_firstOfName_15 f3 f4 f5 ?_
    obtain ⟨f6, hv⟩ := hv
    obtain ⟨f7, hv⟩ := hv
    refine jg_geti dX8_firstOfName_16 fl_RX8_91 rfl f6 f7 ?_
    refine jg_iload_n dX8_firstOfName_19 rfl (List.Mem.tail _ (List.Mem.head _)) ?_
    refine jg_icmp_ne (tgt := 30) dX8_firstOfName_20 (by decide) (fun c8 => ?_) (fun c8 => ?_)
    · replace hv := hv.1 c8
      refine jg_iinc (v := (x2) + 1) (lv' := [(2, .inl ((x2) + 1)), (0, .inr (.inr (some (a0)))), (1, .inl (x1))]) dX8_firstOfName_30 (List.Mem.tail _ (List.Mem.tail _ (List.Mem.head _))) rfl (by decide) rfl ?_
      refine jg_goto (tgt := 2) dX8_firstOfName_33 (by decide) ?_
      refine jG.sub (lv' := [(0, .inr (.inr (some (a0)))), (1, .inl (x1)), (2, .inl ((x2) + 1))]) (by simp) ?_
      exact hv
    · replace hv := hv.2 c8
      refine jg_aload_n dX8_firstOfName_23 rfl (List.Mem.head _) ?_
      refine jg_getr dX8_firstOfName_24 fl_RX8_11 rfl jsn f1 ?_
      refine jg_iload_n dX8_firstOfName_27 rfl (List.Mem.tail _ (List.Mem.tail _ (List.Mem.head _))) ?_
      refine jg_aald dX8_firstOfName_28 f3 f4 f5 ?_
      exact jg_aret dX8_firstOfName_29 rfl hv
def VX8_firstOfName_0 (g : jg) (a0 : Nat) (x1 : Int32) (h : jh) (k n : Nat) (Q : jq) : Prop := jG g mX8_firstOfName 2 [(0, .inr (.inr (some (a0)))), (1, .inl (x1)), (2, .inl (1))] [] h k n Q
set_option maxRecDepth 20000 in
theorem vX8_firstOfName_0 {g : jg} {a0 : Nat} {x1 : Int32} {h : jh} {k n : Nat} {Q : jq} (hv : VX8_firstOfName_0 g a0 x1 h k n Q) : jG g mX8_firstOfName 0 [(0, .inr (.inr (some (a0)))), (1, .inl (x1))] [] h k n Q := by
  unfold VX8_firstOfName_0 at hv
  refine jg_iconst (v := 1) dX8_firstOfName_0 (by decide) ?_
  refine jg_istore_n (lv' := [(2, .inl (1)), (0, .inr (.inr (some (a0)))), (1, .inl (x1))]) dX8_firstOfName_1 rfl (by decide) rfl ?_
  refine jG.sub (lv' := [(0, .inr (.inr (some (a0)))), (1, .inl (x1)), (2, .inl (1))]) (by simp) ?_
  exact hv
theorem eX8_firstOfName {g : jg} {a0 : Nat} {x1 : Int32} {h : jh} {mc ms : Nat} {Q : jq} (hv : VX8_firstOfName_0 g a0 x1 h mc ms Q) : jM g mX8_firstOfName [.inr (.inr (some (a0))), .inl (x1)] h mc ms Q := jM.of (by decide) (Nat.le_of_ble_eq_true rfl) (lv := [(0, .inr (.inr (some (a0)))), (1, .inl (x1))]) rfl (vX8_firstOfName_0 hv)
theorem dX8_records_0 : decode cX8_records 0 = .ok (.iconst 0, 1) := by decide +kernel
theorem dX8_records_1 : decode cX8_records 1 = .ok (.istore_n 1, 1) := by decide +kernel
theorem dX8_records_2 : decode cX8_records 2 = .ok (.iconst 1, 1) := by decide +kernel
theorem dX8_records_3 : decode cX8_records 3 = .ok (.istore_n 2, 1) := by decide +kernel
theorem dX8_records_4 : decode cX8_records 4 = .ok (.iload_n 2, 1) := by decide +kernel
theorem dX8_records_5 : decode cX8_records 5 = .ok (.aload_n 0, 1) := by decide +kernel
theorem dX8_records_6 : decode cX8_records 6 = .ok (.getfield 17, 3) := by decide +kernel
theorem dX8_records_9 : decode cX8_records 9 = .ok (.if_icmp .gt 30, 3) := by decide +kernel
theorem dX8_records_12 : decode cX8_records 12 = .ok (.aload_n 0, 1) := by decide +kernel
theorem dX8_records_13 : decode cX8_records 13 = .ok (.getfield 11, 3) := by decide +kernel
theorem dX8_records_16 : decode cX8_records 16 = .ok (.iload_n 2, 1) := by decide +kernel
theorem dX8_records_17 : decode cX8_records 17 = .ok (.aaload, 1) := by decide +kernel
theorem dX8_records_18 : decode cX8_records 18 = .ok (.getfield 31, 3) := by decide +kernel
theorem dX8_records_21 : decode cX8_records 21 = .ok (.aload_n 0, 1) := by decide +kernel
theorem dX8_records_22 : decode cX8_records 22 = .ok (.getfield 11, 3) := by decide +kernel
theorem dX8_records_25 : decode cX8_records 25 = .ok (.iload_n 2, 1) := by decide +kernel
theorem dX8_records_26 : decode cX8_records 26 = .ok (.aaload, 1) := by decide +kernel
theorem dX8_records_27 : decode cX8_records 27 = .ok (.if_acmp .ne 6, 3) := by decide +kernel
theorem dX8_records_30 : decode cX8_records 30 = .ok (.iinc 1 1, 3) := by decide +kernel
theorem dX8_records_33 : decode cX8_records 33 = .ok (.iinc 2 1, 3) := by decide +kernel
theorem dX8_records_36 : decode cX8_records 36 = .ok (.goto (-32), 3) := by decide +kernel
theorem dX8_records_39 : decode cX8_records 39 = .ok (.iload_n 1, 1) := by decide +kernel
theorem dX8_records_40 : decode cX8_records 40 = .ok (.ireturn, 1) := by decide +kernel
def VX8_records_4 (g : jg) (a0 : Nat) (x1 : Int32) (x2 : Int32) (h : jh) (k n : Nat) (Q : jq) : Prop := (jt h a0 = 7) ∧ (((ji h 385 a0) < (x2) → Q (.inl (some (.inl (x1)))) h) ∧ (¬ (ji h 385 a0) < (x2) → (¬ (jr h 384 a0) = none) ∧ (jt h (jd (jr h 384 a0)) = 23) ∧ (vp_in (x2) (jn h (jd (jr h 384 a0)))) ∧ (¬ (jR h (jd (jr h 384 a0)) (x2 : Int32).toNatClampNeg) = none) ∧ (jt h (jd (jR h (jd (jr h 384 a0)) (x2 : Int32).toNatClampNeg)) = 1) ∧ ((¬ (jr h 8 (jd (jR h (jd (jr h 384 a0)) (x2 : Int32).toNatClampNeg))) = (jR h (jd (jr h 384 a0)) (x2 : Int32).toNatClampNeg) → jG g mX8_records 4 [(0, .inr (.inr (some (a0)))), (1, .inl (x1)), (2, .inl ((x2) + 1))] [] h k n Q) ∧ ((jr h 8 (jd (jR h (jd (jr h 384 a0)) (x2 : Int32).toNatClampNeg))) = (jR h (jd (jr h 384 a0)) (x2 : Int32).toNatClampNeg) → jG g mX8_records 4 [(0, .inr (.inr (some (a0)))), (1, .inl ((x1) + 1)), (2, .inl ((x2) + 1))] [] h k n Q))))
set_option maxRecDepth 20000 in
theorem vX8_records_4 {g : jg} {a0 : Nat} {x1 : Int32} {x2 : Int32} {h : jh} {k n : Nat} {Q : jq} (hv : VX8_records_4 g a0 x1 x2 h k n Q) : jG g mX8_records 4 [(0, .inr (.inr (some (a0)))), (1, .inl (x1)), (2, .inl (x2))] [] h k n Q := by
  unfold VX8_records_4 at hv
  refine jg_iload_n dX8_records_4 rfl (List.Mem.tail _ (List.Mem.tail _ (List.Mem.head _))) ?_
  refine jg_aload_n dX8_records_5 rfl (List.Mem.head _) ?_
  obtain ⟨f1, hv⟩ := hv
  refine jg_geti dX8_records_6 fl_RX8_17 rfl jsn f1 ?_
  refine jg_icmp_gt (tgt := 39) dX8_records_9 (by decide) (fun c2 => ?_) (fun c2 => ?_)
  · replace hv := hv.1 c2
    refine jg_iload_n dX8_records_39 rfl (List.Mem.tail _ (List.Mem.head _)) ?_
    exact jg_iret dX8_records_40 rfl hv
  · replace hv := hv.2 c2
    refine jg_aload_n dX8_records_12 rfl (List.Mem.head _) ?_
    refine jg_getr dX8_records_13 fl_RX8_11 rfl jsn f1 ?_
    refine jg_iload_n dX8_records_16 rfl (List.Mem.tail _ (List.Mem.tail _ (List.Mem.head _))) ?_
    obtain ⟨f3, hv⟩ := hv
    obtain ⟨f4, hv⟩ := hv
    obtain ⟨f5, hv⟩ := hv
    refine jg_aald dX8_records_17 f3 f4 f5 ?_
    obtain ⟨f6, hv⟩ := hv
    obtain ⟨f7, hv⟩ := hv
    refine jg_getr dX8_records_18 fl_RX8_31 rfl f6 f7 ?_
    refine jg_aload_n dX8_records_21 rfl (List.Mem.head _) ?_
    refine jg_getr dX8_records_22 fl_RX8_11 rfl jsn f1 ?_
    refine jg_iload_n dX8_records_25 rfl (List.Mem.tail _ (List.Mem.tail _ (List.Mem.head _))) ?_
    refine jg_aald dX8_records_26 f3 f4 f5 ?_
    refine jg_acmp_ne (tgt := 33) dX8_records_27 (by decide) (fun c8 => ?_) (fun c8 => ?_)
    · replace hv := hv.1 c8
      refine jg_iinc (v := (x2) + 1) (lv' := [(2, .inl ((x2) + 1)), (0, .inr (.inr (some (a0)))), (1, .inl (x1))]) dX8_records_33 (List.Mem.tail _ (List.Mem.tail _ (List.Mem.head _))) rfl (by decide) rfl ?_
      refine jg_goto (tgt := 4) dX8_records_36 (by decide) ?_
      refine jG.sub (lv' := [(0, .inr (.inr (some (a0)))), (1, .inl (x1)), (2, .inl ((x2) + 1))]) (by simp) ?_
      exact hv
    · replace hv := hv.2 c8
      refine jg_iinc (v := (x1) + 1) (lv' := [(1, .inl ((x1) + 1)), (0, .inr (.inr (some (a0)))), (2, .inl (x2))]) dX8_records_30 (List.Mem.tail _ (List.Mem.head _)) rfl (by decide) rfl ?_
      refine jg_iinc (v := (x2) + 1) (lv' := [(2, .inl ((x2) + 1)), (1, .inl ((x1) + 1)), (0, .inr (.inr (some (a0))))]) dX8_records_33 (List.Mem.tail _ (List.Mem.tail _ (List.Mem.head _))) rfl (by decide) rfl ?_
      refine jg_goto (tgt := 4) dX8_records_36 (by decide) ?_
      refine jG.sub (lv' := [(0, .inr (.inr (some (a0)))), (1, .inl ((x1) + 1)), (2, .inl ((x2) + 1))]) (by simp) ?_
      exact hv
def VX8_records_0 (g : jg) (a0 : Nat) (h : jh) (k n : Nat) (Q : jq) : Prop := jG g mX8_records 4 [(0, .inr (.inr (some (a0)))), (1, .inl (0)), (2, .inl (1))] [] h k n Q
set_option maxRecDepth 20000 in
theorem vX8_records_0 {g : jg} {a0 : Nat} {h : jh} {k n : Nat} {Q : jq} (hv : VX8_records_0 g a0 h k n Q) : jG g mX8_records 0 [(0, .inr (.inr (some (a0))))] [] h k n Q := by
  unfold VX8_records_0 at hv
  refine jg_iconst (v := 0) dX8_records_0 (by decide) ?_
  refine jg_istore_n (lv' := [(1, .inl (0)), (0, .inr (.inr (some (a0))))]) dX8_records_1 rfl (by decide) rfl ?_
  refine jg_iconst (v := 1) dX8_records_2 (by decide) ?_
  refine jg_istore_n (lv' := [(2, .inl (1)), (1, .inl (0)), (0, .inr (.inr (some (a0))))]) dX8_records_3 rfl (by decide) rfl ?_
  refine jG.sub (lv' := [(0, .inr (.inr (some (a0)))), (1, .inl (0)), (2, .inl (1))]) (by simp) ?_
  exact hv
theorem eX8_records {g : jg} {a0 : Nat} {h : jh} {mc ms : Nat} {Q : jq} (hv : VX8_records_0 g a0 h mc ms Q) : jM g mX8_records [.inr (.inr (some (a0)))] h mc ms Q := jM.of (by decide) (Nat.le_of_ble_eq_true rfl) (lv := [(0, .inr (.inr (some (a0))))]) rfl (vX8_records_0 hv)
theorem dX8_tables_0 : decode cX8_tables 0 = .ok (.iconst 0, 1) := by decide +kernel
theorem dX8_tables_1 : decode cX8_tables 1 = .ok (.istore_n 1, 1) := by decide +kernel
theorem dX8_tables_2 : decode cX8_tables 2 = .ok (.iconst 1, 1) := by decide +kernel
theorem dX8_tables_3 : decode cX8_tables 3 = .ok (.istore_n 2, 1) := by decide +kernel
theorem dX8_tables_4 : decode cX8_tables 4 = .ok (.iload_n 2, 1) := by decide +kernel
theorem dX8_tables_5 : decode cX8_tables 5 = .ok (.aload_n 0, 1) := by decide +kernel
theorem dX8_tables_6 : decode cX8_tables 6 = .ok (.getfield 17, 3) := by decide +kernel
theorem dX8_tables_9 : decode cX8_tables 9 = .ok (.if_icmp .gt 24, 3) := by decide +kernel
theorem dX8_tables_12 : decode cX8_tables 12 = .ok (.aload_n 0, 1) := by decide +kernel
theorem dX8_tables_13 : decode cX8_tables 13 = .ok (.getfield 11, 3) := by decide +kernel
theorem dX8_tables_16 : decode cX8_tables 16 = .ok (.iload_n 2, 1) := by decide +kernel
theorem dX8_tables_17 : decode cX8_tables 17 = .ok (.aaload, 1) := by decide +kernel
theorem dX8_tables_18 : decode cX8_tables 18 = .ok (.getfield 61, 3) := by decide +kernel
theorem dX8_tables_21 : decode cX8_tables 21 = .ok (.ifnull 6, 3) := by decide +kernel
theorem dX8_tables_24 : decode cX8_tables 24 = .ok (.iinc 1 1, 3) := by decide +kernel
theorem dX8_tables_27 : decode cX8_tables 27 = .ok (.iinc 2 1, 3) := by decide +kernel
theorem dX8_tables_30 : decode cX8_tables 30 = .ok (.goto (-26), 3) := by decide +kernel
theorem dX8_tables_33 : decode cX8_tables 33 = .ok (.iload_n 1, 1) := by decide +kernel
theorem dX8_tables_34 : decode cX8_tables 34 = .ok (.ireturn, 1) := by decide +kernel
def VX8_tables_4 (g : jg) (a0 : Nat) (x1 : Int32) (x2 : Int32) (h : jh) (k n : Nat) (Q : jq) : Prop := (jt h a0 = 7) ∧ (((ji h 385 a0) < (x2) → Q (.inl (some (.inl (x1)))) h) ∧ (¬ (ji h 385 a0) < (x2) → (¬ (jr h 384 a0) = none) ∧ (jt h (jd (jr h 384 a0)) = 23) ∧ (vp_in (x2) (jn h (jd (jr h 384 a0)))) ∧ (¬ (jR h (jd (jr h 384 a0)) (x2 : Int32).toNatClampNeg) = none) ∧ (jt h (jd (jR h (jd (jr h 384 a0)) (x2 : Int32).toNatClampNeg)) = 1) ∧ (((jr h 10 (jd (jR h (jd (jr h 384 a0)) (x2 : Int32).toNatClampNeg))) = none → jG g mX8_tables 4 [(0, .inr (.inr (some (a0)))), (1, .inl (x1)), (2, .inl ((x2) + 1))] [] h k n Q) ∧ (¬ (jr h 10 (jd (jR h (jd (jr h 384 a0)) (x2 : Int32).toNatClampNeg))) = none → jG g mX8_tables 4 [(0, .inr (.inr (some (a0)))), (1, .inl ((x1) + 1)), (2, .inl ((x2) + 1))] [] h k n Q))))
set_option maxRecDepth 20000 in
theorem vX8_tables_4 {g : jg} {a0 : Nat} {x1 : Int32} {x2 : Int32} {h : jh} {k n : Nat} {Q : jq} (hv : VX8_tables_4 g a0 x1 x2 h k n Q) : jG g mX8_tables 4 [(0, .inr (.inr (some (a0)))), (1, .inl (x1)), (2, .inl (x2))] [] h k n Q := by
  unfold VX8_tables_4 at hv
  refine jg_iload_n dX8_tables_4 rfl (List.Mem.tail _ (List.Mem.tail _ (List.Mem.head _))) ?_
  refine jg_aload_n dX8_tables_5 rfl (List.Mem.head _) ?_
  obtain ⟨f1, hv⟩ := hv
  refine jg_geti dX8_tables_6 fl_RX8_17 rfl jsn f1 ?_
  refine jg_icmp_gt (tgt := 33) dX8_tables_9 (by decide) (fun c2 => ?_) (fun c2 => ?_)
  · replace hv := hv.1 c2
    refine jg_iload_n dX8_tables_33 rfl (List.Mem.tail _ (List.Mem.head _)) ?_
    exact jg_iret dX8_tables_34 rfl hv
  · replace hv := hv.2 c2
    refine jg_aload_n dX8_tables_12 rfl (List.Mem.head _) ?_
    refine jg_getr dX8_tables_13 fl_RX8_11 rfl jsn f1 ?_
    refine jg_iload_n dX8_tables_16 rfl (List.Mem.tail _ (List.Mem.tail _ (List.Mem.head _))) ?_
    obtain ⟨f3, hv⟩ := hv
    obtain ⟨f4, hv⟩ := hv
    obtain ⟨f5, hv⟩ := hv
    refine jg_aald dX8_tables_17 f3 f4 f5 ?_
    obtain ⟨f6, hv⟩ := hv
    obtain ⟨f7, hv⟩ := hv
    refine jg_getr dX8_tables_18 fl_RX8_61 rfl f6 f7 ?_
    refine jg_ifnull (tgt := 27) dX8_tables_21 (by decide) (fun c8 => ?_) (fun c8 => ?_)
    · replace hv := hv.1 c8
      refine jg_iinc (v := (x2) + 1) (lv' := [(2, .inl ((x2) + 1)), (0, .inr (.inr (some (a0)))), (1, .inl (x1))]) dX8_tables_27 (List.Mem.tail _ (List.Mem.tail _ (List.Mem.head _))) rfl (by decide) rfl ?_
      refine jg_goto (tgt := 4) dX8_tables_30 (by decide) ?_
      refine jG.sub (lv' := [(0, .inr (.inr (some (a0)))), (1, .inl (x1)), (2, .inl ((x2) + 1))]) (by simp) ?_
      exact hv
    · replace hv := hv.2 c8
      refine jg_iinc (v := (x1) + 1) (lv' := [(1, .inl ((x1) + 1)), (0, .inr (.inr (some (a0)))), (2, .inl (x2))]) dX8_tables_24 (List.Mem.tail _ (List.Mem.head _)) rfl (by decide) rfl ?_
      refine jg_iinc (v := (x2) + 1) (lv' := [(2, .inl ((x2) + 1)), (1, .inl ((x1) + 1)), (0, .inr (.inr (some (a0))))]) dX8_tables_27 (List.Mem.tail _ (List.Mem.tail _ (List.Mem.head _))) rfl (by decide) rfl ?_
      refine jg_goto (tgt := 4) dX8_tables_30 (by decide) ?_
      refine jG.sub (lv' := [(0, .inr (.inr (some (a0)))), (1, .inl ((x1) + 1)), (2, .inl ((x2) + 1))]) (by simp) ?_
      exact hv
def VX8_tables_0 (g : jg) (a0 : Nat) (h : jh) (k n : Nat) (Q : jq) : Prop := jG g mX8_tables 4 [(0, .inr (.inr (some (a0)))), (1, .inl (0)), (2, .inl (1))] [] h k n Q
set_option maxRecDepth 20000 in
theorem vX8_tables_0 {g : jg} {a0 : Nat} {h : jh} {k n : Nat} {Q : jq} (hv : VX8_tables_0 g a0 h k n Q) : jG g mX8_tables 0 [(0, .inr (.inr (some (a0))))] [] h k n Q := by
  unfold VX8_tables_0 at hv
  refine jg_iconst (v := 0) dX8_tables_0 (by decide) ?_
  refine jg_istore_n (lv' := [(1, .inl (0)), (0, .inr (.inr (some (a0))))]) dX8_tables_1 rfl (by decide) rfl ?_
  refine jg_iconst (v := 1) dX8_tables_2 (by decide) ?_
  refine jg_istore_n (lv' := [(2, .inl (1)), (1, .inl (0)), (0, .inr (.inr (some (a0))))]) dX8_tables_3 rfl (by decide) rfl ?_
  refine jG.sub (lv' := [(0, .inr (.inr (some (a0)))), (1, .inl (0)), (2, .inl (1))]) (by simp) ?_
  exact hv
theorem eX8_tables {g : jg} {a0 : Nat} {h : jh} {mc ms : Nat} {Q : jq} (hv : VX8_tables_0 g a0 h mc ms Q) : jM g mX8_tables [.inr (.inr (some (a0)))] h mc ms Q := jM.of (by decide) (Nat.le_of_ble_eq_true rfl) (lv := [(0, .inr (.inr (some (a0))))]) rfl (vX8_tables_0 hv)
theorem dX8_slackBytes_0 : decode cX8_slackBytes 0 = .ok (.iconst 0, 1) := by decide +kernel
theorem dX8_slackBytes_1 : decode cX8_slackBytes 1 = .ok (.istore_n 1, 1) := by decide +kernel
theorem dX8_slackBytes_2 : decode cX8_slackBytes 2 = .ok (.iconst 1, 1) := by decide +kernel
theorem dX8_slackBytes_3 : decode cX8_slackBytes 3 = .ok (.istore_n 2, 1) := by decide +kernel
theorem dX8_slackBytes_4 : decode cX8_slackBytes 4 = .ok (.iload_n 2, 1) := by decide +kernel
theorem dX8_slackBytes_5 : decode cX8_slackBytes 5 = .ok (.aload_n 0, 1) := by decide +kernel
theorem dX8_slackBytes_6 : decode cX8_slackBytes 6 = .ok (.getfield 17, 3) := by decide +kernel
theorem dX8_slackBytes_9 : decode cX8_slackBytes 9 = .ok (.if_icmp .gt 24, 3) := by decide +kernel
theorem dX8_slackBytes_12 : decode cX8_slackBytes 12 = .ok (.iload_n 1, 1) := by decide +kernel
theorem dX8_slackBytes_13 : decode cX8_slackBytes 13 = .ok (.aload_n 0, 1) := by decide +kernel
theorem dX8_slackBytes_14 : decode cX8_slackBytes 14 = .ok (.getfield 11, 3) := by decide +kernel
theorem dX8_slackBytes_17 : decode cX8_slackBytes 17 = .ok (.iload_n 2, 1) := by decide +kernel
theorem dX8_slackBytes_18 : decode cX8_slackBytes 18 = .ok (.aaload, 1) := by decide +kernel
theorem dX8_slackBytes_19 : decode cX8_slackBytes 19 = .ok (.getfield 104, 3) := by decide +kernel
theorem dX8_slackBytes_22 : decode cX8_slackBytes 22 = .ok (.getfield 108, 3) := by decide +kernel
theorem dX8_slackBytes_25 : decode cX8_slackBytes 25 = .ok (.iadd, 1) := by decide +kernel
theorem dX8_slackBytes_26 : decode cX8_slackBytes 26 = .ok (.istore_n 1, 1) := by decide +kernel
theorem dX8_slackBytes_27 : decode cX8_slackBytes 27 = .ok (.iinc 2 1, 3) := by decide +kernel
theorem dX8_slackBytes_30 : decode cX8_slackBytes 30 = .ok (.goto (-26), 3) := by decide +kernel
theorem dX8_slackBytes_33 : decode cX8_slackBytes 33 = .ok (.iload_n 1, 1) := by decide +kernel
theorem dX8_slackBytes_34 : decode cX8_slackBytes 34 = .ok (.ireturn, 1) := by decide +kernel
def VX8_slackBytes_4 (g : jg) (a0 : Nat) (x1 : Int32) (x2 : Int32) (h : jh) (k n : Nat) (Q : jq) : Prop := (jt h a0 = 7) ∧ (((ji h 385 a0) < (x2) → Q (.inl (some (.inl (x1)))) h) ∧ (¬ (ji h 385 a0) < (x2) → (¬ (jr h 384 a0) = none) ∧ (jt h (jd (jr h 384 a0)) = 23) ∧ (vp_in (x2) (jn h (jd (jr h 384 a0)))) ∧ (¬ (jR h (jd (jr h 384 a0)) (x2 : Int32).toNatClampNeg) = none) ∧ (jt h (jd (jR h (jd (jr h 384 a0)) (x2 : Int32).toNatClampNeg)) = 1) ∧ (¬ (jr h 7 (jd (jR h (jd (jr h 384 a0)) (x2 : Int32).toNatClampNeg))) = none) ∧ (jt h (jd (jr h 7 (jd (jR h (jd (jr h 384 a0)) (x2 : Int32).toNatClampNeg)))) = 4) ∧ jG g mX8_slackBytes 4 [(0, .inr (.inr (some (a0)))), (1, .inl ((x1) + (ji h 195 (jd (jr h 7 (jd (jR h (jd (jr h 384 a0)) (x2 : Int32).toNatClampNeg))))))), (2, .inl ((x2) + 1))] [] h k n Q))
set_option maxRecDepth 20000 in
theorem vX8_slackBytes_4 {g : jg} {a0 : Nat} {x1 : Int32} {x2 : Int32} {h : jh} {k n : Nat} {Q : jq} (hv : VX8_slackBytes_4 g a0 x1 x2 h k n Q) : jG g mX8_slackBytes 4 [(0, .inr (.inr (some (a0)))), (1, .inl (x1)), (2, .inl (x2))] [] h k n Q := by
  unfold VX8_slackBytes_4 at hv
  refine jg_iload_n dX8_slackBytes_4 rfl (List.Mem.tail _ (List.Mem.tail _ (List.Mem.head _))) ?_
  refine jg_aload_n dX8_slackBytes_5 rfl (List.Mem.head _) ?_
  obtain ⟨f1, hv⟩ := hv
  refine jg_geti dX8_slackBytes_6 fl_RX8_17 rfl jsn f1 ?_
  refine jg_icmp_gt (tgt := 33) dX8_slackBytes_9 (by decide) (fun c2 => ?_) (fun c2 => ?_)
  · replace hv := hv.1 c2
    refine jg_iload_n dX8_slackBytes_33 rfl (List.Mem.tail _ (List.Mem.head _)) ?_
    exact jg_iret dX8_slackBytes_34 rfl hv
  · replace hv := hv.2 c2
    refine jg_iload_n dX8_slackBytes_12 rfl (List.Mem.tail _ (List.Mem.head _)) ?_
    refine jg_aload_n dX8_slackBytes_13 rfl (List.Mem.head _) ?_
    refine jg_getr dX8_slackBytes_14 fl_RX8_11 rfl jsn f1 ?_
    refine jg_iload_n dX8_slackBytes_17 rfl (List.Mem.tail _ (List.Mem.tail _ (List.Mem.head _))) ?_
    obtain ⟨f3, hv⟩ := hv
    obtain ⟨f4, hv⟩ := hv
    obtain ⟨f5, hv⟩ := hv
    refine jg_aald dX8_slackBytes_18 f3 f4 f5 ?_
    obtain ⟨f6, hv⟩ := hv
    obtain ⟨f7, hv⟩ := hv
    refine jg_getr dX8_slackBytes_19 fl_RX8_104 rfl f6 f7 ?_
    obtain ⟨f8, hv⟩ := hv
    obtain ⟨f9, hv⟩ := hv
    refine jg_geti dX8_slackBytes_22 fl_RX8_108 rfl f8 f9 ?_
    refine jg_iadd dX8_slackBytes_25 ?_
    refine jg_istore_n (lv' := [(1, .inl ((x1) + (ji h 195 (jd (jr h 7 (jd (jR h (jd (jr h 384 a0)) (x2 : Int32).toNatClampNeg))))))), (0, .inr (.inr (some (a0)))), (2, .inl (x2))]) dX8_slackBytes_26 rfl (by decide) rfl ?_
    refine jg_iinc (v := (x2) + 1) (lv' := [(2, .inl ((x2) + 1)), (1, .inl ((x1) + (ji h 195 (jd (jr h 7 (jd (jR h (jd (jr h 384 a0)) (x2 : Int32).toNatClampNeg))))))), (0, .inr (.inr (some (a0))))]) dX8_slackBytes_27 (List.Mem.tail _ (List.Mem.tail _ (List.Mem.head _))) rfl (by decide) rfl ?_
    refine jg_goto (tgt := 4) dX8_slackBytes_30 (by decide) ?_
    refine jG.sub (lv' := [(0, .inr (.inr (some (a0)))), (1, .inl ((x1) + (ji h 195 (jd (jr h 7 (jd (jR h (jd (jr h 384 a0)) (x2 : Int32).toNatClampNeg))))))), (2, .inl ((x2) + 1))]) (by simp) ?_
    exact hv
def VX8_slackBytes_0 (g : jg) (a0 : Nat) (h : jh) (k n : Nat) (Q : jq) : Prop := jG g mX8_slackBytes 4 [(0, .inr (.inr (some (a0)))), (1, .inl (0)), (2, .inl (1))] [] h k n Q
set_option maxRecDepth 20000 in
theorem vX8_slackBytes_0 {g : jg} {a0 : Nat} {h : jh} {k n : Nat} {Q : jq} (hv : VX8_slackBytes_0 g a0 h k n Q) : jG g mX8_slackBytes 0 [(0, .inr (.inr (some (a0))))] [] h k n Q := by
  unfold VX8_slackBytes_0 at hv
  refine jg_iconst (v := 0) dX8_slackBytes_0 (by decide) ?_
  refine jg_istore_n (lv' := [(1, .inl (0)), (0, .inr (.inr (some (a0))))]) dX8_slackBytes_1 rfl (by decide) rfl ?_
  refine jg_iconst (v := 1) dX8_slackBytes_2 (by decide) ?_
  refine jg_istore_n (lv' := [(2, .inl (1)), (1, .inl (0)), (0, .inr (.inr (some (a0))))]) dX8_slackBytes_3 rfl (by decide) rfl ?_
  refine jG.sub (lv' := [(0, .inr (.inr (some (a0)))), (1, .inl (0)), (2, .inl (1))]) (by simp) ?_
  exact hv
theorem eX8_slackBytes {g : jg} {a0 : Nat} {h : jh} {mc ms : Nat} {Q : jq} (hv : VX8_slackBytes_0 g a0 h mc ms Q) : jM g mX8_slackBytes [.inr (.inr (some (a0)))] h mc ms Q := jM.of (by decide) (Nat.le_of_ble_eq_true rfl) (lv := [(0, .inr (.inr (some (a0))))]) rfl (vX8_slackBytes_0 hv)
