/-! what the code asks, by program: X10_redefines X10_external X10_depending X10_bytesOf X10_up X10_firstOf X10_close X10_layAll X10_begin X10_alignment X10_hasBelow X10_isBadPart X10_isLast X10_isWrong X10_lay X10_findAround X10_fillAll -/
theorem dX10_redefines_0 : decode cX10_redefines 0 = .ok (.aload_n 0, 1) := by decide +kernel
theorem dX10_redefines_1 : decode cX10_redefines 1 = .ok (.iconst 0, 1) := by decide +kernel
theorem dX10_redefines_2 : decode cX10_redefines 2 = .ok (.putfield 98, 3) := by decide +kernel
theorem dX10_redefines_5 : decode cX10_redefines 5 = .ok (.aload_n 0, 1) := by decide +kernel
theorem dX10_redefines_6 : decode cX10_redefines 6 = .ok (.iload_n 1, 1) := by decide +kernel
theorem dX10_redefines_7 : decode cX10_redefines 7 = .ok (.invokevirtual 136, 3) := by decide +kernel
theorem dX10_redefines_10 : decode cX10_redefines 10 = .ok (.ifCond .eq 11, 3) := by decide +kernel
theorem dX10_redefines_13 : decode cX10_redefines 13 = .ok (.aload_n 0, 1) := by decide +kernel
theorem dX10_redefines_14 : decode cX10_redefines 14 = .ok (.iload_n 2, 1) := by decide +kernel
theorem dX10_redefines_15 : decode cX10_redefines 15 = .ok (.invokevirtual 136, 3) := by decide +kernel
theorem dX10_redefines_18 : decode cX10_redefines 18 = .ok (.ifCond .ne 6, 3) := by decide +kernel
theorem dX10_redefines_21 : decode cX10_redefines 21 = .ok (.bipush (-2), 2) := by decide +kernel
theorem dX10_redefines_23 : decode cX10_redefines 23 = .ok (.ireturn, 1) := by decide +kernel
theorem dX10_redefines_24 : decode cX10_redefines 24 = .ok (.iload_n 2, 1) := by decide +kernel
theorem dX10_redefines_25 : decode cX10_redefines 25 = .ok (.iload_n 1, 1) := by decide +kernel
theorem dX10_redefines_26 : decode cX10_redefines 26 = .ok (.if_icmp .ge 44, 3) := by decide +kernel
theorem dX10_redefines_29 : decode cX10_redefines 29 = .ok (.aload_n 0, 1) := by decide +kernel
theorem dX10_redefines_30 : decode cX10_redefines 30 = .ok (.getfield 7, 3) := by decide +kernel
theorem dX10_redefines_33 : decode cX10_redefines 33 = .ok (.iload_n 1, 1) := by decide +kernel
theorem dX10_redefines_34 : decode cX10_redefines 34 = .ok (.iaload, 1) := by decide +kernel
theorem dX10_redefines_35 : decode cX10_redefines 35 = .ok (.aload_n 0, 1) := by decide +kernel
theorem dX10_redefines_36 : decode cX10_redefines 36 = .ok (.getfield 7, 3) := by decide +kernel
theorem dX10_redefines_39 : decode cX10_redefines 39 = .ok (.iload_n 2, 1) := by decide +kernel
theorem dX10_redefines_40 : decode cX10_redefines 40 = .ok (.iaload, 1) := by decide +kernel
theorem dX10_redefines_41 : decode cX10_redefines 41 = .ok (.if_icmp .ne 29, 3) := by decide +kernel
theorem dX10_redefines_44 : decode cX10_redefines 44 = .ok (.aload_n 0, 1) := by decide +kernel
theorem dX10_redefines_45 : decode cX10_redefines 45 = .ok (.getfield 7, 3) := by decide +kernel
theorem dX10_redefines_48 : decode cX10_redefines 48 = .ok (.iload_n 1, 1) := by decide +kernel
theorem dX10_redefines_49 : decode cX10_redefines 49 = .ok (.iaload, 1) := by decide +kernel
theorem dX10_redefines_50 : decode cX10_redefines 50 = .ok (.bipush 49, 2) := by decide +kernel
theorem dX10_redefines_52 : decode cX10_redefines 52 = .ok (.if_icmp .gt 18, 3) := by decide +kernel
theorem dX10_redefines_55 : decode cX10_redefines 55 = .ok (.aload_n 0, 1) := by decide +kernel
theorem dX10_redefines_56 : decode cX10_redefines 56 = .ok (.getfield 19, 3) := by decide +kernel
theorem dX10_redefines_59 : decode cX10_redefines 59 = .ok (.iload_n 1, 1) := by decide +kernel
theorem dX10_redefines_60 : decode cX10_redefines 60 = .ok (.iaload, 1) := by decide +kernel
theorem dX10_redefines_61 : decode cX10_redefines 61 = .ok (.aload_n 0, 1) := by decide +kernel
theorem dX10_redefines_62 : decode cX10_redefines 62 = .ok (.getfield 19, 3) := by decide +kernel
theorem dX10_redefines_65 : decode cX10_redefines 65 = .ok (.iload_n 2, 1) := by decide +kernel
theorem dX10_redefines_66 : decode cX10_redefines 66 = .ok (.iaload, 1) := by decide +kernel
theorem dX10_redefines_67 : decode cX10_redefines 67 = .ok (.if_icmp .eq 5, 3) := by decide +kernel
theorem dX10_redefines_70 : decode cX10_redefines 70 = .ok (.iconst 0, 1) := by decide +kernel
theorem dX10_redefines_71 : decode cX10_redefines 71 = .ok (.ireturn, 1) := by decide +kernel
theorem dX10_redefines_72 : decode cX10_redefines 72 = .ok (.aload_n 0, 1) := by decide +kernel
theorem dX10_redefines_73 : decode cX10_redefines 73 = .ok (.getfield 56, 3) := by decide +kernel
theorem dX10_redefines_76 : decode cX10_redefines 76 = .ok (.iload_n 1, 1) := by decide +kernel
theorem dX10_redefines_77 : decode cX10_redefines 77 = .ok (.iaload, 1) := by decide +kernel
theorem dX10_redefines_78 : decode cX10_redefines 78 = .ok (.ifCond .gt 49, 3) := by decide +kernel
theorem dX10_redefines_81 : decode cX10_redefines 81 = .ok (.aload_n 0, 1) := by decide +kernel
theorem dX10_redefines_82 : decode cX10_redefines 82 = .ok (.getfield 56, 3) := by decide +kernel
theorem dX10_redefines_85 : decode cX10_redefines 85 = .ok (.iload_n 2, 1) := by decide +kernel
theorem dX10_redefines_86 : decode cX10_redefines 86 = .ok (.iaload, 1) := by decide +kernel
theorem dX10_redefines_87 : decode cX10_redefines 87 = .ok (.ifCond .gt 40, 3) := by decide +kernel
theorem dX10_redefines_90 : decode cX10_redefines 90 = .ok (.aload_n 0, 1) := by decide +kernel
theorem dX10_redefines_91 : decode cX10_redefines 91 = .ok (.getfield 25, 3) := by decide +kernel
theorem dX10_redefines_94 : decode cX10_redefines 94 = .ok (.iload_n 2, 1) := by decide +kernel
theorem dX10_redefines_95 : decode cX10_redefines 95 = .ok (.iaload, 1) := by decide +kernel
theorem dX10_redefines_96 : decode cX10_redefines 96 = .ok (.ifCond .gt 31, 3) := by decide +kernel
theorem dX10_redefines_99 : decode cX10_redefines 99 = .ok (.aload_n 0, 1) := by decide +kernel
theorem dX10_redefines_100 : decode cX10_redefines 100 = .ok (.getfield 59, 3) := by decide +kernel
theorem dX10_redefines_103 : decode cX10_redefines 103 = .ok (.iload_n 1, 1) := by decide +kernel
theorem dX10_redefines_104 : decode cX10_redefines 104 = .ok (.iaload, 1) := by decide +kernel
theorem dX10_redefines_105 : decode cX10_redefines 105 = .ok (.iconst (-1), 1) := by decide +kernel
theorem dX10_redefines_106 : decode cX10_redefines 106 = .ok (.if_icmp .ne 21, 3) := by decide +kernel
theorem dX10_redefines_109 : decode cX10_redefines 109 = .ok (.aload_n 0, 1) := by decide +kernel
theorem dX10_redefines_110 : decode cX10_redefines 110 = .ok (.getfield 59, 3) := by decide +kernel
theorem dX10_redefines_113 : decode cX10_redefines 113 = .ok (.iload_n 2, 1) := by decide +kernel
theorem dX10_redefines_114 : decode cX10_redefines 114 = .ok (.iaload, 1) := by decide +kernel
theorem dX10_redefines_115 : decode cX10_redefines 115 = .ok (.iconst (-1), 1) := by decide +kernel
theorem dX10_redefines_116 : decode cX10_redefines 116 = .ok (.if_icmp .ne 11, 3) := by decide +kernel
theorem dX10_redefines_119 : decode cX10_redefines 119 = .ok (.aload_n 0, 1) := by decide +kernel
theorem dX10_redefines_120 : decode cX10_redefines 120 = .ok (.iload_n 1, 1) := by decide +kernel
theorem dX10_redefines_121 : decode cX10_redefines 121 = .ok (.invokevirtual 124, 3) := by decide +kernel
theorem dX10_redefines_124 : decode cX10_redefines 124 = .ok (.ifCond .eq 5, 3) := by decide +kernel
theorem dX10_redefines_127 : decode cX10_redefines 127 = .ok (.iconst 0, 1) := by decide +kernel
theorem dX10_redefines_128 : decode cX10_redefines 128 = .ok (.ireturn, 1) := by decide +kernel
theorem dX10_redefines_129 : decode cX10_redefines 129 = .ok (.iload_n 2, 1) := by decide +kernel
theorem dX10_redefines_130 : decode cX10_redefines 130 = .ok (.iconst 1, 1) := by decide +kernel
theorem dX10_redefines_131 : decode cX10_redefines 131 = .ok (.iadd, 1) := by decide +kernel
theorem dX10_redefines_132 : decode cX10_redefines 132 = .ok (.istore_n 3, 1) := by decide +kernel
theorem dX10_redefines_133 : decode cX10_redefines 133 = .ok (.iload_n 3, 1) := by decide +kernel
theorem dX10_redefines_134 : decode cX10_redefines 134 = .ok (.iload_n 1, 1) := by decide +kernel
theorem dX10_redefines_135 : decode cX10_redefines 135 = .ok (.if_icmp .ge 51, 3) := by decide +kernel
theorem dX10_redefines_138 : decode cX10_redefines 138 = .ok (.aload_n 0, 1) := by decide +kernel
theorem dX10_redefines_139 : decode cX10_redefines 139 = .ok (.getfield 7, 3) := by decide +kernel
theorem dX10_redefines_142 : decode cX10_redefines 142 = .ok (.iload_n 3, 1) := by decide +kernel
theorem dX10_redefines_143 : decode cX10_redefines 143 = .ok (.iaload, 1) := by decide +kernel
theorem dX10_redefines_144 : decode cX10_redefines 144 = .ok (.aload_n 0, 1) := by decide +kernel
theorem dX10_redefines_145 : decode cX10_redefines 145 = .ok (.getfield 7, 3) := by decide +kernel
theorem dX10_redefines_148 : decode cX10_redefines 148 = .ok (.iload_n 1, 1) := by decide +kernel
theorem dX10_redefines_149 : decode cX10_redefines 149 = .ok (.iaload, 1) := by decide +kernel
theorem dX10_redefines_150 : decode cX10_redefines 150 = .ok (.if_icmp .ne 30, 3) := by decide +kernel
theorem dX10_redefines_153 : decode cX10_redefines 153 = .ok (.aload_n 0, 1) := by decide +kernel
theorem dX10_redefines_154 : decode cX10_redefines 154 = .ok (.getfield 19, 3) := by decide +kernel
theorem dX10_redefines_157 : decode cX10_redefines 157 = .ok (.iload_n 3, 1) := by decide +kernel
theorem dX10_redefines_158 : decode cX10_redefines 158 = .ok (.iaload, 1) := by decide +kernel
theorem dX10_redefines_159 : decode cX10_redefines 159 = .ok (.aload_n 0, 1) := by decide +kernel
theorem dX10_redefines_160 : decode cX10_redefines 160 = .ok (.getfield 19, 3) := by decide +kernel
theorem dX10_redefines_163 : decode cX10_redefines 163 = .ok (.iload_n 1, 1) := by decide +kernel
theorem dX10_redefines_164 : decode cX10_redefines 164 = .ok (.iaload, 1) := by decide +kernel
theorem dX10_redefines_165 : decode cX10_redefines 165 = .ok (.if_icmp .ne 15, 3) := by decide +kernel
theorem dX10_redefines_168 : decode cX10_redefines 168 = .ok (.aload_n 0, 1) := by decide +kernel
theorem dX10_redefines_169 : decode cX10_redefines 169 = .ok (.getfield 56, 3) := by decide +kernel
theorem dX10_redefines_172 : decode cX10_redefines 172 = .ok (.iload_n 3, 1) := by decide +kernel
theorem dX10_redefines_173 : decode cX10_redefines 173 = .ok (.iaload, 1) := by decide +kernel
theorem dX10_redefines_174 : decode cX10_redefines 174 = .ok (.iload_n 2, 1) := by decide +kernel
theorem dX10_redefines_175 : decode cX10_redefines 175 = .ok (.if_icmp .eq 5, 3) := by decide +kernel
theorem dX10_redefines_178 : decode cX10_redefines 178 = .ok (.iconst 0, 1) := by decide +kernel
theorem dX10_redefines_179 : decode cX10_redefines 179 = .ok (.ireturn, 1) := by decide +kernel
theorem dX10_redefines_180 : decode cX10_redefines 180 = .ok (.iinc 3 1, 3) := by decide +kernel
theorem dX10_redefines_183 : decode cX10_redefines 183 = .ok (.goto (-50), 3) := by decide +kernel
theorem dX10_redefines_186 : decode cX10_redefines 186 = .ok (.iload_n 1, 1) := by decide +kernel
theorem dX10_redefines_187 : decode cX10_redefines 187 = .ok (.istore_n 3, 1) := by decide +kernel
theorem dX10_redefines_188 : decode cX10_redefines 188 = .ok (.iload_n 3, 1) := by decide +kernel
theorem dX10_redefines_189 : decode cX10_redefines 189 = .ok (.aload_n 0, 1) := by decide +kernel
theorem dX10_redefines_190 : decode cX10_redefines 190 = .ok (.getfield 102, 3) := by decide +kernel
theorem dX10_redefines_193 : decode cX10_redefines 193 = .ok (.if_icmp .gt 34, 3) := by decide +kernel
theorem dX10_redefines_196 : decode cX10_redefines 196 = .ok (.aload_n 0, 1) := by decide +kernel
theorem dX10_redefines_197 : decode cX10_redefines 197 = .ok (.getfield 41, 3) := by decide +kernel
theorem dX10_redefines_200 : decode cX10_redefines 200 = .ok (.iload_n 3, 1) := by decide +kernel
theorem dX10_redefines_201 : decode cX10_redefines 201 = .ok (.baload, 1) := by decide +kernel
theorem dX10_redefines_202 : decode cX10_redefines 202 = .ok (.ifCond .eq 19, 3) := by decide +kernel
theorem dX10_redefines_205 : decode cX10_redefines 205 = .ok (.iload_n 3, 1) := by decide +kernel
theorem dX10_redefines_206 : decode cX10_redefines 206 = .ok (.iload_n 1, 1) := by decide +kernel
theorem dX10_redefines_207 : decode cX10_redefines 207 = .ok (.if_icmp .eq 12, 3) := by decide +kernel
theorem dX10_redefines_210 : decode cX10_redefines 210 = .ok (.aload_n 0, 1) := by decide +kernel
theorem dX10_redefines_211 : decode cX10_redefines 211 = .ok (.iload_n 3, 1) := by decide +kernel
theorem dX10_redefines_212 : decode cX10_redefines 212 = .ok (.iload_n 1, 1) := by decide +kernel
theorem dX10_redefines_213 : decode cX10_redefines 213 = .ok (.invokevirtual 131, 3) := by decide +kernel
theorem dX10_redefines_216 : decode cX10_redefines 216 = .ok (.ifCond .eq 5, 3) := by decide +kernel
theorem dX10_redefines_219 : decode cX10_redefines 219 = .ok (.iconst 0, 1) := by decide +kernel
theorem dX10_redefines_220 : decode cX10_redefines 220 = .ok (.ireturn, 1) := by decide +kernel
theorem dX10_redefines_221 : decode cX10_redefines 221 = .ok (.iinc 3 1, 3) := by decide +kernel
theorem dX10_redefines_224 : decode cX10_redefines 224 = .ok (.goto (-36), 3) := by decide +kernel
theorem dX10_redefines_227 : decode cX10_redefines 227 = .ok (.aload_n 0, 1) := by decide +kernel
theorem dX10_redefines_228 : decode cX10_redefines 228 = .ok (.getfield 56, 3) := by decide +kernel
theorem dX10_redefines_231 : decode cX10_redefines 231 = .ok (.iload_n 1, 1) := by decide +kernel
theorem dX10_redefines_232 : decode cX10_redefines 232 = .ok (.iload_n 2, 1) := by decide +kernel
theorem dX10_redefines_233 : decode cX10_redefines 233 = .ok (.iastore, 1) := by decide +kernel
theorem dX10_redefines_234 : decode cX10_redefines 234 = .ok (.aload_n 0, 1) := by decide +kernel
theorem dX10_redefines_235 : decode cX10_redefines 235 = .ok (.iconst 0, 1) := by decide +kernel
theorem dX10_redefines_236 : decode cX10_redefines 236 = .ok (.putfield 121, 3) := by decide +kernel
theorem dX10_redefines_239 : decode cX10_redefines 239 = .ok (.iconst 1, 1) := by decide +kernel
theorem dX10_redefines_240 : decode cX10_redefines 240 = .ok (.ireturn, 1) := by decide +kernel
def VX10_redefines_188 (g : jg) (a0 : Nat) (x1 : Int32) (x2 : Int32) (x3 : Int32) (h : jh) (k n : Nat) (Q : jq) : Prop := (jt h a0 = 9) ∧ (((ji h 513 a0) < (x3) → (¬ (jr h 529 a0) = none) ∧ (jt h (jd (jr h 529 a0)) = 20) ∧ (vp_in (x1) (jn h (jd (jr h 529 a0)))) ∧ ∀ h6 : jh, h6 = jsI h (jd (jr h 529 a0)) (x1 : Int32).toNatClampNeg (x2) → ∀ h8 : jh, h8 = jsi h6 533 a0 (0) → Q (.inl (some (.inl (1)))) h8) ∧ (¬ (ji h 513 a0) < (x3) → (¬ (jr h 524 a0) = none) ∧ (jt h (jd (jr h 524 a0)) = 24) ∧ (vp_in (x3) (jn h (jd (jr h 524 a0)))) ∧ (((jI h (jd (jr h 524 a0)) (x3 : Int32).toNatClampNeg) = 0 → jG g mX10_redefines 188 [(0, .inr (.inr (some (a0)))), (1, .inl (x1)), (2, .inl (x2)), (3, .inl ((x3) + 1))] [] h k n Q) ∧ (¬ (jI h (jd (jr h 524 a0)) (x3 : Int32).toNatClampNeg) = 0 → (((x3) = (x1) → Q (.inl (some (.inl (0)))) h) ∧ (¬ (x3) = (x1) → jM g mX10_isBelow [.inr (.inr (some a0)), .inl (x3), .inl (x1)] h 0 0 (jki (fun (r15 : Int32) (h16 : jh) => (((r15) = 0 → jG g mX10_redefines 188 [(0, .inr (.inr (some (a0)))), (1, .inl (x1)), (2, .inl (x2)), (3, .inl ((x3) + 1))] [] h16 k n Q) ∧ (¬ (r15) = 0 → Q (.inl (some (.inl (0)))) h16))) (fun e h9 => Q (.inr e) h9))))))))
set_option maxRecDepth 20000 in
theorem vX10_redefines_188 {g : jg} {a0 : Nat} {x1 : Int32} {x2 : Int32} {x3 : Int32} {h : jh} {k n : Nat} {Q : jq} (hv : VX10_redefines_188 g a0 x1 x2 x3 h k n Q) : jG g mX10_redefines 188 [(0, .inr (.inr (some (a0)))), (1, .inl (x1)), (2, .inl (x2)), (3, .inl (x3))] [] h k n Q := by
  unfold VX10_redefines_188 at hv
  refine jg_iload_n dX10_redefines_188 rfl (List.Mem.tail _ (List.Mem.tail _ (List.Mem.tail _ (List.Mem.head _)))) ?_
  refine jg_aload_n dX10_redefines_189 rfl (List.Mem.head _) ?_
  obtain ⟨f1, hv⟩ := hv
  refine jg_geti dX10_redefines_190 fl_RX10_102 rfl jsn f1 ?_
  refine jg_icmp_gt (tgt := 227) dX10_redefines_193 (by decide) (fun c2 => ?_) (fun c2 => ?_)
  · replace hv := hv.1 c2
    refine jg_aload_n dX10_redefines_227 rfl (List.Mem.head _) ?_
    refine jg_getr dX10_redefines_228 fl_RX10_56 rfl jsn f1 ?_
    refine jg_iload_n dX10_redefines_231 rfl (List.Mem.tail _ (List.Mem.head _)) ?_
    refine jg_iload_n dX10_redefines_232 rfl (List.Mem.tail _ (List.Mem.tail _ (List.Mem.head _))) ?_
    obtain ⟨f3, hv⟩ := hv
    obtain ⟨f4, hv⟩ := hv
    obtain ⟨f5, hv⟩ := hv
    obtain ⟨h6, e7⟩ : ∃ z : jh, z = jsI h (jd (jr h 529 a0)) (x1 : Int32).toNatClampNeg (x2) := ⟨_, rfl⟩
    replace hv := hv h6 e7
    refine jp_iast dX10_redefines_233 f3 f4 f5 e7 ?_
    refine jg_aload_n dX10_redefines_234 rfl (List.Mem.head _) ?_
    refine jg_iconst (v := 0) dX10_redefines_235 (by decide) ?_
    obtain ⟨h8, e9⟩ : ∃ z : jh, z = jsi h6 533 a0 (0) := ⟨_, rfl⟩
    replace hv := hv h8 e9
    refine jp_putz dX10_redefines_236 (jfp.nf fl_RX10_121 (fun q hq => by cases hq; rfl)) rfl jsn ((congrArg (fun z => jt z a0) e7).trans f1) (by decide) e9 ?_
    refine jg_iconst (v := 1) dX10_redefines_239 (by decide) ?_
    exact jg_iret dX10_redefines_240 rfl hv
  · replace hv := hv.2 c2
    refine jg_aload_n dX10_redefines_196 rfl (List.Mem.head _) ?_
    refine jg_getr dX10_redefines_197 fl_RX10_41 rfl jsn f1 ?_
    refine jg_iload_n dX10_redefines_200 rfl (List.Mem.tail _ (List.Mem.tail _ (List.Mem.tail _ (List.Mem.head _)))) ?_
    obtain ⟨f10, hv⟩ := hv
    obtain ⟨f11, hv⟩ := hv
    obtain ⟨f12, hv⟩ := hv
    refine jg_zald dX10_redefines_201 f10 f11 f12 ?_
    refine jg_if_eq (tgt := 221) dX10_redefines_202 (by decide) (fun c13 => ?_) (fun c13 => ?_)
    · replace hv := hv.1 c13
      refine jg_iinc (v := (x3) + 1) (lv' := [(3, .inl ((x3) + 1)), (0, .inr (.inr (some (a0)))), (1, .inl (x1)), (2, .inl (x2))]) dX10_redefines_221 (List.Mem.tail _ (List.Mem.tail _ (List.Mem.tail _ (List.Mem.head _)))) rfl (by decide) rfl ?_
      refine jg_goto (tgt := 188) dX10_redefines_224 (by decide) ?_
      refine jG.sub (lv' := [(0, .inr (.inr (some (a0)))), (1, .inl (x1)), (2, .inl (x2)), (3, .inl ((x3) + 1))]) (by simp) ?_
      exact hv
    · replace hv := hv.2 c13
      refine jg_iload_n dX10_redefines_205 rfl (List.Mem.tail _ (List.Mem.tail _ (List.Mem.tail _ (List.Mem.head _)))) ?_
      refine jg_iload_n dX10_redefines_206 rfl (List.Mem.tail _ (List.Mem.head _)) ?_
      refine jg_icmp_eq (tgt := 219) dX10_redefines_207 (by decide) (fun c14 => ?_) (fun c14 => ?_)
      · replace hv := hv.1 c14
        refine jg_iconst (v := 0) dX10_redefines_219 (by decide) ?_
        exact jg_iret dX10_redefines_220 rfl hv
      · replace hv := hv.2 c14
        refine jg_aload_n dX10_redefines_210 rfl (List.Mem.head _) ?_
        refine jg_iload_n dX10_redefines_211 rfl (List.Mem.tail _ (List.Mem.tail _ (List.Mem.tail _ (List.Mem.head _)))) ?_
        refine jg_iload_n dX10_redefines_212 rfl (List.Mem.tail _ (List.Mem.head _)) ?_
        refine jp_callV mX10_isBelow [.inl (x3), .inl (x1)] [] dX10_redefines_213 rfl cl_RX10_131 ⟨⟨by decide, by decide⟩, by decide⟩ jsn f1 (Nat.zero_le _) (Nat.zero_le _) (jM.mono (jki_k (fun r15 h16 hv => ?_)) hv)
        refine jg_if_eq (tgt := 221) dX10_redefines_216 (by decide) (fun c17 => ?_) (fun c17 => ?_)
        · replace hv := hv.1 c17
          refine jg_iinc (v := (x3) + 1) (lv' := [(3, .inl ((x3) + 1)), (0, .inr (.inr (some (a0)))), (1, .inl (x1)), (2, .inl (x2))]) dX10_redefines_221 (List.Mem.tail _ (List.Mem.tail _ (List.Mem.tail _ (List.Mem.head _)))) rfl (by decide) rfl ?_
          refine jg_goto (tgt := 188) dX10_redefines_224 (by decide) ?_
          refine jG.sub (lv' := [(0, .inr (.inr (some (a0)))), (1, .inl (x1)), (2, .inl (x2)), (3, .inl ((x3) + 1))]) (by simp) ?_
          exact hv
        · replace hv := hv.2 c17
          refine jg_iconst (v := 0) dX10_redefines_219 (by decide) ?_
          exact jg_iret dX10_redefines_220 rfl hv
def VX10_redefines_133 (g : jg) (a0 : Nat) (x1 : Int32) (x2 : Int32) (x3 : Int32) (h : jh) (k n : Nat) (Q : jq) : Prop := (((x1) ≤ (x3) → jG g mX10_redefines 188 [(0, .inr (.inr (some (a0)))), (1, .inl (x1)), (2, .inl (x2)), (3, .inl (x1))] [] h k n Q) ∧ (¬ (x1) ≤ (x3) → (jt h a0 = 9) ∧ (¬ (jr h 514 a0) = none) ∧ (jt h (jd (jr h 514 a0)) = 20) ∧ (vp_in (x3) (jn h (jd (jr h 514 a0)))) ∧ (vp_in (x1) (jn h (jd (jr h 514 a0)))) ∧ ((¬ (jI h (jd (jr h 514 a0)) (x3 : Int32).toNatClampNeg) = (jI h (jd (jr h 514 a0)) (x1 : Int32).toNatClampNeg) → jG g mX10_redefines 133 [(0, .inr (.inr (some (a0)))), (1, .inl (x1)), (2, .inl (x2)), (3, .inl ((x3) + 1))] [] h k n Q) ∧ ((jI h (jd (jr h 514 a0)) (x3 : Int32).toNatClampNeg) = (jI h (jd (jr h 514 a0)) (x1 : Int32).toNatClampNeg) → (¬ (jr h 517 a0) = none) ∧ (jt h (jd (jr h 517 a0)) = 20) ∧ (vp_in (x3) (jn h (jd (jr h 517 a0)))) ∧ (vp_in (x1) (jn h (jd (jr h 517 a0)))) ∧ ((¬ (jI h (jd (jr h 517 a0)) (x3 : Int32).toNatClampNeg) = (jI h (jd (jr h 517 a0)) (x1 : Int32).toNatClampNeg) → jG g mX10_redefines 133 [(0, .inr (.inr (some (a0)))), (1, .inl (x1)), (2, .inl (x2)), (3, .inl ((x3) + 1))] [] h k n Q) ∧ ((jI h (jd (jr h 517 a0)) (x3 : Int32).toNatClampNeg) = (jI h (jd (jr h 517 a0)) (x1 : Int32).toNatClampNeg) → (¬ (jr h 529 a0) = none) ∧ (jt h (jd (jr h 529 a0)) = 20) ∧ (vp_in (x3) (jn h (jd (jr h 529 a0)))) ∧ (((jI h (jd (jr h 529 a0)) (x3 : Int32).toNatClampNeg) = (x2) → jG g mX10_redefines 133 [(0, .inr (.inr (some (a0)))), (1, .inl (x1)), (2, .inl (x2)), (3, .inl ((x3) + 1))] [] h k n Q) ∧ (¬ (jI h (jd (jr h 529 a0)) (x3 : Int32).toNatClampNeg) = (x2) → Q (.inl (some (.inl (0)))) h))))))))
set_option maxRecDepth 20000 in
theorem vX10_redefines_133 {g : jg} {a0 : Nat} {x1 : Int32} {x2 : Int32} {x3 : Int32} {h : jh} {k n : Nat} {Q : jq} (hv : VX10_redefines_133 g a0 x1 x2 x3 h k n Q) : jG g mX10_redefines 133 [(0, .inr (.inr (some (a0)))), (1, .inl (x1)), (2, .inl (x2)), (3, .inl (x3))] [] h k n Q := by
  unfold VX10_redefines_133 at hv
  refine jg_iload_n dX10_redefines_133 rfl (List.Mem.tail _ (List.Mem.tail _ (List.Mem.tail _ (List.Mem.head _)))) ?_
  refine jg_iload_n dX10_redefines_134 rfl (List.Mem.tail _ (List.Mem.head _)) ?_
  refine jg_icmp_ge (tgt := 186) dX10_redefines_135 (by decide) (fun c18 => ?_) (fun c18 => ?_)
  · replace hv := hv.1 c18
    refine jg_iload_n dX10_redefines_186 rfl (List.Mem.tail _ (List.Mem.head _)) ?_
    refine jg_istore_n (lv' := [(3, .inl (x1)), (0, .inr (.inr (some (a0)))), (1, .inl (x1)), (2, .inl (x2))]) dX10_redefines_187 rfl (by decide) rfl ?_
    refine jG.sub (lv' := [(0, .inr (.inr (some (a0)))), (1, .inl (x1)), (2, .inl (x2)), (3, .inl (x1))]) (by simp) ?_
    exact hv
  · replace hv := hv.2 c18
    refine jg_aload_n dX10_redefines_138 rfl (List.Mem.head _) ?_
    obtain ⟨f19, hv⟩ := hv
    refine jg_getr dX10_redefines_139 fl_RX10_7 rfl jsn f19 ?_
    refine jg_iload_n dX10_redefines_142 rfl (List.Mem.tail _ (List.Mem.tail _ (List.Mem.tail _ (List.Mem.head _)))) ?_
    obtain ⟨f20, hv⟩ := hv
    obtain ⟨f21, hv⟩ := hv
    obtain ⟨f22, hv⟩ := hv
    refine jg_iald dX10_redefines_143 f20 f21 f22 ?_
    refine jg_aload_n dX10_redefines_144 rfl (List.Mem.head _) ?_
    refine jg_getr dX10_redefines_145 fl_RX10_7 rfl jsn f19 ?_
    refine jg_iload_n dX10_redefines_148 rfl (List.Mem.tail _ (List.Mem.head _)) ?_
    obtain ⟨f23, hv⟩ := hv
    refine jg_iald dX10_redefines_149 f20 f21 f23 ?_
    refine jg_icmp_ne (tgt := 180) dX10_redefines_150 (by decide) (fun c24 => ?_) (fun c24 => ?_)
    · replace hv := hv.1 c24
      refine jg_iinc (v := (x3) + 1) (lv' := [(3, .inl ((x3) + 1)), (0, .inr (.inr (some (a0)))), (1, .inl (x1)), (2, .inl (x2))]) dX10_redefines_180 (List.Mem.tail _ (List.Mem.tail _ (List.Mem.tail _ (List.Mem.head _)))) rfl (by decide) rfl ?_
      refine jg_goto (tgt := 133) dX10_redefines_183 (by decide) ?_
      refine jG.sub (lv' := [(0, .inr (.inr (some (a0)))), (1, .inl (x1)), (2, .inl (x2)), (3, .inl ((x3) + 1))]) (by simp) ?_
      exact hv
    · replace hv := hv.2 c24
      refine jg_aload_n dX10_redefines_153 rfl (List.Mem.head _) ?_
      refine jg_getr dX10_redefines_154 fl_RX10_19 rfl jsn f19 ?_
      refine jg_iload_n dX10_redefines_157 rfl (List.Mem.tail _ (List.Mem.tail _ (List.Mem.tail _ (List.Mem.head _)))) ?_
      obtain ⟨f25, hv⟩ := hv
      obtain ⟨f26, hv⟩ := hv
      obtain ⟨f27, hv⟩ := hv
      refine jg_iald dX10_redefines_158 f25 f26 f27 ?_
      refine jg_aload_n dX10_redefines_159 rfl (List.Mem.head _) ?_
      refine jg_getr dX10_redefines_160 fl_RX10_19 rfl jsn f19 ?_
      refine jg_iload_n dX10_redefines_163 rfl (List.Mem.tail _ (List.Mem.head _)) ?_
      obtain ⟨f28, hv⟩ := hv
      refine jg_iald dX10_redefines_164 f25 f26 f28 ?_
      refine jg_icmp_ne (tgt := 180) dX10_redefines_165 (by decide) (fun c29 => ?_) (fun c29 => ?_)
      · replace hv := hv.1 c29
        refine jg_iinc (v := (x3) + 1) (lv' := [(3, .inl ((x3) + 1)), (0, .inr (.inr (some (a0)))), (1, .inl (x1)), (2, .inl (x2))]) dX10_redefines_180 (List.Mem.tail _ (List.Mem.tail _ (List.Mem.tail _ (List.Mem.head _)))) rfl (by decide) rfl ?_
        refine jg_goto (tgt := 133) dX10_redefines_183 (by decide) ?_
        refine jG.sub (lv' := [(0, .inr (.inr (some (a0)))), (1, .inl (x1)), (2, .inl (x2)), (3, .inl ((x3) + 1))]) (by simp) ?_
        exact hv
      · replace hv := hv.2 c29
        refine jg_aload_n dX10_redefines_168 rfl (List.Mem.head _) ?_
        refine jg_getr dX10_redefines_169 fl_RX10_56 rfl jsn f19 ?_
        refine jg_iload_n dX10_redefines_172 rfl (List.Mem.tail _ (List.Mem.tail _ (List.Mem.tail _ (List.Mem.head _)))) ?_
        obtain ⟨f30, hv⟩ := hv
        obtain ⟨f31, hv⟩ := hv
        obtain ⟨f32, hv⟩ := hv
        refine jg_iald dX10_redefines_173 f30 f31 f32 ?_
        refine jg_iload_n dX10_redefines_174 rfl (List.Mem.tail _ (List.Mem.tail _ (List.Mem.head _))) ?_
        refine jg_icmp_eq (tgt := 180) dX10_redefines_175 (by decide) (fun c33 => ?_) (fun c33 => ?_)
        · replace hv := hv.1 c33
          refine jg_iinc (v := (x3) + 1) (lv' := [(3, .inl ((x3) + 1)), (0, .inr (.inr (some (a0)))), (1, .inl (x1)), (2, .inl (x2))]) dX10_redefines_180 (List.Mem.tail _ (List.Mem.tail _ (List.Mem.tail _ (List.Mem.head _)))) rfl (by decide) rfl ?_
          refine jg_goto (tgt := 133) dX10_redefines_183 (by decide) ?_
          refine jG.sub (lv' := [(0, .inr (.inr (some (a0)))), (1, .inl (x1)), (2, .inl (x2)), (3, .inl ((x3) + 1))]) (by simp) ?_
          exact hv
        · replace hv := hv.2 c33
          refine jg_iconst (v := 0) dX10_redefines_178 (by decide) ?_
          exact jg_iret dX10_redefines_179 rfl hv
def VX10_redefines_0 (g : jg) (a0 : Nat) (x1 : Int32) (x2 : Int32) (h : jh) (k n : Nat) (Q : jq) : Prop := (jt h a0 = 9) ∧ ∀ h35 : jh, h35 = jsi h 512 a0 (0) → jM g mX10_is [.inr (.inr (some a0)), .inl (x1)] h35 0 0 (jki (fun (r37 : Int32) (h38 : jh) => (((r37) = 0 → Q (.inl (some (.inl ((-2))))) h38) ∧ (¬ (r37) = 0 → (jt h38 a0 = 9) ∧ jM g mX10_is [.inr (.inr (some a0)), .inl (x2)] h38 0 0 (jki (fun (r41 : Int32) (h42 : jh) => ((¬ (r41) = 0 → (((x1) ≤ (x2) → Q (.inl (some (.inl (0)))) h42) ∧ (¬ (x1) ≤ (x2) → (jt h42 a0 = 9) ∧ (¬ (jr h42 514 a0) = none) ∧ (jt h42 (jd (jr h42 514 a0)) = 20) ∧ (vp_in (x1) (jn h42 (jd (jr h42 514 a0)))) ∧ (vp_in (x2) (jn h42 (jd (jr h42 514 a0)))) ∧ ((¬ (jI h42 (jd (jr h42 514 a0)) (x1 : Int32).toNatClampNeg) = (jI h42 (jd (jr h42 514 a0)) (x2 : Int32).toNatClampNeg) → Q (.inl (some (.inl (0)))) h42) ∧ ((jI h42 (jd (jr h42 514 a0)) (x1 : Int32).toNatClampNeg) = (jI h42 (jd (jr h42 514 a0)) (x2 : Int32).toNatClampNeg) → (((49 : Int32) < (jI h42 (jd (jr h42 514 a0)) (x1 : Int32).toNatClampNeg) → Q (.inl (some (.inl (0)))) h42) ∧ (¬ (49 : Int32) < (jI h42 (jd (jr h42 514 a0)) (x1 : Int32).toNatClampNeg) → (¬ (jr h42 517 a0) = none) ∧ (jt h42 (jd (jr h42 517 a0)) = 20) ∧ (vp_in (x1) (jn h42 (jd (jr h42 517 a0)))) ∧ (vp_in (x2) (jn h42 (jd (jr h42 517 a0)))) ∧ (((jI h42 (jd (jr h42 517 a0)) (x1 : Int32).toNatClampNeg) = (jI h42 (jd (jr h42 517 a0)) (x2 : Int32).toNatClampNeg) → (¬ (jr h42 529 a0) = none) ∧ (jt h42 (jd (jr h42 529 a0)) = 20) ∧ (vp_in (x1) (jn h42 (jd (jr h42 529 a0)))) ∧ ((0 < (jI h42 (jd (jr h42 529 a0)) (x1 : Int32).toNatClampNeg) → Q (.inl (some (.inl (0)))) h42) ∧ (¬ 0 < (jI h42 (jd (jr h42 529 a0)) (x1 : Int32).toNatClampNeg) → (vp_in (x2) (jn h42 (jd (jr h42 529 a0)))) ∧ ((0 < (jI h42 (jd (jr h42 529 a0)) (x2 : Int32).toNatClampNeg) → Q (.inl (some (.inl (0)))) h42) ∧ (¬ 0 < (jI h42 (jd (jr h42 529 a0)) (x2 : Int32).toNatClampNeg) → (¬ (jr h42 519 a0) = none) ∧ (jt h42 (jd (jr h42 519 a0)) = 20) ∧ (vp_in (x2) (jn h42 (jd (jr h42 519 a0)))) ∧ ((0 < (jI h42 (jd (jr h42 519 a0)) (x2 : Int32).toNatClampNeg) → Q (.inl (some (.inl (0)))) h42) ∧ (¬ 0 < (jI h42 (jd (jr h42 519 a0)) (x2 : Int32).toNatClampNeg) → (¬ (jr h42 530 a0) = none) ∧ (jt h42 (jd (jr h42 530 a0)) = 20) ∧ (vp_in (x1) (jn h42 (jd (jr h42 530 a0)))) ∧ ((¬ (jI h42 (jd (jr h42 530 a0)) (x1 : Int32).toNatClampNeg) = ((-1)) → Q (.inl (some (.inl (0)))) h42) ∧ ((jI h42 (jd (jr h42 530 a0)) (x1 : Int32).toNatClampNeg) = ((-1)) → (vp_in (x2) (jn h42 (jd (jr h42 530 a0)))) ∧ ((¬ (jI h42 (jd (jr h42 530 a0)) (x2 : Int32).toNatClampNeg) = ((-1)) → Q (.inl (some (.inl (0)))) h42) ∧ ((jI h42 (jd (jr h42 530 a0)) (x2 : Int32).toNatClampNeg) = ((-1)) → jM g mX10_isRedefined [.inr (.inr (some a0)), .inl (x1)] h42 0 0 (jki (fun (r73 : Int32) (h74 : jh) => (((r73) = 0 → jG g mX10_redefines 133 [(0, .inr (.inr (some (a0)))), (1, .inl (x1)), (2, .inl (x2)), (3, .inl ((x2) + (1)))] [] h74 k n Q) ∧ (¬ (r73) = 0 → Q (.inl (some (.inl (0)))) h74))) (fun e h9 => Q (.inr e) h9))))))))))))) ∧ (¬ (jI h42 (jd (jr h42 517 a0)) (x1 : Int32).toNatClampNeg) = (jI h42 (jd (jr h42 517 a0)) (x2 : Int32).toNatClampNeg) → Q (.inl (some (.inl (0)))) h42))))))))) ∧ ((r41) = 0 → Q (.inl (some (.inl ((-2))))) h42))) (fun e h9 => Q (.inr e) h9))))) (fun e h9 => Q (.inr e) h9))
set_option maxRecDepth 20000 in
theorem vX10_redefines_0 {g : jg} {a0 : Nat} {x1 : Int32} {x2 : Int32} {h : jh} {k n : Nat} {Q : jq} (hv : VX10_redefines_0 g a0 x1 x2 h k n Q) : jG g mX10_redefines 0 [(0, .inr (.inr (some (a0)))), (1, .inl (x1)), (2, .inl (x2))] [] h k n Q := by
  unfold VX10_redefines_0 at hv
  refine jg_aload_n dX10_redefines_0 rfl (List.Mem.head _) ?_
  refine jg_iconst (v := 0) dX10_redefines_1 (by decide) ?_
  obtain ⟨f34, hv⟩ := hv
  obtain ⟨h35, e36⟩ : ∃ z : jh, z = jsi h 512 a0 (0) := ⟨_, rfl⟩
  replace hv := hv h35 e36
  refine jp_puti dX10_redefines_2 (jfp.nf fl_RX10_98 (fun q hq => by cases hq; rfl)) rfl jsn f34 e36 ?_
  refine jg_aload_n dX10_redefines_5 rfl (List.Mem.head _) ?_
  refine jg_iload_n dX10_redefines_6 rfl (List.Mem.tail _ (List.Mem.head _)) ?_
  refine jp_callV mX10_is [.inl (x1)] [] dX10_redefines_7 rfl cl_RX10_136 ⟨⟨by decide, by decide⟩, by decide⟩ jsn ((congrArg (fun z => jt z a0) e36).trans f34) (Nat.zero_le _) (Nat.zero_le _) (jM.mono (jki_k (fun r37 h38 hv => ?_)) hv)
  refine jg_if_eq (tgt := 21) dX10_redefines_10 (by decide) (fun c39 => ?_) (fun c39 => ?_)
  · replace hv := hv.1 c39
    refine jg_bipush (v := (-2)) dX10_redefines_21 (by decide) ?_
    exact jg_iret dX10_redefines_23 rfl hv
  · replace hv := hv.2 c39
    refine jg_aload_n dX10_redefines_13 rfl (List.Mem.head _) ?_
    refine jg_iload_n dX10_redefines_14 rfl (List.Mem.tail _ (List.Mem.tail _ (List.Mem.head _))) ?_
    obtain ⟨f40, hv⟩ := hv
    refine jp_callV mX10_is [.inl (x2)] [] dX10_redefines_15 rfl cl_RX10_136 ⟨⟨by decide, by decide⟩, by decide⟩ jsn f40 (Nat.zero_le _) (Nat.zero_le _) (jM.mono (jki_k (fun r41 h42 hv => ?_)) hv)
    refine jg_if_ne (tgt := 24) dX10_redefines_18 (by decide) (fun c43 => ?_) (fun c43 => ?_)
    · replace hv := hv.1 c43
      refine jg_iload_n dX10_redefines_24 rfl (List.Mem.tail _ (List.Mem.tail _ (List.Mem.head _))) ?_
      refine jg_iload_n dX10_redefines_25 rfl (List.Mem.tail _ (List.Mem.head _)) ?_
      refine jg_icmp_ge (tgt := 70) dX10_redefines_26 (by decide) (fun c44 => ?_) (fun c44 => ?_)
      · replace hv := hv.1 c44
        refine jg_iconst (v := 0) dX10_redefines_70 (by decide) ?_
        exact jg_iret dX10_redefines_71 rfl hv
      · replace hv := hv.2 c44
        refine jg_aload_n dX10_redefines_29 rfl (List.Mem.head _) ?_
        obtain ⟨f45, hv⟩ := hv
        refine jg_getr dX10_redefines_30 fl_RX10_7 rfl jsn f45 ?_
        refine jg_iload_n dX10_redefines_33 rfl (List.Mem.tail _ (List.Mem.head _)) ?_
        obtain ⟨f46, hv⟩ := hv
        obtain ⟨f47, hv⟩ := hv
        obtain ⟨f48, hv⟩ := hv
        refine jg_iald dX10_redefines_34 f46 f47 f48 ?_
        refine jg_aload_n dX10_redefines_35 rfl (List.Mem.head _) ?_
        refine jg_getr dX10_redefines_36 fl_RX10_7 rfl jsn f45 ?_
        refine jg_iload_n dX10_redefines_39 rfl (List.Mem.tail _ (List.Mem.tail _ (List.Mem.head _))) ?_
        obtain ⟨f49, hv⟩ := hv
        refine jg_iald dX10_redefines_40 f46 f47 f49 ?_
        refine jg_icmp_ne (tgt := 70) dX10_redefines_41 (by decide) (fun c50 => ?_) (fun c50 => ?_)
        · replace hv := hv.1 c50
          refine jg_iconst (v := 0) dX10_redefines_70 (by decide) ?_
          exact jg_iret dX10_redefines_71 rfl hv
        · replace hv := hv.2 c50
          refine jg_aload_n dX10_redefines_44 rfl (List.Mem.head _) ?_
          refine jg_getr dX10_redefines_45 fl_RX10_7 rfl jsn f45 ?_
          refine jg_iload_n dX10_redefines_48 rfl (List.Mem.tail _ (List.Mem.head _)) ?_
          refine jg_iald dX10_redefines_49 f46 f47 f48 ?_
          refine jg_bipush (v := 49) dX10_redefines_50 (by decide) ?_
          refine jg_icmp_gt (tgt := 70) dX10_redefines_52 (by decide) (fun c51 => ?_) (fun c51 => ?_)
          · replace hv := hv.1 c51
            refine jg_iconst (v := 0) dX10_redefines_70 (by decide) ?_
            exact jg_iret dX10_redefines_71 rfl hv
          · replace hv := hv.2 c51
            refine jg_aload_n dX10_redefines_55 rfl (List.Mem.head _) ?_
            refine jg_getr dX10_redefines_56 fl_RX10_19 rfl jsn f45 ?_
            refine jg_iload_n dX10_redefines_59 rfl (List.Mem.tail _ (List.Mem.head _)) ?_
            obtain ⟨f52, hv⟩ := hv
            obtain ⟨f53, hv⟩ := hv
            obtain ⟨f54, hv⟩ := hv
            refine jg_iald dX10_redefines_60 f52 f53 f54 ?_
            refine jg_aload_n dX10_redefines_61 rfl (List.Mem.head _) ?_
            refine jg_getr dX10_redefines_62 fl_RX10_19 rfl jsn f45 ?_
            refine jg_iload_n dX10_redefines_65 rfl (List.Mem.tail _ (List.Mem.tail _ (List.Mem.head _))) ?_
            obtain ⟨f55, hv⟩ := hv
            refine jg_iald dX10_redefines_66 f52 f53 f55 ?_
            refine jg_icmp_eq (tgt := 72) dX10_redefines_67 (by decide) (fun c56 => ?_) (fun c56 => ?_)
            · replace hv := hv.1 c56
              refine jg_aload_n dX10_redefines_72 rfl (List.Mem.head _) ?_
              refine jg_getr dX10_redefines_73 fl_RX10_56 rfl jsn f45 ?_
              refine jg_iload_n dX10_redefines_76 rfl (List.Mem.tail _ (List.Mem.head _)) ?_
              obtain ⟨f57, hv⟩ := hv
              obtain ⟨f58, hv⟩ := hv
              obtain ⟨f59, hv⟩ := hv
              refine jg_iald dX10_redefines_77 f57 f58 f59 ?_
              refine jg_if_gt (tgt := 127) dX10_redefines_78 (by decide) (fun c60 => ?_) (fun c60 => ?_)
              · replace hv := hv.1 c60
                refine jg_iconst (v := 0) dX10_redefines_127 (by decide) ?_
                exact jg_iret dX10_redefines_128 rfl hv
              · replace hv := hv.2 c60
                refine jg_aload_n dX10_redefines_81 rfl (List.Mem.head _) ?_
                refine jg_getr dX10_redefines_82 fl_RX10_56 rfl jsn f45 ?_
                refine jg_iload_n dX10_redefines_85 rfl (List.Mem.tail _ (List.Mem.tail _ (List.Mem.head _))) ?_
                obtain ⟨f61, hv⟩ := hv
                refine jg_iald dX10_redefines_86 f57 f58 f61 ?_
                refine jg_if_gt (tgt := 127) dX10_redefines_87 (by decide) (fun c62 => ?_) (fun c62 => ?_)
                · replace hv := hv.1 c62
                  refine jg_iconst (v := 0) dX10_redefines_127 (by decide) ?_
                  exact jg_iret dX10_redefines_128 rfl hv
                · replace hv := hv.2 c62
                  refine jg_aload_n dX10_redefines_90 rfl (List.Mem.head _) ?_
                  refine jg_getr dX10_redefines_91 fl_RX10_25 rfl jsn f45 ?_
                  refine jg_iload_n dX10_redefines_94 rfl (List.Mem.tail _ (List.Mem.tail _ (List.Mem.head _))) ?_
                  obtain ⟨f63, hv⟩ := hv
                  obtain ⟨f64, hv⟩ := hv
                  obtain ⟨f65, hv⟩ := hv
                  refine jg_iald dX10_redefines_95 f63 f64 f65 ?_
                  refine jg_if_gt (tgt := 127) dX10_redefines_96 (by decide) (fun c66 => ?_) (fun c66 => ?_)
                  · replace hv := hv.1 c66
                    refine jg_iconst (v := 0) dX10_redefines_127 (by decide) ?_
                    exact jg_iret dX10_redefines_128 rfl hv
                  · replace hv := hv.2 c66
                    refine jg_aload_n dX10_redefines_99 rfl (List.Mem.head _) ?_
                    refine jg_getr dX10_redefines_100 fl_RX10_59 rfl jsn f45 ?_
                    refine jg_iload_n dX10_redefines_103 rfl (List.Mem.tail _ (List.Mem.head _)) ?_
                    obtain ⟨f67, hv⟩ := hv
                    obtain ⟨f68, hv⟩ := hv
                    obtain ⟨f69, hv⟩ := hv
                    refine jg_iald dX10_redefines_104 f67 f68 f69 ?_
                    refine jg_iconst (v := (-1)) dX10_redefines_105 (by decide) ?_
                    refine jg_icmp_ne (tgt := 127) dX10_redefines_106 (by decide) (fun c70 => ?_) (fun c70 => ?_)
                    · replace hv := hv.1 c70
                      refine jg_iconst (v := 0) dX10_redefines_127 (by decide) ?_
                      exact jg_iret dX10_redefines_128 rfl hv
                    · replace hv := hv.2 c70
                      refine jg_aload_n dX10_redefines_109 rfl (List.Mem.head _) ?_
                      refine jg_getr dX10_redefines_110 fl_RX10_59 rfl jsn f45 ?_
                      refine jg_iload_n dX10_redefines_113 rfl (List.Mem.tail _ (List.Mem.tail _ (List.Mem.head _))) ?_
                      obtain ⟨f71, hv⟩ := hv
                      refine jg_iald dX10_redefines_114 f67 f68 f71 ?_
                      refine jg_iconst (v := (-1)) dX10_redefines_115 (by decide) ?_
                      refine jg_icmp_ne (tgt := 127) dX10_redefines_116 (by decide) (fun c72 => ?_) (fun c72 => ?_)
                      · replace hv := hv.1 c72
                        refine jg_iconst (v := 0) dX10_redefines_127 (by decide) ?_
                        exact jg_iret dX10_redefines_128 rfl hv
                      · replace hv := hv.2 c72
                        refine jg_aload_n dX10_redefines_119 rfl (List.Mem.head _) ?_
                        refine jg_iload_n dX10_redefines_120 rfl (List.Mem.tail _ (List.Mem.head _)) ?_
                        refine jp_callV mX10_isRedefined [.inl (x1)] [] dX10_redefines_121 rfl cl_RX10_124 ⟨⟨by decide, by decide⟩, by decide⟩ jsn f45 (Nat.zero_le _) (Nat.zero_le _) (jM.mono (jki_k (fun r73 h74 hv => ?_)) hv)
                        refine jg_if_eq (tgt := 129) dX10_redefines_124 (by decide) (fun c75 => ?_) (fun c75 => ?_)
                        · replace hv := hv.1 c75
                          refine jg_iload_n dX10_redefines_129 rfl (List.Mem.tail _ (List.Mem.tail _ (List.Mem.head _))) ?_
                          refine jg_iconst (v := 1) dX10_redefines_130 (by decide) ?_
                          refine jg_iadd dX10_redefines_131 ?_
                          refine jg_istore_n (lv' := [(3, .inl ((x2) + (1))), (0, .inr (.inr (some (a0)))), (1, .inl (x1)), (2, .inl (x2))]) dX10_redefines_132 rfl (by decide) rfl ?_
                          refine jG.sub (lv' := [(0, .inr (.inr (some (a0)))), (1, .inl (x1)), (2, .inl (x2)), (3, .inl ((x2) + (1)))]) (by simp) ?_
                          exact hv
                        · replace hv := hv.2 c75
                          refine jg_iconst (v := 0) dX10_redefines_127 (by decide) ?_
                          exact jg_iret dX10_redefines_128 rfl hv
            · replace hv := hv.2 c56
              refine jg_iconst (v := 0) dX10_redefines_70 (by decide) ?_
              exact jg_iret dX10_redefines_71 rfl hv
    · replace hv := hv.2 c43
      refine jg_bipush (v := (-2)) dX10_redefines_21 (by decide) ?_
      exact jg_iret dX10_redefines_23 rfl hv
theorem eX10_redefines {g : jg} {a0 : Nat} {x1 : Int32} {x2 : Int32} {h : jh} {mc ms : Nat} {Q : jq} (hv : VX10_redefines_0 g a0 x1 x2 h mc ms Q) : jM g mX10_redefines [.inr (.inr (some (a0))), .inl (x1), .inl (x2)] h mc ms Q := jM.of (by decide) (Nat.le_of_ble_eq_true rfl) (lv := [(0, .inr (.inr (some (a0)))), (1, .inl (x1)), (2, .inl (x2))]) rfl (vX10_redefines_0 hv)
theorem dX10_external_0 : decode cX10_external 0 = .ok (.aload_n 0, 1) := by decide +kernel
theorem dX10_external_1 : decode cX10_external 1 = .ok (.iconst 0, 1) := by decide +kernel
theorem dX10_external_2 : decode cX10_external 2 = .ok (.putfield 98, 3) := by decide +kernel
theorem dX10_external_5 : decode cX10_external 5 = .ok (.aload_n 0, 1) := by decide +kernel
theorem dX10_external_6 : decode cX10_external 6 = .ok (.iload_n 1, 1) := by decide +kernel
theorem dX10_external_7 : decode cX10_external 7 = .ok (.invokevirtual 136, 3) := by decide +kernel
theorem dX10_external_10 : decode cX10_external 10 = .ok (.ifCond .ne 6, 3) := by decide +kernel
theorem dX10_external_13 : decode cX10_external 13 = .ok (.bipush (-2), 2) := by decide +kernel
theorem dX10_external_15 : decode cX10_external 15 = .ok (.ireturn, 1) := by decide +kernel
theorem dX10_external_16 : decode cX10_external 16 = .ok (.iload_n 2, 1) := by decide +kernel
theorem dX10_external_17 : decode cX10_external 17 = .ok (.ifCond .lt 9, 3) := by decide +kernel
theorem dX10_external_20 : decode cX10_external 20 = .ok (.iload_n 2, 1) := by decide +kernel
theorem dX10_external_21 : decode cX10_external 21 = .ok (.bipush 99, 2) := by decide +kernel
theorem dX10_external_23 : decode cX10_external 23 = .ok (.if_icmp .le 6, 3) := by decide +kernel
theorem dX10_external_26 : decode cX10_external 26 = .ok (.bipush (-4), 2) := by decide +kernel
theorem dX10_external_28 : decode cX10_external 28 = .ok (.ireturn, 1) := by decide +kernel
theorem dX10_external_29 : decode cX10_external 29 = .ok (.aload_n 0, 1) := by decide +kernel
theorem dX10_external_30 : decode cX10_external 30 = .ok (.getfield 7, 3) := by decide +kernel
theorem dX10_external_33 : decode cX10_external 33 = .ok (.iload_n 1, 1) := by decide +kernel
theorem dX10_external_34 : decode cX10_external 34 = .ok (.iaload, 1) := by decide +kernel
theorem dX10_external_35 : decode cX10_external 35 = .ok (.iconst 1, 1) := by decide +kernel
theorem dX10_external_36 : decode cX10_external 36 = .ok (.if_icmp .ne 30, 3) := by decide +kernel
theorem dX10_external_39 : decode cX10_external 39 = .ok (.aload_n 0, 1) := by decide +kernel
theorem dX10_external_40 : decode cX10_external 40 = .ok (.getfield 59, 3) := by decide +kernel
theorem dX10_external_43 : decode cX10_external 43 = .ok (.iload_n 1, 1) := by decide +kernel
theorem dX10_external_44 : decode cX10_external 44 = .ok (.iaload, 1) := by decide +kernel
theorem dX10_external_45 : decode cX10_external 45 = .ok (.iconst (-1), 1) := by decide +kernel
theorem dX10_external_46 : decode cX10_external 46 = .ok (.if_icmp .ne 20, 3) := by decide +kernel
theorem dX10_external_49 : decode cX10_external 49 = .ok (.aload_n 0, 1) := by decide +kernel
theorem dX10_external_50 : decode cX10_external 50 = .ok (.getfield 56, 3) := by decide +kernel
theorem dX10_external_53 : decode cX10_external 53 = .ok (.iload_n 1, 1) := by decide +kernel
theorem dX10_external_54 : decode cX10_external 54 = .ok (.iaload, 1) := by decide +kernel
theorem dX10_external_55 : decode cX10_external 55 = .ok (.ifCond .gt 11, 3) := by decide +kernel
theorem dX10_external_58 : decode cX10_external 58 = .ok (.aload_n 0, 1) := by decide +kernel
theorem dX10_external_59 : decode cX10_external 59 = .ok (.iload_n 1, 1) := by decide +kernel
theorem dX10_external_60 : decode cX10_external 60 = .ok (.invokevirtual 124, 3) := by decide +kernel
theorem dX10_external_63 : decode cX10_external 63 = .ok (.ifCond .eq 5, 3) := by decide +kernel
theorem dX10_external_66 : decode cX10_external 66 = .ok (.iconst 0, 1) := by decide +kernel
theorem dX10_external_67 : decode cX10_external 67 = .ok (.ireturn, 1) := by decide +kernel
theorem dX10_external_68 : decode cX10_external 68 = .ok (.aload_n 0, 1) := by decide +kernel
theorem dX10_external_69 : decode cX10_external 69 = .ok (.getfield 59, 3) := by decide +kernel
theorem dX10_external_72 : decode cX10_external 72 = .ok (.iload_n 1, 1) := by decide +kernel
theorem dX10_external_73 : decode cX10_external 73 = .ok (.iload_n 2, 1) := by decide +kernel
theorem dX10_external_74 : decode cX10_external 74 = .ok (.iastore, 1) := by decide +kernel
theorem dX10_external_75 : decode cX10_external 75 = .ok (.aload_n 0, 1) := by decide +kernel
theorem dX10_external_76 : decode cX10_external 76 = .ok (.iconst 0, 1) := by decide +kernel
theorem dX10_external_77 : decode cX10_external 77 = .ok (.putfield 121, 3) := by decide +kernel
theorem dX10_external_80 : decode cX10_external 80 = .ok (.iconst 1, 1) := by decide +kernel
theorem dX10_external_81 : decode cX10_external 81 = .ok (.ireturn, 1) := by decide +kernel
def VX10_external_0 (g : jg) (a0 : Nat) (x1 : Int32) (x2 : Int32) (h : jh) (k n : Nat) (Q : jq) : Prop := (jt h a0 = 9) ∧ ∀ h2 : jh, h2 = jsi h 512 a0 (0) → jM g mX10_is [.inr (.inr (some a0)), .inl (x1)] h2 0 0 (jki (fun (r4 : Int32) (h5 : jh) => ((¬ (r4) = 0 → (((x2) < 0 → Q (.inl (some (.inl ((-4))))) h5) ∧ (¬ (x2) < 0 → (((x2) ≤ (99) → (jt h5 a0 = 9) ∧ (¬ (jr h5 514 a0) = none) ∧ (jt h5 (jd (jr h5 514 a0)) = 20) ∧ (vp_in (x1) (jn h5 (jd (jr h5 514 a0)))) ∧ ((¬ (jI h5 (jd (jr h5 514 a0)) (x1 : Int32).toNatClampNeg) = (1) → Q (.inl (some (.inl (0)))) h5) ∧ ((jI h5 (jd (jr h5 514 a0)) (x1 : Int32).toNatClampNeg) = (1) → (¬ (jr h5 530 a0) = none) ∧ (jt h5 (jd (jr h5 530 a0)) = 20) ∧ (vp_in (x1) (jn h5 (jd (jr h5 530 a0)))) ∧ ((¬ (jI h5 (jd (jr h5 530 a0)) (x1 : Int32).toNatClampNeg) = ((-1)) → Q (.inl (some (.inl (0)))) h5) ∧ ((jI h5 (jd (jr h5 530 a0)) (x1 : Int32).toNatClampNeg) = ((-1)) → (¬ (jr h5 529 a0) = none) ∧ (jt h5 (jd (jr h5 529 a0)) = 20) ∧ (vp_in (x1) (jn h5 (jd (jr h5 529 a0)))) ∧ ((0 < (jI h5 (jd (jr h5 529 a0)) (x1 : Int32).toNatClampNeg) → Q (.inl (some (.inl (0)))) h5) ∧ (¬ 0 < (jI h5 (jd (jr h5 529 a0)) (x1 : Int32).toNatClampNeg) → jM g mX10_isRedefined [.inr (.inr (some a0)), .inl (x1)] h5 0 0 (jki (fun (r22 : Int32) (h23 : jh) => (((r22) = 0 → (jt h23 a0 = 9) ∧ (¬ (jr h23 530 a0) = none) ∧ (jt h23 (jd (jr h23 530 a0)) = 20) ∧ (vp_in (x1) (jn h23 (jd (jr h23 530 a0)))) ∧ ∀ h29 : jh, h29 = jsI h23 (jd (jr h23 530 a0)) (x1 : Int32).toNatClampNeg (x2) → ∀ h31 : jh, h31 = jsi h29 533 a0 (0) → Q (.inl (some (.inl (1)))) h31) ∧ (¬ (r22) = 0 → Q (.inl (some (.inl (0)))) h23))) (fun e h9 => Q (.inr e) h9))))))))) ∧ (¬ (x2) ≤ (99) → Q (.inl (some (.inl ((-4))))) h5))))) ∧ ((r4) = 0 → Q (.inl (some (.inl ((-2))))) h5))) (fun e h9 => Q (.inr e) h9))
set_option maxRecDepth 20000 in
theorem vX10_external_0 {g : jg} {a0 : Nat} {x1 : Int32} {x2 : Int32} {h : jh} {k n : Nat} {Q : jq} (hv : VX10_external_0 g a0 x1 x2 h k n Q) : jG g mX10_external 0 [(0, .inr (.inr (some (a0)))), (1, .inl (x1)), (2, .inl (x2))] [] h k n Q := by
  unfold VX10_external_0 at hv
  refine jg_aload_n dX10_external_0 rfl (List.Mem.head _) ?_
  refine jg_iconst (v := 0) dX10_external_1 (by decide) ?_
  obtain ⟨f1, hv⟩ := hv
  obtain ⟨h2, e3⟩ : ∃ z : jh, z = jsi h 512 a0 (0) := ⟨_, rfl⟩
  replace hv := hv h2 e3
  refine jp_puti dX10_external_2 (jfp.nf fl_RX10_98 (fun q hq => by cases hq; rfl)) rfl jsn f1 e3 ?_
  refine jg_aload_n dX10_external_5 rfl (List.Mem.head _) ?_
  refine jg_iload_n dX10_external_6 rfl (List.Mem.tail _ (List.Mem.head _)) ?_
  refine jp_callV mX10_is [.inl (x1)] [] dX10_external_7 rfl cl_RX10_136 ⟨⟨by decide, by decide⟩, by decide⟩ jsn ((congrArg (fun z => jt z a0) e3).trans f1) (Nat.zero_le _) (Nat.zero_le _) (jM.mono (jki_k (fun r4 h5 hv => ?_)) hv)
  refine jg_if_ne (tgt := 16) dX10_external_10 (by decide) (fun c6 => ?_) (fun c6 => ?_)
  · replace hv := hv.1 c6
    refine jg_iload_n dX10_external_16 rfl (List.Mem.tail _ (List.Mem.tail _ (List.Mem.head _))) ?_
    refine jg_if_lt (tgt := 26) dX10_external_17 (by decide) (fun c7 => ?_) (fun c7 => ?_)
    · replace hv := hv.1 c7
      refine jg_bipush (v := (-4)) dX10_external_26 (by decide) ?_
      exact jg_iret dX10_external_28 rfl hv
    · replace hv := hv.2 c7
      refine jg_iload_n dX10_external_20 rfl (List.Mem.tail _ (List.Mem.tail _ (List.Mem.head _))) ?_
      refine jg_bipush (v := 99) dX10_external_21 (by decide) ?_
      refine jg_icmp_le (tgt := 29) dX10_external_23 (by decide) (fun c8 => ?_) (fun c8 => ?_)
      · replace hv := hv.1 c8
        refine jg_aload_n dX10_external_29 rfl (List.Mem.head _) ?_
        obtain ⟨f9, hv⟩ := hv
        refine jg_getr dX10_external_30 fl_RX10_7 rfl jsn f9 ?_
        refine jg_iload_n dX10_external_33 rfl (List.Mem.tail _ (List.Mem.head _)) ?_
        obtain ⟨f10, hv⟩ := hv
        obtain ⟨f11, hv⟩ := hv
        obtain ⟨f12, hv⟩ := hv
        refine jg_iald dX10_external_34 f10 f11 f12 ?_
        refine jg_iconst (v := 1) dX10_external_35 (by decide) ?_
        refine jg_icmp_ne (tgt := 66) dX10_external_36 (by decide) (fun c13 => ?_) (fun c13 => ?_)
        · replace hv := hv.1 c13
          refine jg_iconst (v := 0) dX10_external_66 (by decide) ?_
          exact jg_iret dX10_external_67 rfl hv
        · replace hv := hv.2 c13
          refine jg_aload_n dX10_external_39 rfl (List.Mem.head _) ?_
          refine jg_getr dX10_external_40 fl_RX10_59 rfl jsn f9 ?_
          refine jg_iload_n dX10_external_43 rfl (List.Mem.tail _ (List.Mem.head _)) ?_
          obtain ⟨f14, hv⟩ := hv
          obtain ⟨f15, hv⟩ := hv
          obtain ⟨f16, hv⟩ := hv
          refine jg_iald dX10_external_44 f14 f15 f16 ?_
          refine jg_iconst (v := (-1)) dX10_external_45 (by decide) ?_
          refine jg_icmp_ne (tgt := 66) dX10_external_46 (by decide) (fun c17 => ?_) (fun c17 => ?_)
          · replace hv := hv.1 c17
            refine jg_iconst (v := 0) dX10_external_66 (by decide) ?_
            exact jg_iret dX10_external_67 rfl hv
          · replace hv := hv.2 c17
            refine jg_aload_n dX10_external_49 rfl (List.Mem.head _) ?_
            refine jg_getr dX10_external_50 fl_RX10_56 rfl jsn f9 ?_
            refine jg_iload_n dX10_external_53 rfl (List.Mem.tail _ (List.Mem.head _)) ?_
            obtain ⟨f18, hv⟩ := hv
            obtain ⟨f19, hv⟩ := hv
            obtain ⟨f20, hv⟩ := hv
            refine jg_iald dX10_external_54 f18 f19 f20 ?_
            refine jg_if_gt (tgt := 66) dX10_external_55 (by decide) (fun c21 => ?_) (fun c21 => ?_)
            · replace hv := hv.1 c21
              refine jg_iconst (v := 0) dX10_external_66 (by decide) ?_
              exact jg_iret dX10_external_67 rfl hv
            · replace hv := hv.2 c21
              refine jg_aload_n dX10_external_58 rfl (List.Mem.head _) ?_
              refine jg_iload_n dX10_external_59 rfl (List.Mem.tail _ (List.Mem.head _)) ?_
              refine jp_callV mX10_isRedefined [.inl (x1)] [] dX10_external_60 rfl cl_RX10_124 ⟨⟨by decide, by decide⟩, by decide⟩ jsn f9 (Nat.zero_le _) (Nat.zero_le _) (jM.mono (jki_k (fun r22 h23 hv => ?_)) hv)
              refine jg_if_eq (tgt := 68) dX10_external_63 (by decide) (fun c24 => ?_) (fun c24 => ?_)
              · replace hv := hv.1 c24
                refine jg_aload_n dX10_external_68 rfl (List.Mem.head _) ?_
                obtain ⟨f25, hv⟩ := hv
                refine jg_getr dX10_external_69 fl_RX10_59 rfl jsn f25 ?_
                refine jg_iload_n dX10_external_72 rfl (List.Mem.tail _ (List.Mem.head _)) ?_
                refine jg_iload_n dX10_external_73 rfl (List.Mem.tail _ (List.Mem.tail _ (List.Mem.head _))) ?_
                obtain ⟨f26, hv⟩ := hv
                obtain ⟨f27, hv⟩ := hv
                obtain ⟨f28, hv⟩ := hv
                obtain ⟨h29, e30⟩ : ∃ z : jh, z = jsI h23 (jd (jr h23 530 a0)) (x1 : Int32).toNatClampNeg (x2) := ⟨_, rfl⟩
                replace hv := hv h29 e30
                refine jp_iast dX10_external_74 f26 f27 f28 e30 ?_
                refine jg_aload_n dX10_external_75 rfl (List.Mem.head _) ?_
                refine jg_iconst (v := 0) dX10_external_76 (by decide) ?_
                obtain ⟨h31, e32⟩ : ∃ z : jh, z = jsi h29 533 a0 (0) := ⟨_, rfl⟩
                replace hv := hv h31 e32
                refine jp_putz dX10_external_77 (jfp.nf fl_RX10_121 (fun q hq => by cases hq; rfl)) rfl jsn ((congrArg (fun z => jt z a0) e30).trans f25) (by decide) e32 ?_
                refine jg_iconst (v := 1) dX10_external_80 (by decide) ?_
                exact jg_iret dX10_external_81 rfl hv
              · replace hv := hv.2 c24
                refine jg_iconst (v := 0) dX10_external_66 (by decide) ?_
                exact jg_iret dX10_external_67 rfl hv
      · replace hv := hv.2 c8
        refine jg_bipush (v := (-4)) dX10_external_26 (by decide) ?_
        exact jg_iret dX10_external_28 rfl hv
  · replace hv := hv.2 c6
    refine jg_bipush (v := (-2)) dX10_external_13 (by decide) ?_
    exact jg_iret dX10_external_15 rfl hv
theorem eX10_external {g : jg} {a0 : Nat} {x1 : Int32} {x2 : Int32} {h : jh} {mc ms : Nat} {Q : jq} (hv : VX10_external_0 g a0 x1 x2 h mc ms Q) : jM g mX10_external [.inr (.inr (some (a0))), .inl (x1), .inl (x2)] h mc ms Q := jM.of (by decide) (Nat.le_of_ble_eq_true rfl) (lv := [(0, .inr (.inr (some (a0)))), (1, .inl (x1)), (2, .inl (x2))]) rfl (vX10_external_0 hv)
theorem dX10_depending_0 : decode cX10_depending 0 = .ok (.aload_n 0, 1) := by decide +kernel
theorem dX10_depending_1 : decode cX10_depending 1 = .ok (.iconst 0, 1) := by decide +kernel
theorem dX10_depending_2 : decode cX10_depending 2 = .ok (.putfield 98, 3) := by decide +kernel
theorem dX10_depending_5 : decode cX10_depending 5 = .ok (.aload_n 0, 1) := by decide +kernel
theorem dX10_depending_6 : decode cX10_depending 6 = .ok (.iload_n 1, 1) := by decide +kernel
theorem dX10_depending_7 : decode cX10_depending 7 = .ok (.invokevirtual 136, 3) := by decide +kernel
theorem dX10_depending_10 : decode cX10_depending 10 = .ok (.ifCond .ne 6, 3) := by decide +kernel
theorem dX10_depending_13 : decode cX10_depending 13 = .ok (.bipush (-2), 2) := by decide +kernel
theorem dX10_depending_15 : decode cX10_depending 15 = .ok (.ireturn, 1) := by decide +kernel
theorem dX10_depending_16 : decode cX10_depending 16 = .ok (.aload_n 0, 1) := by decide +kernel
theorem dX10_depending_17 : decode cX10_depending 17 = .ok (.getfield 25, 3) := by decide +kernel
theorem dX10_depending_20 : decode cX10_depending 20 = .ok (.iload_n 1, 1) := by decide +kernel
theorem dX10_depending_21 : decode cX10_depending 21 = .ok (.iaload, 1) := by decide +kernel
theorem dX10_depending_22 : decode cX10_depending 22 = .ok (.iconst 2, 1) := by decide +kernel
theorem dX10_depending_23 : decode cX10_depending 23 = .ok (.if_icmp .eq 6, 3) := by decide +kernel
theorem dX10_depending_26 : decode cX10_depending 26 = .ok (.bipush (-4), 2) := by decide +kernel
theorem dX10_depending_28 : decode cX10_depending 28 = .ok (.ireturn, 1) := by decide +kernel
theorem dX10_depending_29 : decode cX10_depending 29 = .ok (.iload_n 2, 1) := by decide +kernel
theorem dX10_depending_30 : decode cX10_depending 30 = .ok (.aload_n 0, 1) := by decide +kernel
theorem dX10_depending_31 : decode cX10_depending 31 = .ok (.getfield 28, 3) := by decide +kernel
theorem dX10_depending_34 : decode cX10_depending 34 = .ok (.iload_n 1, 1) := by decide +kernel
theorem dX10_depending_35 : decode cX10_depending 35 = .ok (.iaload, 1) := by decide +kernel
theorem dX10_depending_36 : decode cX10_depending 36 = .ok (.if_icmp .lt 13, 3) := by decide +kernel
theorem dX10_depending_39 : decode cX10_depending 39 = .ok (.iload_n 2, 1) := by decide +kernel
theorem dX10_depending_40 : decode cX10_depending 40 = .ok (.aload_n 0, 1) := by decide +kernel
theorem dX10_depending_41 : decode cX10_depending 41 = .ok (.getfield 31, 3) := by decide +kernel
theorem dX10_depending_44 : decode cX10_depending 44 = .ok (.iload_n 1, 1) := by decide +kernel
theorem dX10_depending_45 : decode cX10_depending 45 = .ok (.iaload, 1) := by decide +kernel
theorem dX10_depending_46 : decode cX10_depending 46 = .ok (.if_icmp .le 5, 3) := by decide +kernel
theorem dX10_depending_49 : decode cX10_depending 49 = .ok (.iconst 0, 1) := by decide +kernel
theorem dX10_depending_50 : decode cX10_depending 50 = .ok (.ireturn, 1) := by decide +kernel
theorem dX10_depending_51 : decode cX10_depending 51 = .ok (.aload_n 0, 1) := by decide +kernel
theorem dX10_depending_52 : decode cX10_depending 52 = .ok (.getfield 34, 3) := by decide +kernel
theorem dX10_depending_55 : decode cX10_depending 55 = .ok (.iload_n 1, 1) := by decide +kernel
theorem dX10_depending_56 : decode cX10_depending 56 = .ok (.iload_n 2, 1) := by decide +kernel
theorem dX10_depending_57 : decode cX10_depending 57 = .ok (.iastore, 1) := by decide +kernel
theorem dX10_depending_58 : decode cX10_depending 58 = .ok (.iconst 1, 1) := by decide +kernel
theorem dX10_depending_59 : decode cX10_depending 59 = .ok (.ireturn, 1) := by decide +kernel
def VX10_depending_0 (g : jg) (a0 : Nat) (x1 : Int32) (x2 : Int32) (h : jh) (k n : Nat) (Q : jq) : Prop := (jt h a0 = 9) ∧ ∀ h2 : jh, h2 = jsi h 512 a0 (0) → jM g mX10_is [.inr (.inr (some a0)), .inl (x1)] h2 0 0 (jki (fun (r4 : Int32) (h5 : jh) => ((¬ (r4) = 0 → (jt h5 a0 = 9) ∧ (¬ (jr h5 519 a0) = none) ∧ (jt h5 (jd (jr h5 519 a0)) = 20) ∧ (vp_in (x1) (jn h5 (jd (jr h5 519 a0)))) ∧ (((jI h5 (jd (jr h5 519 a0)) (x1 : Int32).toNatClampNeg) = (2) → (¬ (jr h5 520 a0) = none) ∧ (jt h5 (jd (jr h5 520 a0)) = 20) ∧ (vp_in (x1) (jn h5 (jd (jr h5 520 a0)))) ∧ (((x2) < (jI h5 (jd (jr h5 520 a0)) (x1 : Int32).toNatClampNeg) → Q (.inl (some (.inl (0)))) h5) ∧ (¬ (x2) < (jI h5 (jd (jr h5 520 a0)) (x1 : Int32).toNatClampNeg) → (¬ (jr h5 521 a0) = none) ∧ (jt h5 (jd (jr h5 521 a0)) = 20) ∧ (vp_in (x1) (jn h5 (jd (jr h5 521 a0)))) ∧ (((x2) ≤ (jI h5 (jd (jr h5 521 a0)) (x1 : Int32).toNatClampNeg) → (¬ (jr h5 522 a0) = none) ∧ (jt h5 (jd (jr h5 522 a0)) = 20) ∧ (vp_in (x1) (jn h5 (jd (jr h5 522 a0)))) ∧ ∀ h23 : jh, h23 = jsI h5 (jd (jr h5 522 a0)) (x1 : Int32).toNatClampNeg (x2) → Q (.inl (some (.inl (1)))) h23) ∧ (¬ (x2) ≤ (jI h5 (jd (jr h5 521 a0)) (x1 : Int32).toNatClampNeg) → Q (.inl (some (.inl (0)))) h5))))) ∧ (¬ (jI h5 (jd (jr h5 519 a0)) (x1 : Int32).toNatClampNeg) = (2) → Q (.inl (some (.inl ((-4))))) h5))) ∧ ((r4) = 0 → Q (.inl (some (.inl ((-2))))) h5))) (fun e h9 => Q (.inr e) h9))
set_option maxRecDepth 20000 in
theorem vX10_depending_0 {g : jg} {a0 : Nat} {x1 : Int32} {x2 : Int32} {h : jh} {k n : Nat} {Q : jq} (hv : VX10_depending_0 g a0 x1 x2 h k n Q) : jG g mX10_depending 0 [(0, .inr (.inr (some (a0)))), (1, .inl (x1)), (2, .inl (x2))] [] h k n Q := by
  unfold VX10_depending_0 at hv
  refine jg_aload_n dX10_depending_0 rfl (List.Mem.head _) ?_
  refine jg_iconst (v := 0) dX10_depending_1 (by decide) ?_
  obtain ⟨f1, hv⟩ := hv
  obtain ⟨h2, e3⟩ : ∃ z : jh, z = jsi h 512 a0 (0) := ⟨_, rfl⟩
  replace hv := hv h2 e3
  refine jp_puti dX10_depending_2 (jfp.nf fl_RX10_98 (fun q hq => by cases hq; rfl)) rfl jsn f1 e3 ?_
  refine jg_aload_n dX10_depending_5 rfl (List.Mem.head _) ?_
  refine jg_iload_n dX10_depending_6 rfl (List.Mem.tail _ (List.Mem.head _)) ?_
  refine jp_callV mX10_is [.inl (x1)] [] dX10_depending_7 rfl cl_RX10_136 ⟨⟨by decide, by decide⟩, by decide⟩ jsn ((congrArg (fun z => jt z a0) e3).trans f1) (Nat.zero_le _) (Nat.zero_le _) (jM.mono (jki_k (fun r4 h5 hv => ?_)) hv)
  refine jg_if_ne (tgt := 16) dX10_depending_10 (by decide) (fun c6 => ?_) (fun c6 => ?_)
  · replace hv := hv.1 c6
    refine jg_aload_n dX10_depending_16 rfl (List.Mem.head _) ?_
    obtain ⟨f7, hv⟩ := hv
    refine jg_getr dX10_depending_17 fl_RX10_25 rfl jsn f7 ?_
    refine jg_iload_n dX10_depending_20 rfl (List.Mem.tail _ (List.Mem.head _)) ?_
    obtain ⟨f8, hv⟩ := hv
    obtain ⟨f9, hv⟩ := hv
    obtain ⟨f10, hv⟩ := hv
    refine jg_iald dX10_depending_21 f8 f9 f10 ?_
    refine jg_iconst (v := 2) dX10_depending_22 (by decide) ?_
    refine jg_icmp_eq (tgt := 29) dX10_depending_23 (by decide) (fun c11 => ?_) (fun c11 => ?_)
    · replace hv := hv.1 c11
      refine jg_iload_n dX10_depending_29 rfl (List.Mem.tail _ (List.Mem.tail _ (List.Mem.head _))) ?_
      refine jg_aload_n dX10_depending_30 rfl (List.Mem.head _) ?_
      refine jg_getr dX10_depending_31 fl_RX10_28 rfl jsn f7 ?_
      refine jg_iload_n dX10_depending_34 rfl (List.Mem.tail _ (List.Mem.head _)) ?_
      obtain ⟨f12, hv⟩ := hv
      obtain ⟨f13, hv⟩ := hv
      obtain ⟨f14, hv⟩ := hv
      refine jg_iald dX10_depending_35 f12 f13 f14 ?_
      refine jg_icmp_lt (tgt := 49) dX10_depending_36 (by decide) (fun c15 => ?_) (fun c15 => ?_)
      · replace hv := hv.1 c15
        refine jg_iconst (v := 0) dX10_depending_49 (by decide) ?_
        exact jg_iret dX10_depending_50 rfl hv
      · replace hv := hv.2 c15
        refine jg_iload_n dX10_depending_39 rfl (List.Mem.tail _ (List.Mem.tail _ (List.Mem.head _))) ?_
        refine jg_aload_n dX10_depending_40 rfl (List.Mem.head _) ?_
        refine jg_getr dX10_depending_41 fl_RX10_31 rfl jsn f7 ?_
        refine jg_iload_n dX10_depending_44 rfl (List.Mem.tail _ (List.Mem.head _)) ?_
        obtain ⟨f16, hv⟩ := hv
        obtain ⟨f17, hv⟩ := hv
        obtain ⟨f18, hv⟩ := hv
        refine jg_iald dX10_depending_45 f16 f17 f18 ?_
        refine jg_icmp_le (tgt := 51) dX10_depending_46 (by decide) (fun c19 => ?_) (fun c19 => ?_)
        · replace hv := hv.1 c19
          refine jg_aload_n dX10_depending_51 rfl (List.Mem.head _) ?_
          refine jg_getr dX10_depending_52 fl_RX10_34 rfl jsn f7 ?_
          refine jg_iload_n dX10_depending_55 rfl (List.Mem.tail _ (List.Mem.head _)) ?_
          refine jg_iload_n dX10_depending_56 rfl (List.Mem.tail _ (List.Mem.tail _ (List.Mem.head _))) ?_
          obtain ⟨f20, hv⟩ := hv
          obtain ⟨f21, hv⟩ := hv
          obtain ⟨f22, hv⟩ := hv
          obtain ⟨h23, e24⟩ : ∃ z : jh, z = jsI h5 (jd (jr h5 522 a0)) (x1 : Int32).toNatClampNeg (x2) := ⟨_, rfl⟩
          replace hv := hv h23 e24
          refine jp_iast dX10_depending_57 f20 f21 f22 e24 ?_
          refine jg_iconst (v := 1) dX10_depending_58 (by decide) ?_
          exact jg_iret dX10_depending_59 rfl hv
        · replace hv := hv.2 c19
          refine jg_iconst (v := 0) dX10_depending_49 (by decide) ?_
          exact jg_iret dX10_depending_50 rfl hv
    · replace hv := hv.2 c11
      refine jg_bipush (v := (-4)) dX10_depending_26 (by decide) ?_
      exact jg_iret dX10_depending_28 rfl hv
  · replace hv := hv.2 c6
    refine jg_bipush (v := (-2)) dX10_depending_13 (by decide) ?_
    exact jg_iret dX10_depending_15 rfl hv
theorem eX10_depending {g : jg} {a0 : Nat} {x1 : Int32} {x2 : Int32} {h : jh} {mc ms : Nat} {Q : jq} (hv : VX10_depending_0 g a0 x1 x2 h mc ms Q) : jM g mX10_depending [.inr (.inr (some (a0))), .inl (x1), .inl (x2)] h mc ms Q := jM.of (by decide) (Nat.le_of_ble_eq_true rfl) (lv := [(0, .inr (.inr (some (a0)))), (1, .inl (x1)), (2, .inl (x2))]) rfl (vX10_depending_0 hv)
theorem dX10_bytesOf_0 : decode cX10_bytesOf 0 = .ok (.aload_n 0, 1) := by decide +kernel
theorem dX10_bytesOf_1 : decode cX10_bytesOf 1 = .ok (.getfield 16, 3) := by decide +kernel
theorem dX10_bytesOf_4 : decode cX10_bytesOf 4 = .ok (.iload_n 1, 1) := by decide +kernel
theorem dX10_bytesOf_5 : decode cX10_bytesOf 5 = .ok (.iaload, 1) := by decide +kernel
theorem dX10_bytesOf_6 : decode cX10_bytesOf 6 = .ok (.istore_n 2, 1) := by decide +kernel
theorem dX10_bytesOf_7 : decode cX10_bytesOf 7 = .ok (.aload_n 0, 1) := by decide +kernel
theorem dX10_bytesOf_8 : decode cX10_bytesOf 8 = .ok (.getfield 13, 3) := by decide +kernel
theorem dX10_bytesOf_11 : decode cX10_bytesOf 11 = .ok (.iload_n 1, 1) := by decide +kernel
theorem dX10_bytesOf_12 : decode cX10_bytesOf 12 = .ok (.iaload, 1) := by decide +kernel
theorem dX10_bytesOf_13 : decode cX10_bytesOf 13 = .ok (.tableswitch 102 1 11 #[59, 61, 59, 59, 65, 65, 69, 75, 97, 99, 97], 59) := by decide +kernel
theorem dX10_bytesOf_72 : decode cX10_bytesOf 72 = .ok (.iload_n 2, 1) := by decide +kernel
theorem dX10_bytesOf_73 : decode cX10_bytesOf 73 = .ok (.ireturn, 1) := by decide +kernel
theorem dX10_bytesOf_74 : decode cX10_bytesOf 74 = .ok (.iconst 2, 1) := by decide +kernel
theorem dX10_bytesOf_75 : decode cX10_bytesOf 75 = .ok (.iload_n 2, 1) := by decide +kernel
theorem dX10_bytesOf_76 : decode cX10_bytesOf 76 = .ok (.imul, 1) := by decide +kernel
theorem dX10_bytesOf_77 : decode cX10_bytesOf 77 = .ok (.ireturn, 1) := by decide +kernel
theorem dX10_bytesOf_78 : decode cX10_bytesOf 78 = .ok (.iload_n 2, 1) := by decide +kernel
theorem dX10_bytesOf_79 : decode cX10_bytesOf 79 = .ok (.iconst 1, 1) := by decide +kernel
theorem dX10_bytesOf_80 : decode cX10_bytesOf 80 = .ok (.iadd, 1) := by decide +kernel
theorem dX10_bytesOf_81 : decode cX10_bytesOf 81 = .ok (.ireturn, 1) := by decide +kernel
theorem dX10_bytesOf_82 : decode cX10_bytesOf 82 = .ok (.iload_n 2, 1) := by decide +kernel
theorem dX10_bytesOf_83 : decode cX10_bytesOf 83 = .ok (.iconst 2, 1) := by decide +kernel
theorem dX10_bytesOf_84 : decode cX10_bytesOf 84 = .ok (.idiv, 1) := by decide +kernel
theorem dX10_bytesOf_85 : decode cX10_bytesOf 85 = .ok (.iconst 1, 1) := by decide +kernel
theorem dX10_bytesOf_86 : decode cX10_bytesOf 86 = .ok (.iadd, 1) := by decide +kernel
theorem dX10_bytesOf_87 : decode cX10_bytesOf 87 = .ok (.ireturn, 1) := by decide +kernel
theorem dX10_bytesOf_88 : decode cX10_bytesOf 88 = .ok (.iload_n 2, 1) := by decide +kernel
theorem dX10_bytesOf_89 : decode cX10_bytesOf 89 = .ok (.iconst 5, 1) := by decide +kernel
theorem dX10_bytesOf_90 : decode cX10_bytesOf 90 = .ok (.if_icmp .ge 7, 3) := by decide +kernel
theorem dX10_bytesOf_93 : decode cX10_bytesOf 93 = .ok (.iconst 2, 1) := by decide +kernel
theorem dX10_bytesOf_94 : decode cX10_bytesOf 94 = .ok (.goto 15, 3) := by decide +kernel
theorem dX10_bytesOf_97 : decode cX10_bytesOf 97 = .ok (.iload_n 2, 1) := by decide +kernel
theorem dX10_bytesOf_98 : decode cX10_bytesOf 98 = .ok (.bipush 10, 2) := by decide +kernel
theorem dX10_bytesOf_100 : decode cX10_bytesOf 100 = .ok (.if_icmp .ge 7, 3) := by decide +kernel
theorem dX10_bytesOf_103 : decode cX10_bytesOf 103 = .ok (.iconst 4, 1) := by decide +kernel
theorem dX10_bytesOf_104 : decode cX10_bytesOf 104 = .ok (.goto 5, 3) := by decide +kernel
theorem dX10_bytesOf_107 : decode cX10_bytesOf 107 = .ok (.bipush 8, 2) := by decide +kernel
theorem dX10_bytesOf_109 : decode cX10_bytesOf 109 = .ok (.ireturn, 1) := by decide +kernel
theorem dX10_bytesOf_110 : decode cX10_bytesOf 110 = .ok (.iconst 4, 1) := by decide +kernel
theorem dX10_bytesOf_111 : decode cX10_bytesOf 111 = .ok (.ireturn, 1) := by decide +kernel
theorem dX10_bytesOf_112 : decode cX10_bytesOf 112 = .ok (.bipush 8, 2) := by decide +kernel
theorem dX10_bytesOf_114 : decode cX10_bytesOf 114 = .ok (.ireturn, 1) := by decide +kernel
theorem dX10_bytesOf_115 : decode cX10_bytesOf 115 = .ok (.iconst 0, 1) := by decide +kernel
theorem dX10_bytesOf_116 : decode cX10_bytesOf 116 = .ok (.ireturn, 1) := by decide +kernel
def VX10_bytesOf_0 (g : jg) (a0 : Nat) (x1 : Int32) (h : jh) (k n : Nat) (Q : jq) : Prop := (jt h a0 = 9) ∧ (¬ (jr h 516 a0) = none) ∧ (jt h (jd (jr h 516 a0)) = 20) ∧ (vp_in (x1) (jn h (jd (jr h 516 a0)))) ∧ (¬ (jr h 515 a0) = none) ∧ (jt h (jd (jr h 515 a0)) = 20) ∧ (vp_in (x1) (jn h (jd (jr h 515 a0)))) ∧ (((jI h (jd (jr h 515 a0)) (x1 : Int32).toNatClampNeg) = 1 → Q (.inl (some (.inl (jI h (jd (jr h 516 a0)) (x1 : Int32).toNatClampNeg)))) h) ∧ ((jI h (jd (jr h 515 a0)) (x1 : Int32).toNatClampNeg) = 2 → Q (.inl (some (.inl ((2) * (jI h (jd (jr h 516 a0)) (x1 : Int32).toNatClampNeg))))) h) ∧ ((jI h (jd (jr h 515 a0)) (x1 : Int32).toNatClampNeg) = 3 → Q (.inl (some (.inl (jI h (jd (jr h 516 a0)) (x1 : Int32).toNatClampNeg)))) h) ∧ ((jI h (jd (jr h 515 a0)) (x1 : Int32).toNatClampNeg) = 4 → Q (.inl (some (.inl (jI h (jd (jr h 516 a0)) (x1 : Int32).toNatClampNeg)))) h) ∧ ((jI h (jd (jr h 515 a0)) (x1 : Int32).toNatClampNeg) = 5 → Q (.inl (some (.inl ((jI h (jd (jr h 516 a0)) (x1 : Int32).toNatClampNeg) + (1))))) h) ∧ ((jI h (jd (jr h 515 a0)) (x1 : Int32).toNatClampNeg) = 6 → Q (.inl (some (.inl ((jI h (jd (jr h 516 a0)) (x1 : Int32).toNatClampNeg) + (1))))) h) ∧ ((jI h (jd (jr h 515 a0)) (x1 : Int32).toNatClampNeg) = 7 → Q (.inl (some (.inl (((jI h (jd (jr h 516 a0)) (x1 : Int32).toNatClampNeg) / (2)) + (1))))) h) ∧ ((jI h (jd (jr h 515 a0)) (x1 : Int32).toNatClampNeg) = 8 → (((5 : Int32) ≤ (jI h (jd (jr h 516 a0)) (x1 : Int32).toNatClampNeg) → (((10 : Int32) ≤ (jI h (jd (jr h 516 a0)) (x1 : Int32).toNatClampNeg) → Q (.inl (some (.inl (8)))) h) ∧ (¬ (10 : Int32) ≤ (jI h (jd (jr h 516 a0)) (x1 : Int32).toNatClampNeg) → Q (.inl (some (.inl (4)))) h))) ∧ (¬ (5 : Int32) ≤ (jI h (jd (jr h 516 a0)) (x1 : Int32).toNatClampNeg) → Q (.inl (some (.inl (2)))) h))) ∧ ((jI h (jd (jr h 515 a0)) (x1 : Int32).toNatClampNeg) = 9 → Q (.inl (some (.inl (4)))) h) ∧ ((jI h (jd (jr h 515 a0)) (x1 : Int32).toNatClampNeg) = 10 → Q (.inl (some (.inl (8)))) h) ∧ ((jI h (jd (jr h 515 a0)) (x1 : Int32).toNatClampNeg) = 11 → Q (.inl (some (.inl (4)))) h) ∧ ((jI h (jd (jr h 515 a0)) (x1 : Int32).toNatClampNeg : Int32).toInt < 1 ∨ 11 < (jI h (jd (jr h 515 a0)) (x1 : Int32).toNatClampNeg : Int32).toInt → Q (.inl (some (.inl (0)))) h))
set_option maxRecDepth 20000 in
theorem vX10_bytesOf_0 {g : jg} {a0 : Nat} {x1 : Int32} {h : jh} {k n : Nat} {Q : jq} (hv : VX10_bytesOf_0 g a0 x1 h k n Q) : jG g mX10_bytesOf 0 [(0, .inr (.inr (some (a0)))), (1, .inl (x1))] [] h k n Q := by
  unfold VX10_bytesOf_0 at hv
  refine jg_aload_n dX10_bytesOf_0 rfl (List.Mem.head _) ?_
  obtain ⟨f1, hv⟩ := hv
  refine jg_getr dX10_bytesOf_1 fl_RX10_16 rfl jsn f1 ?_
  refine jg_iload_n dX10_bytesOf_4 rfl (List.Mem.tail _ (List.Mem.head _)) ?_
  obtain ⟨f2, hv⟩ := hv
  obtain ⟨f3, hv⟩ := hv
  obtain ⟨f4, hv⟩ := hv
  refine jg_iald dX10_bytesOf_5 f2 f3 f4 ?_
  refine jg_istore_n (lv' := [(2, .inl (jI h (jd (jr h 516 a0)) (x1 : Int32).toNatClampNeg)), (0, .inr (.inr (some (a0)))), (1, .inl (x1))]) dX10_bytesOf_6 rfl (by decide) rfl ?_
  refine jg_aload_n dX10_bytesOf_7 rfl (List.Mem.tail _ (List.Mem.head _)) ?_
  refine jg_getr dX10_bytesOf_8 fl_RX10_13 rfl jsn f1 ?_
  refine jg_iload_n dX10_bytesOf_11 rfl (List.Mem.tail _ (List.Mem.tail _ (List.Mem.head _))) ?_
  obtain ⟨f5, hv⟩ := hv
  obtain ⟨f6, hv⟩ := hv
  obtain ⟨f7, hv⟩ := hv
  refine jg_iald dX10_bytesOf_12 f5 f6 f7 ?_
  by_cases c8 : (jI h (jd (jr h 515 a0)) (x1 : Int32).toNatClampNeg) = 1
  · replace hv := hv.1 c8
    refine jg_tsIn 1 0 (tgt := 72) dX10_bytesOf_13 c8 (by decide) (by decide) rfl (by decide) ?_
    refine jg_iload_n dX10_bytesOf_72 rfl (List.Mem.head _) ?_
    exact jg_iret dX10_bytesOf_73 rfl hv
  by_cases c9 : (jI h (jd (jr h 515 a0)) (x1 : Int32).toNatClampNeg) = 2
  · replace hv := hv.2.1 c9
    refine jg_tsIn 2 1 (tgt := 74) dX10_bytesOf_13 c9 (by decide) (by decide) rfl (by decide) ?_
    refine jg_iconst (v := 2) dX10_bytesOf_74 (by decide) ?_
    refine jg_iload_n dX10_bytesOf_75 rfl (List.Mem.head _) ?_
    refine jg_imul dX10_bytesOf_76 ?_
    exact jg_iret dX10_bytesOf_77 rfl hv
  by_cases c10 : (jI h (jd (jr h 515 a0)) (x1 : Int32).toNatClampNeg) = 3
  · replace hv := hv.2.2.1 c10
    refine jg_tsIn 3 2 (tgt := 72) dX10_bytesOf_13 c10 (by decide) (by decide) rfl (by decide) ?_
    refine jg_iload_n dX10_bytesOf_72 rfl (List.Mem.head _) ?_
    exact jg_iret dX10_bytesOf_73 rfl hv
  by_cases c11 : (jI h (jd (jr h 515 a0)) (x1 : Int32).toNatClampNeg) = 4
  · replace hv := hv.2.2.2.1 c11
    refine jg_tsIn 4 3 (tgt := 72) dX10_bytesOf_13 c11 (by decide) (by decide) rfl (by decide) ?_
    refine jg_iload_n dX10_bytesOf_72 rfl (List.Mem.head _) ?_
    exact jg_iret dX10_bytesOf_73 rfl hv
  by_cases c12 : (jI h (jd (jr h 515 a0)) (x1 : Int32).toNatClampNeg) = 5
  · replace hv := hv.2.2.2.2.1 c12
    refine jg_tsIn 5 4 (tgt := 78) dX10_bytesOf_13 c12 (by decide) (by decide) rfl (by decide) ?_
    refine jg_iload_n dX10_bytesOf_78 rfl (List.Mem.head _) ?_
    refine jg_iconst (v := 1) dX10_bytesOf_79 (by decide) ?_
    refine jg_iadd dX10_bytesOf_80 ?_
    exact jg_iret dX10_bytesOf_81 rfl hv
  by_cases c13 : (jI h (jd (jr h 515 a0)) (x1 : Int32).toNatClampNeg) = 6
  · replace hv := hv.2.2.2.2.2.1 c13
    refine jg_tsIn 6 5 (tgt := 78) dX10_bytesOf_13 c13 (by decide) (by decide) rfl (by decide) ?_
    refine jg_iload_n dX10_bytesOf_78 rfl (List.Mem.head _) ?_
    refine jg_iconst (v := 1) dX10_bytesOf_79 (by decide) ?_
    refine jg_iadd dX10_bytesOf_80 ?_
    exact jg_iret dX10_bytesOf_81 rfl hv
  by_cases c14 : (jI h (jd (jr h 515 a0)) (x1 : Int32).toNatClampNeg) = 7
  · replace hv := hv.2.2.2.2.2.2.1 c14
    refine jg_tsIn 7 6 (tgt := 82) dX10_bytesOf_13 c14 (by decide) (by decide) rfl (by decide) ?_
    refine jg_iload_n dX10_bytesOf_82 rfl (List.Mem.head _) ?_
    refine jg_iconst (v := 2) dX10_bytesOf_83 (by decide) ?_
    refine jg_idiv dX10_bytesOf_84 (by decide) ?_
    refine jg_iconst (v := 1) dX10_bytesOf_85 (by decide) ?_
    refine jg_iadd dX10_bytesOf_86 ?_
    exact jg_iret dX10_bytesOf_87 rfl hv
  by_cases c15 : (jI h (jd (jr h 515 a0)) (x1 : Int32).toNatClampNeg) = 8
  · replace hv := hv.2.2.2.2.2.2.2.1 c15
    refine jg_tsIn 8 7 (tgt := 88) dX10_bytesOf_13 c15 (by decide) (by decide) rfl (by decide) ?_
    refine jg_iload_n dX10_bytesOf_88 rfl (List.Mem.head _) ?_
    refine jg_iconst (v := 5) dX10_bytesOf_89 (by decide) ?_
    refine jg_icmp_ge (tgt := 97) dX10_bytesOf_90 (by decide) (fun c16 => ?_) (fun c16 => ?_)
    · replace hv := hv.1 c16
      refine jg_iload_n dX10_bytesOf_97 rfl (List.Mem.head _) ?_
      refine jg_bipush (v := 10) dX10_bytesOf_98 (by decide) ?_
      refine jg_icmp_ge (tgt := 107) dX10_bytesOf_100 (by decide) (fun c17 => ?_) (fun c17 => ?_)
      · replace hv := hv.1 c17
        refine jg_bipush (v := 8) dX10_bytesOf_107 (by decide) ?_
        exact jg_iret dX10_bytesOf_109 rfl hv
      · replace hv := hv.2 c17
        refine jg_iconst (v := 4) dX10_bytesOf_103 (by decide) ?_
        refine jg_goto (tgt := 109) dX10_bytesOf_104 (by decide) ?_
        exact jg_iret dX10_bytesOf_109 rfl hv
    · replace hv := hv.2 c16
      refine jg_iconst (v := 2) dX10_bytesOf_93 (by decide) ?_
      refine jg_goto (tgt := 109) dX10_bytesOf_94 (by decide) ?_
      exact jg_iret dX10_bytesOf_109 rfl hv
  by_cases c18 : (jI h (jd (jr h 515 a0)) (x1 : Int32).toNatClampNeg) = 9
  · replace hv := hv.2.2.2.2.2.2.2.2.1 c18
    refine jg_tsIn 9 8 (tgt := 110) dX10_bytesOf_13 c18 (by decide) (by decide) rfl (by decide) ?_
    refine jg_iconst (v := 4) dX10_bytesOf_110 (by decide) ?_
    exact jg_iret dX10_bytesOf_111 rfl hv
  by_cases c19 : (jI h (jd (jr h 515 a0)) (x1 : Int32).toNatClampNeg) = 10
  · replace hv := hv.2.2.2.2.2.2.2.2.2.1 c19
    refine jg_tsIn 10 9 (tgt := 112) dX10_bytesOf_13 c19 (by decide) (by decide) rfl (by decide) ?_
    refine jg_bipush (v := 8) dX10_bytesOf_112 (by decide) ?_
    exact jg_iret dX10_bytesOf_114 rfl hv
  by_cases c20 : (jI h (jd (jr h 515 a0)) (x1 : Int32).toNatClampNeg) = 11
  · replace hv := hv.2.2.2.2.2.2.2.2.2.2.1 c20
    refine jg_tsIn 11 10 (tgt := 110) dX10_bytesOf_13 c20 (by decide) (by decide) rfl (by decide) ?_
    refine jg_iconst (v := 4) dX10_bytesOf_110 (by decide) ?_
    exact jg_iret dX10_bytesOf_111 rfl hv
  have c21 : (jI h (jd (jr h 515 a0)) (x1 : Int32).toNatClampNeg : Int32).toInt < 1 ∨ 11 < (jI h (jd (jr h 515 a0)) (x1 : Int32).toNatClampNeg : Int32).toInt := by
    have c8n : ¬ (jI h (jd (jr h 515 a0)) (x1 : Int32).toNatClampNeg : Int32).toInt = 1 := fun q => c8 (Int32.toInt_inj.mp (q.trans (by decide)))
    have c9n : ¬ (jI h (jd (jr h 515 a0)) (x1 : Int32).toNatClampNeg : Int32).toInt = 2 := fun q => c9 (Int32.toInt_inj.mp (q.trans (by decide)))
    have c10n : ¬ (jI h (jd (jr h 515 a0)) (x1 : Int32).toNatClampNeg : Int32).toInt = 3 := fun q => c10 (Int32.toInt_inj.mp (q.trans (by decide)))
    have c11n : ¬ (jI h (jd (jr h 515 a0)) (x1 : Int32).toNatClampNeg : Int32).toInt = 4 := fun q => c11 (Int32.toInt_inj.mp (q.trans (by decide)))
    have c12n : ¬ (jI h (jd (jr h 515 a0)) (x1 : Int32).toNatClampNeg : Int32).toInt = 5 := fun q => c12 (Int32.toInt_inj.mp (q.trans (by decide)))
    have c13n : ¬ (jI h (jd (jr h 515 a0)) (x1 : Int32).toNatClampNeg : Int32).toInt = 6 := fun q => c13 (Int32.toInt_inj.mp (q.trans (by decide)))
    have c14n : ¬ (jI h (jd (jr h 515 a0)) (x1 : Int32).toNatClampNeg : Int32).toInt = 7 := fun q => c14 (Int32.toInt_inj.mp (q.trans (by decide)))
    have c15n : ¬ (jI h (jd (jr h 515 a0)) (x1 : Int32).toNatClampNeg : Int32).toInt = 8 := fun q => c15 (Int32.toInt_inj.mp (q.trans (by decide)))
    have c18n : ¬ (jI h (jd (jr h 515 a0)) (x1 : Int32).toNatClampNeg : Int32).toInt = 9 := fun q => c18 (Int32.toInt_inj.mp (q.trans (by decide)))
    have c19n : ¬ (jI h (jd (jr h 515 a0)) (x1 : Int32).toNatClampNeg : Int32).toInt = 10 := fun q => c19 (Int32.toInt_inj.mp (q.trans (by decide)))
    have c20n : ¬ (jI h (jd (jr h 515 a0)) (x1 : Int32).toNatClampNeg : Int32).toInt = 11 := fun q => c20 (Int32.toInt_inj.mp (q.trans (by decide)))
    omega
  replace hv := hv.2.2.2.2.2.2.2.2.2.2.2 c21
  refine jg_tsOut (tgt := 115) dX10_bytesOf_13 c21 (by decide) ?_
  refine jg_iconst (v := 0) dX10_bytesOf_115 (by decide) ?_
  exact jg_iret dX10_bytesOf_116 rfl hv
theorem eX10_bytesOf {g : jg} {a0 : Nat} {x1 : Int32} {h : jh} {mc ms : Nat} {Q : jq} (hv : VX10_bytesOf_0 g a0 x1 h mc ms Q) : jM g mX10_bytesOf [.inr (.inr (some (a0))), .inl (x1)] h mc ms Q := jM.of (by decide) (Nat.le_of_ble_eq_true rfl) (lv := [(0, .inr (.inr (some (a0)))), (1, .inl (x1))]) rfl (vX10_bytesOf_0 hv)
theorem dX10_up_0 : decode cX10_up 0 = .ok (.iload_n 2, 1) := by decide +kernel
theorem dX10_up_1 : decode cX10_up 1 = .ok (.iconst 2, 1) := by decide +kernel
theorem dX10_up_2 : decode cX10_up 2 = .ok (.if_icmp .ge 7, 3) := by decide +kernel
theorem dX10_up_5 : decode cX10_up 5 = .ok (.lload_n 0, 1) := by decide +kernel
theorem dX10_up_6 : decode cX10_up 6 = .ok (.goto 15, 3) := by decide +kernel
theorem dX10_up_9 : decode cX10_up 9 = .ok (.lload_n 0, 1) := by decide +kernel
theorem dX10_up_10 : decode cX10_up 10 = .ok (.iload_n 2, 1) := by decide +kernel
theorem dX10_up_11 : decode cX10_up 11 = .ok (.i2l, 1) := by decide +kernel
theorem dX10_up_12 : decode cX10_up 12 = .ok (.ladd, 1) := by decide +kernel
theorem dX10_up_13 : decode cX10_up 13 = .ok (.lconst 1, 1) := by decide +kernel
theorem dX10_up_14 : decode cX10_up 14 = .ok (.lsub, 1) := by decide +kernel
theorem dX10_up_15 : decode cX10_up 15 = .ok (.iload_n 2, 1) := by decide +kernel
theorem dX10_up_16 : decode cX10_up 16 = .ok (.i2l, 1) := by decide +kernel
theorem dX10_up_17 : decode cX10_up 17 = .ok (.ldiv, 1) := by decide +kernel
theorem dX10_up_18 : decode cX10_up 18 = .ok (.iload_n 2, 1) := by decide +kernel
theorem dX10_up_19 : decode cX10_up 19 = .ok (.i2l, 1) := by decide +kernel
theorem dX10_up_20 : decode cX10_up 20 = .ok (.lmul, 1) := by decide +kernel
theorem dX10_up_21 : decode cX10_up 21 = .ok (.lreturn, 1) := by decide +kernel
def VX10_up_0 (g : jg) (x0 : Int64) (x2 : Int32) (h : jh) (k n : Nat) (Q : jq) : Prop := (((2 : Int32) ≤ (x2) → (¬ ((x2 : Int32).toInt64) = (0 : Int64)) ∧ Q (.inl (some (.inr (.inl (((((x0) + ((x2 : Int32).toInt64)) - (1)) / ((x2 : Int32).toInt64)) * ((x2 : Int32).toInt64)))))) h) ∧ (¬ (2 : Int32) ≤ (x2) → Q (.inl (some (.inr (.inl (x0))))) h))
set_option maxRecDepth 20000 in
theorem vX10_up_0 {g : jg} {x0 : Int64} {x2 : Int32} {h : jh} {k n : Nat} {Q : jq} (hv : VX10_up_0 g x0 x2 h k n Q) : jG g mX10_up 0 [(0, .inr (.inl (x0))), (2, .inl (x2))] [] h k n Q := by
  unfold VX10_up_0 at hv
  refine jg_iload_n dX10_up_0 rfl (List.Mem.tail _ (List.Mem.head _)) ?_
  refine jg_iconst (v := 2) dX10_up_1 (by decide) ?_
  refine jg_icmp_ge (tgt := 9) dX10_up_2 (by decide) (fun c1 => ?_) (fun c1 => ?_)
  · replace hv := hv.1 c1
    refine jg_lload_n dX10_up_9 rfl (List.Mem.head _) ?_
    refine jg_iload_n dX10_up_10 rfl (List.Mem.tail _ (List.Mem.head _)) ?_
    refine jg_i2l dX10_up_11 ?_
    refine jg_ladd dX10_up_12 ?_
    refine jg_lconst (v := 1) dX10_up_13 (by decide) ?_
    refine jg_lsub dX10_up_14 ?_
    refine jg_iload_n dX10_up_15 rfl (List.Mem.tail _ (List.Mem.head _)) ?_
    refine jg_i2l dX10_up_16 ?_
    obtain ⟨f2, hv⟩ := hv
    refine jg_ldiv dX10_up_17 f2 ?_
    refine jg_iload_n dX10_up_18 rfl (List.Mem.tail _ (List.Mem.head _)) ?_
    refine jg_i2l dX10_up_19 ?_
    refine jg_lmul dX10_up_20 ?_
    exact jg_lret dX10_up_21 rfl hv
  · replace hv := hv.2 c1
    refine jg_lload_n dX10_up_5 rfl (List.Mem.head _) ?_
    refine jg_goto (tgt := 21) dX10_up_6 (by decide) ?_
    exact jg_lret dX10_up_21 rfl hv
theorem eX10_up {g : jg} {x0 : Int64} {x2 : Int32} {h : jh} {mc ms : Nat} {Q : jq} (hv : VX10_up_0 g x0 x2 h mc ms Q) : jM g mX10_up [.inr (.inl (x0)), .inl (x2)] h mc ms Q := jM.of (by decide) (Nat.le_of_ble_eq_true rfl) (lv := [(0, .inr (.inl (x0))), (2, .inl (x2))]) rfl (vX10_up_0 hv)
theorem dX10_firstOf_0 : decode cX10_firstOf 0 = .ok (.iconst 1, 1) := by decide +kernel
theorem dX10_firstOf_1 : decode cX10_firstOf 1 = .ok (.istore_n 2, 1) := by decide +kernel
theorem dX10_firstOf_2 : decode cX10_firstOf 2 = .ok (.aload_n 0, 1) := by decide +kernel
theorem dX10_firstOf_3 : decode cX10_firstOf 3 = .ok (.getfield 59, 3) := by decide +kernel
theorem dX10_firstOf_6 : decode cX10_firstOf 6 = .ok (.iload_n 2, 1) := by decide +kernel
theorem dX10_firstOf_7 : decode cX10_firstOf 7 = .ok (.iaload, 1) := by decide +kernel
theorem dX10_firstOf_8 : decode cX10_firstOf 8 = .ok (.aload_n 0, 1) := by decide +kernel
theorem dX10_firstOf_9 : decode cX10_firstOf 9 = .ok (.getfield 59, 3) := by decide +kernel
theorem dX10_firstOf_12 : decode cX10_firstOf 12 = .ok (.iload_n 1, 1) := by decide +kernel
theorem dX10_firstOf_13 : decode cX10_firstOf 13 = .ok (.iaload, 1) := by decide +kernel
theorem dX10_firstOf_14 : decode cX10_firstOf 14 = .ok (.if_icmp .ne 13, 3) := by decide +kernel
theorem dX10_firstOf_17 : decode cX10_firstOf 17 = .ok (.aload_n 0, 1) := by decide +kernel
theorem dX10_firstOf_18 : decode cX10_firstOf 18 = .ok (.getfield 7, 3) := by decide +kernel
theorem dX10_firstOf_21 : decode cX10_firstOf 21 = .ok (.iload_n 2, 1) := by decide +kernel
theorem dX10_firstOf_22 : decode cX10_firstOf 22 = .ok (.iaload, 1) := by decide +kernel
theorem dX10_firstOf_23 : decode cX10_firstOf 23 = .ok (.iconst 1, 1) := by decide +kernel
theorem dX10_firstOf_24 : decode cX10_firstOf 24 = .ok (.if_icmp .eq 9, 3) := by decide +kernel
theorem dX10_firstOf_27 : decode cX10_firstOf 27 = .ok (.iinc 2 1, 3) := by decide +kernel
theorem dX10_firstOf_30 : decode cX10_firstOf 30 = .ok (.goto (-28), 3) := by decide +kernel
theorem dX10_firstOf_33 : decode cX10_firstOf 33 = .ok (.iload_n 2, 1) := by decide +kernel
theorem dX10_firstOf_34 : decode cX10_firstOf 34 = .ok (.ireturn, 1) := by decide +kernel
def VX10_firstOf_2 (g : jg) (a0 : Nat) (x1 : Int32) (x2 : Int32) (h : jh) (k n : Nat) (Q : jq) : Prop := (jt h a0 = 9) ∧ (¬ (jr h 530 a0) = none) ∧ (jt h (jd (jr h 530 a0)) = 20) ∧ (vp_in (x2) (jn h (jd (jr h 530 a0)))) ∧ (vp_in (x1) (jn h (jd (jr h 530 a0)))) ∧ ((¬ (jI h (jd (jr h 530 a0)) (x2 : Int32).toNatClampNeg) = (jI h (jd (jr h 530 a0)) (x1 : Int32).toNatClampNeg) → jG g mX10_firstOf 2 [(0, .inr (.inr (some (a0)))), (1, .inl (x1)), (2, .inl ((x2) + 1))] [] h k n Q) ∧ ((jI h (jd (jr h 530 a0)) (x2 : Int32).toNatClampNeg) = (jI h (jd (jr h 530 a0)) (x1 : Int32).toNatClampNeg) → (¬ (jr h 514 a0) = none) ∧ (jt h (jd (jr h 514 a0)) = 20) ∧ (vp_in (x2) (jn h (jd (jr h 514 a0)))) ∧ (((jI h (jd (jr h 514 a0)) (x2 : Int32).toNatClampNeg) = (1) → Q (.inl (some (.inl (x2)))) h) ∧ (¬ (jI h (jd (jr h 514 a0)) (x2 : Int32).toNatClampNeg) = (1) → jG g mX10_firstOf 2 [(0, .inr (.inr (some (a0)))), (1, .inl (x1)), (2, .inl ((x2) + 1))] [] h k n Q))))
set_option maxRecDepth 20000 in
theorem vX10_firstOf_2 {g : jg} {a0 : Nat} {x1 : Int32} {x2 : Int32} {h : jh} {k n : Nat} {Q : jq} (hv : VX10_firstOf_2 g a0 x1 x2 h k n Q) : jG g mX10_firstOf 2 [(0, .inr (.inr (some (a0)))), (1, .inl (x1)), (2, .inl (x2))] [] h k n Q := by
  unfold VX10_firstOf_2 at hv
  refine jg_aload_n dX10_firstOf_2 rfl (List.Mem.head _) ?_
  obtain ⟨f1, hv⟩ := hv
  refine jg_getr dX10_firstOf_3 fl_RX10_59 rfl jsn f1 ?_
  refine jg_iload_n dX10_firstOf_6 rfl (List.Mem.tail _ (List.Mem.tail _ (List.Mem.head _))) ?_
  obtain ⟨f2, hv⟩ := hv
  obtain ⟨f3, hv⟩ := hv
  obtain ⟨f4, hv⟩ := hv
  refine jg_iald dX10_firstOf_7 f2 f3 f4 ?_
  refine jg_aload_n dX10_firstOf_8 rfl (List.Mem.head _) ?_
  refine jg_getr dX10_firstOf_9 fl_RX10_59 rfl jsn f1 ?_
  refine jg_iload_n dX10_firstOf_12 rfl (List.Mem.tail _ (List.Mem.head _)) ?_
  obtain ⟨f5, hv⟩ := hv
  refine jg_iald dX10_firstOf_13 f2 f3 f5 ?_
  refine jg_icmp_ne (tgt := 27) dX10_firstOf_14 (by decide) (fun c6 => ?_) (fun c6 => ?_)
  · replace hv := hv.1 c6
    refine jg_iinc (v := (x2) + 1) (lv' := [(2, .inl ((x2) + 1)), (0, .inr (.inr (some (a0)))), (1, .inl (x1))]) dX10_firstOf_27 (List.Mem.tail _ (List.Mem.tail _ (List.Mem.head _))) rfl (by decide) rfl ?_
    refine jg_goto (tgt := 2) dX10_firstOf_30 (by decide) ?_
    refine jG.sub (lv' := [(0, .inr (.inr (some (a0)))), (1, .inl (x1)), (2, .inl ((x2) + 1))]) (by simp) ?_
    exact hv
  · replace hv := hv.2 c6
    refine jg_aload_n dX10_firstOf_17 rfl (List.Mem.head _) ?_
    refine jg_getr dX10_firstOf_18 fl_RX10_7 rfl jsn f1 ?_
    refine jg_iload_n dX10_firstOf_21 rfl (List.Mem.tail _ (List.Mem.tail _ (List.Mem.head _))) ?_
    obtain ⟨f7, hv⟩ := hv
    obtain ⟨f8, hv⟩ := hv
    obtain ⟨f9, hv⟩ := hv
    refine jg_iald dX10_firstOf_22 f7 f8 f9 ?_
    refine jg_iconst (v := 1) dX10_firstOf_23 (by decide) ?_
    refine jg_icmp_eq (tgt := 33) dX10_firstOf_24 (by decide) (fun c10 => ?_) (fun c10 => ?_)
    · replace hv := hv.1 c10
      refine jg_iload_n dX10_firstOf_33 rfl (List.Mem.tail _ (List.Mem.tail _ (List.Mem.head _))) ?_
      exact jg_iret dX10_firstOf_34 rfl hv
    · replace hv := hv.2 c10
      refine jg_iinc (v := (x2) + 1) (lv' := [(2, .inl ((x2) + 1)), (0, .inr (.inr (some (a0)))), (1, .inl (x1))]) dX10_firstOf_27 (List.Mem.tail _ (List.Mem.tail _ (List.Mem.head _))) rfl (by decide) rfl ?_
      refine jg_goto (tgt := 2) dX10_firstOf_30 (by decide) ?_
      refine jG.sub (lv' := [(0, .inr (.inr (some (a0)))), (1, .inl (x1)), (2, .inl ((x2) + 1))]) (by simp) ?_
      exact hv
def VX10_firstOf_0 (g : jg) (a0 : Nat) (x1 : Int32) (h : jh) (k n : Nat) (Q : jq) : Prop := jG g mX10_firstOf 2 [(0, .inr (.inr (some (a0)))), (1, .inl (x1)), (2, .inl (1))] [] h k n Q
set_option maxRecDepth 20000 in
theorem vX10_firstOf_0 {g : jg} {a0 : Nat} {x1 : Int32} {h : jh} {k n : Nat} {Q : jq} (hv : VX10_firstOf_0 g a0 x1 h k n Q) : jG g mX10_firstOf 0 [(0, .inr (.inr (some (a0)))), (1, .inl (x1))] [] h k n Q := by
  unfold VX10_firstOf_0 at hv
  refine jg_iconst (v := 1) dX10_firstOf_0 (by decide) ?_
  refine jg_istore_n (lv' := [(2, .inl (1)), (0, .inr (.inr (some (a0)))), (1, .inl (x1))]) dX10_firstOf_1 rfl (by decide) rfl ?_
  refine jG.sub (lv' := [(0, .inr (.inr (some (a0)))), (1, .inl (x1)), (2, .inl (1))]) (by simp) ?_
  exact hv
theorem eX10_firstOf {g : jg} {a0 : Nat} {x1 : Int32} {h : jh} {mc ms : Nat} {Q : jq} (hv : VX10_firstOf_0 g a0 x1 h mc ms Q) : jM g mX10_firstOf [.inr (.inr (some (a0))), .inl (x1)] h mc ms Q := jM.of (by decide) (Nat.le_of_ble_eq_true rfl) (lv := [(0, .inr (.inr (some (a0)))), (1, .inl (x1))]) rfl (vX10_firstOf_0 hv)
theorem dX10_close_0 : decode cX10_close 0 = .ok (.aload_n 0, 1) := by decide +kernel
theorem dX10_close_1 : decode cX10_close 1 = .ok (.getfield 25, 3) := by decide +kernel
theorem dX10_close_4 : decode cX10_close 4 = .ok (.iload_n 1, 1) := by decide +kernel
theorem dX10_close_5 : decode cX10_close 5 = .ok (.iaload, 1) := by decide +kernel
theorem dX10_close_6 : decode cX10_close 6 = .ok (.ifCond .le 12, 3) := by decide +kernel
theorem dX10_close_9 : decode cX10_close 9 = .ok (.aload_n 0, 1) := by decide +kernel
theorem dX10_close_10 : decode cX10_close 10 = .ok (.getfield 92, 3) := by decide +kernel
theorem dX10_close_13 : decode cX10_close 13 = .ok (.iload_n 1, 1) := by decide +kernel
theorem dX10_close_14 : decode cX10_close 14 = .ok (.iaload, 1) := by decide +kernel
theorem dX10_close_15 : decode cX10_close 15 = .ok (.goto 4, 3) := by decide +kernel
theorem dX10_close_18 : decode cX10_close 18 = .ok (.iconst 1, 1) := by decide +kernel
theorem dX10_close_19 : decode cX10_close 19 = .ok (.istore_n 2, 1) := by decide +kernel
theorem dX10_close_20 : decode cX10_close 20 = .ok (.aload_n 0, 1) := by decide +kernel
theorem dX10_close_21 : decode cX10_close 21 = .ok (.getfield 83, 3) := by decide +kernel
theorem dX10_close_24 : decode cX10_close 24 = .ok (.iload_n 1, 1) := by decide +kernel
theorem dX10_close_25 : decode cX10_close 25 = .ok (.aload_n 0, 1) := by decide +kernel
theorem dX10_close_26 : decode cX10_close 26 = .ok (.getfield 80, 3) := by decide +kernel
theorem dX10_close_29 : decode cX10_close 29 = .ok (.iload_n 1, 1) := by decide +kernel
theorem dX10_close_30 : decode cX10_close 30 = .ok (.laload, 1) := by decide +kernel
theorem dX10_close_31 : decode cX10_close 31 = .ok (.iload_n 2, 1) := by decide +kernel
theorem dX10_close_32 : decode cX10_close 32 = .ok (.invokestatic 156, 3) := by decide +kernel
theorem dX10_close_35 : decode cX10_close 35 = .ok (.lastore, 1) := by decide +kernel
theorem dX10_close_36 : decode cX10_close 36 = .ok (.aload_n 0, 1) := by decide +kernel
theorem dX10_close_37 : decode cX10_close 37 = .ok (.getfield 86, 3) := by decide +kernel
theorem dX10_close_40 : decode cX10_close 40 = .ok (.iload_n 1, 1) := by decide +kernel
theorem dX10_close_41 : decode cX10_close 41 = .ok (.aload_n 0, 1) := by decide +kernel
theorem dX10_close_42 : decode cX10_close 42 = .ok (.getfield 76, 3) := by decide +kernel
theorem dX10_close_45 : decode cX10_close 45 = .ok (.iload_n 1, 1) := by decide +kernel
theorem dX10_close_46 : decode cX10_close 46 = .ok (.laload, 1) := by decide +kernel
theorem dX10_close_47 : decode cX10_close 47 = .ok (.aload_n 0, 1) := by decide +kernel
theorem dX10_close_48 : decode cX10_close 48 = .ok (.getfield 25, 3) := by decide +kernel
theorem dX10_close_51 : decode cX10_close 51 = .ok (.iload_n 1, 1) := by decide +kernel
theorem dX10_close_52 : decode cX10_close 52 = .ok (.iaload, 1) := by decide +kernel
theorem dX10_close_53 : decode cX10_close 53 = .ok (.ifCond .le 20, 3) := by decide +kernel
theorem dX10_close_56 : decode cX10_close 56 = .ok (.aload_n 0, 1) := by decide +kernel
theorem dX10_close_57 : decode cX10_close 57 = .ok (.getfield 83, 3) := by decide +kernel
theorem dX10_close_60 : decode cX10_close 60 = .ok (.iload_n 1, 1) := by decide +kernel
theorem dX10_close_61 : decode cX10_close 61 = .ok (.laload, 1) := by decide +kernel
theorem dX10_close_62 : decode cX10_close 62 = .ok (.aload_n 0, 1) := by decide +kernel
theorem dX10_close_63 : decode cX10_close 63 = .ok (.getfield 31, 3) := by decide +kernel
theorem dX10_close_66 : decode cX10_close 66 = .ok (.iload_n 1, 1) := by decide +kernel
theorem dX10_close_67 : decode cX10_close 67 = .ok (.iaload, 1) := by decide +kernel
theorem dX10_close_68 : decode cX10_close 68 = .ok (.i2l, 1) := by decide +kernel
theorem dX10_close_69 : decode cX10_close 69 = .ok (.lmul, 1) := by decide +kernel
theorem dX10_close_70 : decode cX10_close 70 = .ok (.goto 9, 3) := by decide +kernel
theorem dX10_close_73 : decode cX10_close 73 = .ok (.aload_n 0, 1) := by decide +kernel
theorem dX10_close_74 : decode cX10_close 74 = .ok (.getfield 80, 3) := by decide +kernel
theorem dX10_close_77 : decode cX10_close 77 = .ok (.iload_n 1, 1) := by decide +kernel
theorem dX10_close_78 : decode cX10_close 78 = .ok (.laload, 1) := by decide +kernel
theorem dX10_close_79 : decode cX10_close 79 = .ok (.ladd, 1) := by decide +kernel
theorem dX10_close_80 : decode cX10_close 80 = .ok (.lastore, 1) := by decide +kernel
theorem dX10_close_81 : decode cX10_close 81 = .ok (.aload_n 0, 1) := by decide +kernel
theorem dX10_close_82 : decode cX10_close 82 = .ok (.getfield 19, 3) := by decide +kernel
theorem dX10_close_85 : decode cX10_close 85 = .ok (.iload_n 1, 1) := by decide +kernel
theorem dX10_close_86 : decode cX10_close 86 = .ok (.iaload, 1) := by decide +kernel
theorem dX10_close_87 : decode cX10_close 87 = .ok (.ifCond .le 41, 3) := by decide +kernel
theorem dX10_close_90 : decode cX10_close 90 = .ok (.aload_n 0, 1) := by decide +kernel
theorem dX10_close_91 : decode cX10_close 91 = .ok (.getfield 56, 3) := by decide +kernel
theorem dX10_close_94 : decode cX10_close 94 = .ok (.iload_n 1, 1) := by decide +kernel
theorem dX10_close_95 : decode cX10_close 95 = .ok (.iaload, 1) := by decide +kernel
theorem dX10_close_96 : decode cX10_close 96 = .ok (.ifCond .ne 32, 3) := by decide +kernel
theorem dX10_close_99 : decode cX10_close 99 = .ok (.aload_n 0, 1) := by decide +kernel
theorem dX10_close_100 : decode cX10_close 100 = .ok (.getfield 80, 3) := by decide +kernel
theorem dX10_close_103 : decode cX10_close 103 = .ok (.aload_n 0, 1) := by decide +kernel
theorem dX10_close_104 : decode cX10_close 104 = .ok (.getfield 19, 3) := by decide +kernel
theorem dX10_close_107 : decode cX10_close 107 = .ok (.iload_n 1, 1) := by decide +kernel
theorem dX10_close_108 : decode cX10_close 108 = .ok (.iaload, 1) := by decide +kernel
theorem dX10_close_109 : decode cX10_close 109 = .ok (.aload_n 0, 1) := by decide +kernel
theorem dX10_close_110 : decode cX10_close 110 = .ok (.getfield 86, 3) := by decide +kernel
theorem dX10_close_113 : decode cX10_close 113 = .ok (.iload_n 1, 1) := by decide +kernel
theorem dX10_close_114 : decode cX10_close 114 = .ok (.laload, 1) := by decide +kernel
theorem dX10_close_115 : decode cX10_close 115 = .ok (.aload_n 0, 1) := by decide +kernel
theorem dX10_close_116 : decode cX10_close 116 = .ok (.getfield 76, 3) := by decide +kernel
theorem dX10_close_119 : decode cX10_close 119 = .ok (.aload_n 0, 1) := by decide +kernel
theorem dX10_close_120 : decode cX10_close 120 = .ok (.getfield 19, 3) := by decide +kernel
theorem dX10_close_123 : decode cX10_close 123 = .ok (.iload_n 1, 1) := by decide +kernel
theorem dX10_close_124 : decode cX10_close 124 = .ok (.iaload, 1) := by decide +kernel
theorem dX10_close_125 : decode cX10_close 125 = .ok (.laload, 1) := by decide +kernel
theorem dX10_close_126 : decode cX10_close 126 = .ok (.lsub, 1) := by decide +kernel
theorem dX10_close_127 : decode cX10_close 127 = .ok (.lastore, 1) := by decide +kernel
theorem dX10_close_128 : decode cX10_close 128 = .ok (.return_, 1) := by decide +kernel
def VX10_close_79 (g : jg) (a0 : Nat) (x1 : Int32) (so0 : Option Nat) (s1 : Int32) (s2 : Int64) (s3 : Int64) (h : jh) (k n : Nat) (Q : jq) : Prop := (¬ (so0) = none) ∧ (jt h (jd (so0)) = 22) ∧ (vp_in (s1) (jn h (jd (so0)))) ∧ ∀ h4 : jh, h4 = jsL h (jd (so0)) (s1 : Int32).toNatClampNeg ((s2) + (s3)) → (jt h4 a0 = 9) ∧ (¬ (jr h4 517 a0) = none) ∧ (jt h4 (jd (jr h4 517 a0)) = 20) ∧ (vp_in (x1) (jn h4 (jd (jr h4 517 a0)))) ∧ (((jI h4 (jd (jr h4 517 a0)) (x1 : Int32).toNatClampNeg) ≤ 0 → Q (.inl none) h4) ∧ (¬ (jI h4 (jd (jr h4 517 a0)) (x1 : Int32).toNatClampNeg) ≤ 0 → (¬ (jr h4 529 a0) = none) ∧ (jt h4 (jd (jr h4 529 a0)) = 20) ∧ (vp_in (x1) (jn h4 (jd (jr h4 529 a0)))) ∧ ((¬ (jI h4 (jd (jr h4 529 a0)) (x1 : Int32).toNatClampNeg) = 0 → Q (.inl none) h4) ∧ ((jI h4 (jd (jr h4 529 a0)) (x1 : Int32).toNatClampNeg) = 0 → (¬ (jr h4 542 a0) = none) ∧ (jt h4 (jd (jr h4 542 a0)) = 22) ∧ (vp_in (x1) (jn h4 (jd (jr h4 542 a0)))) ∧ (¬ (jr h4 539 a0) = none) ∧ (jt h4 (jd (jr h4 539 a0)) = 22) ∧ (vp_in (jI h4 (jd (jr h4 517 a0)) (x1 : Int32).toNatClampNeg) (jn h4 (jd (jr h4 539 a0)))) ∧ (¬ (jr h4 540 a0) = none) ∧ (jt h4 (jd (jr h4 540 a0)) = 22) ∧ (vp_in (jI h4 (jd (jr h4 517 a0)) (x1 : Int32).toNatClampNeg) (jn h4 (jd (jr h4 540 a0)))) ∧ ∀ h24 : jh, h24 = jsL h4 (jd (jr h4 540 a0)) (jI h4 (jd (jr h4 517 a0)) (x1 : Int32).toNatClampNeg : Int32).toNatClampNeg ((jL h4 (jd (jr h4 542 a0)) (x1 : Int32).toNatClampNeg) - (jL h4 (jd (jr h4 539 a0)) (jI h4 (jd (jr h4 517 a0)) (x1 : Int32).toNatClampNeg : Int32).toNatClampNeg)) → Q (.inl none) h24))))
set_option maxRecDepth 20000 in
theorem vX10_close_79 {g : jg} {a0 : Nat} {x1 : Int32} {so0 : Option Nat} {s1 : Int32} {s2 : Int64} {s3 : Int64} {h : jh} {k n : Nat} {Q : jq} (hv : VX10_close_79 g a0 x1 so0 s1 s2 s3 h k n Q) : jG g mX10_close 79 [(0, .inr (.inr (some (a0)))), (1, .inl (x1))] [.inr (.inl (s3)), .inr (.inl (s2)), .inl (s1), .inr (.inr (so0))] h k n Q := by
  unfold VX10_close_79 at hv
  refine jg_ladd dX10_close_79 ?_
  obtain ⟨f1, hv⟩ := hv
  obtain ⟨f2, hv⟩ := hv
  obtain ⟨f3, hv⟩ := hv
  obtain ⟨h4, e5⟩ : ∃ z : jh, z = jsL h (jd (so0)) (s1 : Int32).toNatClampNeg ((s2) + (s3)) := ⟨_, rfl⟩
  replace hv := hv h4 e5
  refine jp_last dX10_close_80 f1 f2 f3 e5 ?_
  refine jg_aload_n dX10_close_81 rfl (List.Mem.head _) ?_
  obtain ⟨f6, hv⟩ := hv
  refine jg_getr dX10_close_82 fl_RX10_19 rfl jsn f6 ?_
  refine jg_iload_n dX10_close_85 rfl (List.Mem.tail _ (List.Mem.head _)) ?_
  obtain ⟨f7, hv⟩ := hv
  obtain ⟨f8, hv⟩ := hv
  obtain ⟨f9, hv⟩ := hv
  refine jg_iald dX10_close_86 f7 f8 f9 ?_
  refine jg_if_le (tgt := 128) dX10_close_87 (by decide) (fun c10 => ?_) (fun c10 => ?_)
  · replace hv := hv.1 c10
    exact jg_vret dX10_close_128 rfl hv
  · replace hv := hv.2 c10
    refine jg_aload_n dX10_close_90 rfl (List.Mem.head _) ?_
    refine jg_getr dX10_close_91 fl_RX10_56 rfl jsn f6 ?_
    refine jg_iload_n dX10_close_94 rfl (List.Mem.tail _ (List.Mem.head _)) ?_
    obtain ⟨f11, hv⟩ := hv
    obtain ⟨f12, hv⟩ := hv
    obtain ⟨f13, hv⟩ := hv
    refine jg_iald dX10_close_95 f11 f12 f13 ?_
    refine jg_if_ne (tgt := 128) dX10_close_96 (by decide) (fun c14 => ?_) (fun c14 => ?_)
    · replace hv := hv.1 c14
      exact jg_vret dX10_close_128 rfl hv
    · replace hv := hv.2 c14
      refine jg_aload_n dX10_close_99 rfl (List.Mem.head _) ?_
      refine jg_getr dX10_close_100 fl_RX10_80 rfl jsn f6 ?_
      refine jg_aload_n dX10_close_103 rfl (List.Mem.head _) ?_
      refine jg_getr dX10_close_104 fl_RX10_19 rfl jsn f6 ?_
      refine jg_iload_n dX10_close_107 rfl (List.Mem.tail _ (List.Mem.head _)) ?_
      refine jg_iald dX10_close_108 f7 f8 f9 ?_
      refine jg_aload_n dX10_close_109 rfl (List.Mem.head _) ?_
      refine jg_getr dX10_close_110 fl_RX10_86 rfl jsn f6 ?_
      refine jg_iload_n dX10_close_113 rfl (List.Mem.tail _ (List.Mem.head _)) ?_
      obtain ⟨f15, hv⟩ := hv
      obtain ⟨f16, hv⟩ := hv
      obtain ⟨f17, hv⟩ := hv
      refine jg_lald dX10_close_114 f15 f16 f17 ?_
      refine jg_aload_n dX10_close_115 rfl (List.Mem.head _) ?_
      refine jg_getr dX10_close_116 fl_RX10_76 rfl jsn f6 ?_
      refine jg_aload_n dX10_close_119 rfl (List.Mem.head _) ?_
      refine jg_getr dX10_close_120 fl_RX10_19 rfl jsn f6 ?_
      refine jg_iload_n dX10_close_123 rfl (List.Mem.tail _ (List.Mem.head _)) ?_
      refine jg_iald dX10_close_124 f7 f8 f9 ?_
      obtain ⟨f18, hv⟩ := hv
      obtain ⟨f19, hv⟩ := hv
      obtain ⟨f20, hv⟩ := hv
      refine jg_lald dX10_close_125 f18 f19 f20 ?_
      refine jg_lsub dX10_close_126 ?_
      obtain ⟨f21, hv⟩ := hv
      obtain ⟨f22, hv⟩ := hv
      obtain ⟨f23, hv⟩ := hv
      obtain ⟨h24, e25⟩ : ∃ z : jh, z = jsL h4 (jd (jr h4 540 a0)) (jI h4 (jd (jr h4 517 a0)) (x1 : Int32).toNatClampNeg : Int32).toNatClampNeg ((jL h4 (jd (jr h4 542 a0)) (x1 : Int32).toNatClampNeg) - (jL h4 (jd (jr h4 539 a0)) (jI h4 (jd (jr h4 517 a0)) (x1 : Int32).toNatClampNeg : Int32).toNatClampNeg)) := ⟨_, rfl⟩
      replace hv := hv h24 e25
      refine jp_last dX10_close_127 f21 f22 f23 e25 ?_
      exact jg_vret dX10_close_128 rfl hv
def VX10_close_19 (g : jg) (a0 : Nat) (x1 : Int32) (s0 : Int32) (h : jh) (k n : Nat) (Q : jq) : Prop := (jt h a0 = 9) ∧ (¬ (jr h 540 a0) = none) ∧ (jt h (jd (jr h 540 a0)) = 22) ∧ (vp_in (x1) (jn h (jd (jr h 540 a0)))) ∧ jM g mX10_up [.inr (.inl (jL h (jd (jr h 540 a0)) (x1 : Int32).toNatClampNeg)), .inl (s0)] h 0 0 (jkl (fun (r30 : Int64) (h31 : jh) => (¬ (jr h 541 a0) = none) ∧ (jt h31 (jd (jr h 541 a0)) = 22) ∧ (vp_in (x1) (jn h31 (jd (jr h 541 a0)))) ∧ ∀ h35 : jh, h35 = jsL h31 (jd (jr h 541 a0)) (x1 : Int32).toNatClampNeg (r30) → (jt h35 a0 = 9) ∧ (¬ (jr h35 539 a0) = none) ∧ (jt h35 (jd (jr h35 539 a0)) = 22) ∧ (vp_in (x1) (jn h35 (jd (jr h35 539 a0)))) ∧ (¬ (jr h35 519 a0) = none) ∧ (jt h35 (jd (jr h35 519 a0)) = 20) ∧ (vp_in (x1) (jn h35 (jd (jr h35 519 a0)))) ∧ (((jI h35 (jd (jr h35 519 a0)) (x1 : Int32).toNatClampNeg) ≤ 0 → (¬ (jr h35 540 a0) = none) ∧ (jt h35 (jd (jr h35 540 a0)) = 22) ∧ (vp_in (x1) (jn h35 (jd (jr h35 540 a0)))) ∧ VX10_close_79 g (a0) (x1) (jr h35 542 a0) (x1) (jL h35 (jd (jr h35 539 a0)) (x1 : Int32).toNatClampNeg) (jL h35 (jd (jr h35 540 a0)) (x1 : Int32).toNatClampNeg) h35 k n Q) ∧ (¬ (jI h35 (jd (jr h35 519 a0)) (x1 : Int32).toNatClampNeg) ≤ 0 → (¬ (jr h35 541 a0) = none) ∧ (jt h35 (jd (jr h35 541 a0)) = 22) ∧ (vp_in (x1) (jn h35 (jd (jr h35 541 a0)))) ∧ (¬ (jr h35 521 a0) = none) ∧ (jt h35 (jd (jr h35 521 a0)) = 20) ∧ (vp_in (x1) (jn h35 (jd (jr h35 521 a0)))) ∧ VX10_close_79 g (a0) (x1) (jr h35 542 a0) (x1) (jL h35 (jd (jr h35 539 a0)) (x1 : Int32).toNatClampNeg) ((jL h35 (jd (jr h35 541 a0)) (x1 : Int32).toNatClampNeg) * ((jI h35 (jd (jr h35 521 a0)) (x1 : Int32).toNatClampNeg : Int32).toInt64)) h35 k n Q))) (fun e h9 => Q (.inr e) h9))
set_option maxRecDepth 20000 in
theorem vX10_close_19 {g : jg} {a0 : Nat} {x1 : Int32} {s0 : Int32} {h : jh} {k n : Nat} {Q : jq} (hv : VX10_close_19 g a0 x1 s0 h k n Q) : jG g mX10_close 19 [(0, .inr (.inr (some (a0)))), (1, .inl (x1))] [.inl (s0)] h k n Q := by
  unfold VX10_close_19 at hv
  refine jg_istore_n (lv' := [(2, .inl (s0)), (0, .inr (.inr (some (a0)))), (1, .inl (x1))]) dX10_close_19 rfl (by decide) rfl ?_
  refine jg_aload_n dX10_close_20 rfl (List.Mem.tail _ (List.Mem.head _)) ?_
  obtain ⟨f26, hv⟩ := hv
  refine jg_getr dX10_close_21 fl_RX10_83 rfl jsn f26 ?_
  refine jg_iload_n dX10_close_24 rfl (List.Mem.tail _ (List.Mem.tail _ (List.Mem.head _))) ?_
  refine jg_aload_n dX10_close_25 rfl (List.Mem.tail _ (List.Mem.head _)) ?_
  refine jg_getr dX10_close_26 fl_RX10_80 rfl jsn f26 ?_
  refine jg_iload_n dX10_close_29 rfl (List.Mem.tail _ (List.Mem.tail _ (List.Mem.head _))) ?_
  obtain ⟨f27, hv⟩ := hv
  obtain ⟨f28, hv⟩ := hv
  obtain ⟨f29, hv⟩ := hv
  refine jg_lald dX10_close_30 f27 f28 f29 ?_
  refine jg_iload_n dX10_close_31 rfl (List.Mem.head _) ?_
  refine jg_callS mX10_up [.inr (.inl (jL h (jd (jr h 540 a0)) (x1 : Int32).toNatClampNeg)), .inl (s0)] [.inl (x1), .inr (.inr (jr h 541 a0))] dX10_close_32 rfl cl_RX10_156 ⟨⟨by decide, by decide⟩, jcat_le _ (Nat.le_of_ble_eq_true rfl)⟩ (Nat.zero_le _) (Nat.zero_le _) (jM.mono (jkl_k (fun r30 h31 hv => ?_)) hv)
  obtain ⟨f32, hv⟩ := hv
  obtain ⟨f33, hv⟩ := hv
  obtain ⟨f34, hv⟩ := hv
  obtain ⟨h35, e36⟩ : ∃ z : jh, z = jsL h31 (jd (jr h 541 a0)) (x1 : Int32).toNatClampNeg (r30) := ⟨_, rfl⟩
  replace hv := hv h35 e36
  refine jp_last dX10_close_35 f32 f33 f34 e36 ?_
  refine jg_aload_n dX10_close_36 rfl (List.Mem.tail _ (List.Mem.head _)) ?_
  obtain ⟨f37, hv⟩ := hv
  refine jg_getr dX10_close_37 fl_RX10_86 rfl jsn f37 ?_
  refine jg_iload_n dX10_close_40 rfl (List.Mem.tail _ (List.Mem.tail _ (List.Mem.head _))) ?_
  refine jg_aload_n dX10_close_41 rfl (List.Mem.tail _ (List.Mem.head _)) ?_
  refine jg_getr dX10_close_42 fl_RX10_76 rfl jsn f37 ?_
  refine jg_iload_n dX10_close_45 rfl (List.Mem.tail _ (List.Mem.tail _ (List.Mem.head _))) ?_
  obtain ⟨f38, hv⟩ := hv
  obtain ⟨f39, hv⟩ := hv
  obtain ⟨f40, hv⟩ := hv
  refine jg_lald dX10_close_46 f38 f39 f40 ?_
  refine jg_aload_n dX10_close_47 rfl (List.Mem.tail _ (List.Mem.head _)) ?_
  refine jg_getr dX10_close_48 fl_RX10_25 rfl jsn f37 ?_
  refine jg_iload_n dX10_close_51 rfl (List.Mem.tail _ (List.Mem.tail _ (List.Mem.head _))) ?_
  obtain ⟨f41, hv⟩ := hv
  obtain ⟨f42, hv⟩ := hv
  obtain ⟨f43, hv⟩ := hv
  refine jg_iald dX10_close_52 f41 f42 f43 ?_
  refine jg_if_le (tgt := 73) dX10_close_53 (by decide) (fun c44 => ?_) (fun c44 => ?_)
  · replace hv := hv.1 c44
    refine jg_aload_n dX10_close_73 rfl (List.Mem.tail _ (List.Mem.head _)) ?_
    refine jg_getr dX10_close_74 fl_RX10_80 rfl jsn f37 ?_
    refine jg_iload_n dX10_close_77 rfl (List.Mem.tail _ (List.Mem.tail _ (List.Mem.head _))) ?_
    obtain ⟨f45, hv⟩ := hv
    obtain ⟨f46, hv⟩ := hv
    obtain ⟨f47, hv⟩ := hv
    refine jg_lald dX10_close_78 f45 f46 f47 ?_
    refine jG.sub (lv' := [(0, .inr (.inr (some (a0)))), (1, .inl (x1))]) (by simp) ?_
    exact vX10_close_79 hv
  · replace hv := hv.2 c44
    refine jg_aload_n dX10_close_56 rfl (List.Mem.tail _ (List.Mem.head _)) ?_
    refine jg_getr dX10_close_57 fl_RX10_83 rfl jsn f37 ?_
    refine jg_iload_n dX10_close_60 rfl (List.Mem.tail _ (List.Mem.tail _ (List.Mem.head _))) ?_
    obtain ⟨f48, hv⟩ := hv
    obtain ⟨f49, hv⟩ := hv
    obtain ⟨f50, hv⟩ := hv
    refine jg_lald dX10_close_61 f48 f49 f50 ?_
    refine jg_aload_n dX10_close_62 rfl (List.Mem.tail _ (List.Mem.head _)) ?_
    refine jg_getr dX10_close_63 fl_RX10_31 rfl jsn f37 ?_
    refine jg_iload_n dX10_close_66 rfl (List.Mem.tail _ (List.Mem.tail _ (List.Mem.head _))) ?_
    obtain ⟨f51, hv⟩ := hv
    obtain ⟨f52, hv⟩ := hv
    obtain ⟨f53, hv⟩ := hv
    refine jg_iald dX10_close_67 f51 f52 f53 ?_
    refine jg_i2l dX10_close_68 ?_
    refine jg_lmul dX10_close_69 ?_
    refine jg_goto (tgt := 79) dX10_close_70 (by decide) ?_
    refine jG.sub (lv' := [(0, .inr (.inr (some (a0)))), (1, .inl (x1))]) (by simp) ?_
    exact vX10_close_79 hv
def VX10_close_0 (g : jg) (a0 : Nat) (x1 : Int32) (h : jh) (k n : Nat) (Q : jq) : Prop := (jt h a0 = 9) ∧ (¬ (jr h 519 a0) = none) ∧ (jt h (jd (jr h 519 a0)) = 20) ∧ (vp_in (x1) (jn h (jd (jr h 519 a0)))) ∧ (((jI h (jd (jr h 519 a0)) (x1 : Int32).toNatClampNeg) ≤ 0 → VX10_close_19 g (a0) (x1) (1) h k n Q) ∧ (¬ (jI h (jd (jr h 519 a0)) (x1 : Int32).toNatClampNeg) ≤ 0 → (¬ (jr h 544 a0) = none) ∧ (jt h (jd (jr h 544 a0)) = 20) ∧ (vp_in (x1) (jn h (jd (jr h 544 a0)))) ∧ VX10_close_19 g (a0) (x1) (jI h (jd (jr h 544 a0)) (x1 : Int32).toNatClampNeg) h k n Q))
set_option maxRecDepth 20000 in
theorem vX10_close_0 {g : jg} {a0 : Nat} {x1 : Int32} {h : jh} {k n : Nat} {Q : jq} (hv : VX10_close_0 g a0 x1 h k n Q) : jG g mX10_close 0 [(0, .inr (.inr (some (a0)))), (1, .inl (x1))] [] h k n Q := by
  unfold VX10_close_0 at hv
  refine jg_aload_n dX10_close_0 rfl (List.Mem.head _) ?_
  obtain ⟨f54, hv⟩ := hv
  refine jg_getr dX10_close_1 fl_RX10_25 rfl jsn f54 ?_
  refine jg_iload_n dX10_close_4 rfl (List.Mem.tail _ (List.Mem.head _)) ?_
  obtain ⟨f55, hv⟩ := hv
  obtain ⟨f56, hv⟩ := hv
  obtain ⟨f57, hv⟩ := hv
  refine jg_iald dX10_close_5 f55 f56 f57 ?_
  refine jg_if_le (tgt := 18) dX10_close_6 (by decide) (fun c58 => ?_) (fun c58 => ?_)
  · replace hv := hv.1 c58
    refine jg_iconst (v := 1) dX10_close_18 (by decide) ?_
    exact vX10_close_19 hv
  · replace hv := hv.2 c58
    refine jg_aload_n dX10_close_9 rfl (List.Mem.head _) ?_
    refine jg_getr dX10_close_10 fl_RX10_92 rfl jsn f54 ?_
    refine jg_iload_n dX10_close_13 rfl (List.Mem.tail _ (List.Mem.head _)) ?_
    obtain ⟨f59, hv⟩ := hv
    obtain ⟨f60, hv⟩ := hv
    obtain ⟨f61, hv⟩ := hv
    refine jg_iald dX10_close_14 f59 f60 f61 ?_
    refine jg_goto (tgt := 19) dX10_close_15 (by decide) ?_
    exact vX10_close_19 hv
theorem eX10_close {g : jg} {a0 : Nat} {x1 : Int32} {h : jh} {mc ms : Nat} {Q : jq} (hv : VX10_close_0 g a0 x1 h mc ms Q) : jM g mX10_close [.inr (.inr (some (a0))), .inl (x1)] h mc ms Q := jM.of (by decide) (Nat.le_of_ble_eq_true rfl) (lv := [(0, .inr (.inr (some (a0)))), (1, .inl (x1))]) rfl (vX10_close_0 hv)
theorem dX10_layAll_0 : decode cX10_layAll 0 = .ok (.iconst 1, 1) := by decide +kernel
theorem dX10_layAll_1 : decode cX10_layAll 1 = .ok (.istore_n 1, 1) := by decide +kernel
theorem dX10_layAll_2 : decode cX10_layAll 2 = .ok (.iload_n 1, 1) := by decide +kernel
theorem dX10_layAll_3 : decode cX10_layAll 3 = .ok (.aload_n 0, 1) := by decide +kernel
theorem dX10_layAll_4 : decode cX10_layAll 4 = .ok (.getfield 102, 3) := by decide +kernel
theorem dX10_layAll_7 : decode cX10_layAll 7 = .ok (.if_icmp .gt 45, 3) := by decide +kernel
theorem dX10_layAll_10 : decode cX10_layAll 10 = .ok (.aload_n 0, 1) := by decide +kernel
theorem dX10_layAll_11 : decode cX10_layAll 11 = .ok (.getfield 92, 3) := by decide +kernel
theorem dX10_layAll_14 : decode cX10_layAll 14 = .ok (.iload_n 1, 1) := by decide +kernel
theorem dX10_layAll_15 : decode cX10_layAll 15 = .ok (.aload_n 0, 1) := by decide +kernel
theorem dX10_layAll_16 : decode cX10_layAll 16 = .ok (.getfield 37, 3) := by decide +kernel
theorem dX10_layAll_19 : decode cX10_layAll 19 = .ok (.iload_n 1, 1) := by decide +kernel
theorem dX10_layAll_20 : decode cX10_layAll 20 = .ok (.baload, 1) := by decide +kernel
theorem dX10_layAll_21 : decode cX10_layAll 21 = .ok (.ifCond .eq 11, 3) := by decide +kernel
theorem dX10_layAll_24 : decode cX10_layAll 24 = .ok (.aload_n 0, 1) := by decide +kernel
theorem dX10_layAll_25 : decode cX10_layAll 25 = .ok (.iload_n 1, 1) := by decide +kernel
theorem dX10_layAll_26 : decode cX10_layAll 26 = .ok (.invokevirtual 160, 3) := by decide +kernel
theorem dX10_layAll_29 : decode cX10_layAll 29 = .ok (.goto 4, 3) := by decide +kernel
theorem dX10_layAll_32 : decode cX10_layAll 32 = .ok (.iconst 0, 1) := by decide +kernel
theorem dX10_layAll_33 : decode cX10_layAll 33 = .ok (.iastore, 1) := by decide +kernel
theorem dX10_layAll_34 : decode cX10_layAll 34 = .ok (.aload_n 0, 1) := by decide +kernel
theorem dX10_layAll_35 : decode cX10_layAll 35 = .ok (.getfield 80, 3) := by decide +kernel
theorem dX10_layAll_38 : decode cX10_layAll 38 = .ok (.iload_n 1, 1) := by decide +kernel
theorem dX10_layAll_39 : decode cX10_layAll 39 = .ok (.aload_n 0, 1) := by decide +kernel
theorem dX10_layAll_40 : decode cX10_layAll 40 = .ok (.iload_n 1, 1) := by decide +kernel
theorem dX10_layAll_41 : decode cX10_layAll 41 = .ok (.invokevirtual 160, 3) := by decide +kernel
theorem dX10_layAll_44 : decode cX10_layAll 44 = .ok (.i2l, 1) := by decide +kernel
theorem dX10_layAll_45 : decode cX10_layAll 45 = .ok (.lastore, 1) := by decide +kernel
theorem dX10_layAll_46 : decode cX10_layAll 46 = .ok (.iinc 1 1, 3) := by decide +kernel
theorem dX10_layAll_49 : decode cX10_layAll 49 = .ok (.goto (-47), 3) := by decide +kernel
theorem dX10_layAll_52 : decode cX10_layAll 52 = .ok (.aload_n 0, 1) := by decide +kernel
theorem dX10_layAll_53 : decode cX10_layAll 53 = .ok (.getfield 102, 3) := by decide +kernel
theorem dX10_layAll_56 : decode cX10_layAll 56 = .ok (.istore_n 1, 1) := by decide +kernel
theorem dX10_layAll_57 : decode cX10_layAll 57 = .ok (.iload_n 1, 1) := by decide +kernel
theorem dX10_layAll_58 : decode cX10_layAll 58 = .ok (.ifCond .le 63, 3) := by decide +kernel
theorem dX10_layAll_61 : decode cX10_layAll 61 = .ok (.aload_n 0, 1) := by decide +kernel
theorem dX10_layAll_62 : decode cX10_layAll 62 = .ok (.iload_n 1, 1) := by decide +kernel
theorem dX10_layAll_63 : decode cX10_layAll 63 = .ok (.invokevirtual 105, 3) := by decide +kernel
theorem dX10_layAll_66 : decode cX10_layAll 66 = .ok (.ifCond .eq 49, 3) := by decide +kernel
theorem dX10_layAll_69 : decode cX10_layAll 69 = .ok (.aload_n 0, 1) := by decide +kernel
theorem dX10_layAll_70 : decode cX10_layAll 70 = .ok (.getfield 19, 3) := by decide +kernel
theorem dX10_layAll_73 : decode cX10_layAll 73 = .ok (.iload_n 1, 1) := by decide +kernel
theorem dX10_layAll_74 : decode cX10_layAll 74 = .ok (.iaload, 1) := by decide +kernel
theorem dX10_layAll_75 : decode cX10_layAll 75 = .ok (.ifCond .le 40, 3) := by decide +kernel
theorem dX10_layAll_78 : decode cX10_layAll 78 = .ok (.aload_n 0, 1) := by decide +kernel
theorem dX10_layAll_79 : decode cX10_layAll 79 = .ok (.getfield 92, 3) := by decide +kernel
theorem dX10_layAll_82 : decode cX10_layAll 82 = .ok (.iload_n 1, 1) := by decide +kernel
theorem dX10_layAll_83 : decode cX10_layAll 83 = .ok (.iaload, 1) := by decide +kernel
theorem dX10_layAll_84 : decode cX10_layAll 84 = .ok (.aload_n 0, 1) := by decide +kernel
theorem dX10_layAll_85 : decode cX10_layAll 85 = .ok (.getfield 92, 3) := by decide +kernel
theorem dX10_layAll_88 : decode cX10_layAll 88 = .ok (.aload_n 0, 1) := by decide +kernel
theorem dX10_layAll_89 : decode cX10_layAll 89 = .ok (.getfield 19, 3) := by decide +kernel
theorem dX10_layAll_92 : decode cX10_layAll 92 = .ok (.iload_n 1, 1) := by decide +kernel
theorem dX10_layAll_93 : decode cX10_layAll 93 = .ok (.iaload, 1) := by decide +kernel
theorem dX10_layAll_94 : decode cX10_layAll 94 = .ok (.iaload, 1) := by decide +kernel
theorem dX10_layAll_95 : decode cX10_layAll 95 = .ok (.if_icmp .le 20, 3) := by decide +kernel
theorem dX10_layAll_98 : decode cX10_layAll 98 = .ok (.aload_n 0, 1) := by decide +kernel
theorem dX10_layAll_99 : decode cX10_layAll 99 = .ok (.getfield 92, 3) := by decide +kernel
theorem dX10_layAll_102 : decode cX10_layAll 102 = .ok (.aload_n 0, 1) := by decide +kernel
theorem dX10_layAll_103 : decode cX10_layAll 103 = .ok (.getfield 19, 3) := by decide +kernel
theorem dX10_layAll_106 : decode cX10_layAll 106 = .ok (.iload_n 1, 1) := by decide +kernel
theorem dX10_layAll_107 : decode cX10_layAll 107 = .ok (.iaload, 1) := by decide +kernel
theorem dX10_layAll_108 : decode cX10_layAll 108 = .ok (.aload_n 0, 1) := by decide +kernel
theorem dX10_layAll_109 : decode cX10_layAll 109 = .ok (.getfield 92, 3) := by decide +kernel
theorem dX10_layAll_112 : decode cX10_layAll 112 = .ok (.iload_n 1, 1) := by decide +kernel
theorem dX10_layAll_113 : decode cX10_layAll 113 = .ok (.iaload, 1) := by decide +kernel
theorem dX10_layAll_114 : decode cX10_layAll 114 = .ok (.iastore, 1) := by decide +kernel
theorem dX10_layAll_115 : decode cX10_layAll 115 = .ok (.iinc 1 (-1), 3) := by decide +kernel
theorem dX10_layAll_118 : decode cX10_layAll 118 = .ok (.goto (-61), 3) := by decide +kernel
theorem dX10_layAll_121 : decode cX10_layAll 121 = .ok (.lconst 0, 1) := by decide +kernel
theorem dX10_layAll_122 : decode cX10_layAll 122 = .ok (.lstore_n 1, 1) := by decide +kernel
theorem dX10_layAll_123 : decode cX10_layAll 123 = .ok (.iconst 0, 1) := by decide +kernel
theorem dX10_layAll_124 : decode cX10_layAll 124 = .ok (.istore_n 3, 1) := by decide +kernel
theorem dX10_layAll_125 : decode cX10_layAll 125 = .ok (.iconst 1, 1) := by decide +kernel
theorem dX10_layAll_126 : decode cX10_layAll 126 = .ok (.istore 4, 2) := by decide +kernel
theorem dX10_layAll_128 : decode cX10_layAll 128 = .ok (.iload 4, 2) := by decide +kernel
theorem dX10_layAll_130 : decode cX10_layAll 130 = .ok (.aload_n 0, 1) := by decide +kernel
theorem dX10_layAll_131 : decode cX10_layAll 131 = .ok (.getfield 102, 3) := by decide +kernel
theorem dX10_layAll_134 : decode cX10_layAll 134 = .ok (.if_icmp .gt 88, 3) := by decide +kernel
theorem dX10_layAll_137 : decode cX10_layAll 137 = .ok (.aload_n 0, 1) := by decide +kernel
theorem dX10_layAll_138 : decode cX10_layAll 138 = .ok (.iload 4, 2) := by decide +kernel
theorem dX10_layAll_140 : decode cX10_layAll 140 = .ok (.invokevirtual 105, 3) := by decide +kernel
theorem dX10_layAll_143 : decode cX10_layAll 143 = .ok (.ifCond .ne 6, 3) := by decide +kernel
theorem dX10_layAll_146 : decode cX10_layAll 146 = .ok (.goto 70, 3) := by decide +kernel
theorem dX10_layAll_149 : decode cX10_layAll 149 = .ok (.iload_n 3, 1) := by decide +kernel
theorem dX10_layAll_150 : decode cX10_layAll 150 = .ok (.ifCond .le 56, 3) := by decide +kernel
theorem dX10_layAll_153 : decode cX10_layAll 153 = .ok (.iload_n 3, 1) := by decide +kernel
theorem dX10_layAll_154 : decode cX10_layAll 154 = .ok (.aload_n 0, 1) := by decide +kernel
theorem dX10_layAll_155 : decode cX10_layAll 155 = .ok (.getfield 19, 3) := by decide +kernel
theorem dX10_layAll_158 : decode cX10_layAll 158 = .ok (.iload 4, 2) := by decide +kernel
theorem dX10_layAll_160 : decode cX10_layAll 160 = .ok (.iaload, 1) := by decide +kernel
theorem dX10_layAll_161 : decode cX10_layAll 161 = .ok (.if_icmp .eq 45, 3) := by decide +kernel
theorem dX10_layAll_164 : decode cX10_layAll 164 = .ok (.aload_n 0, 1) := by decide +kernel
theorem dX10_layAll_165 : decode cX10_layAll 165 = .ok (.iload_n 3, 1) := by decide +kernel
theorem dX10_layAll_166 : decode cX10_layAll 166 = .ok (.invokevirtual 163, 3) := by decide +kernel
theorem dX10_layAll_169 : decode cX10_layAll 169 = .ok (.aload_n 0, 1) := by decide +kernel
theorem dX10_layAll_170 : decode cX10_layAll 170 = .ok (.getfield 19, 3) := by decide +kernel
theorem dX10_layAll_173 : decode cX10_layAll 173 = .ok (.iload_n 3, 1) := by decide +kernel
theorem dX10_layAll_174 : decode cX10_layAll 174 = .ok (.iaload, 1) := by decide +kernel
theorem dX10_layAll_175 : decode cX10_layAll 175 = .ok (.ifCond .ne 21, 3) := by decide +kernel
theorem dX10_layAll_178 : decode cX10_layAll 178 = .ok (.aload_n 0, 1) := by decide +kernel
theorem dX10_layAll_179 : decode cX10_layAll 179 = .ok (.getfield 86, 3) := by decide +kernel
theorem dX10_layAll_182 : decode cX10_layAll 182 = .ok (.iload_n 3, 1) := by decide +kernel
theorem dX10_layAll_183 : decode cX10_layAll 183 = .ok (.laload, 1) := by decide +kernel
theorem dX10_layAll_184 : decode cX10_layAll 184 = .ok (.lload_n 1, 1) := by decide +kernel
theorem dX10_layAll_185 : decode cX10_layAll 185 = .ok (.lcmp, 1) := by decide +kernel
theorem dX10_layAll_186 : decode cX10_layAll 186 = .ok (.ifCond .le 10, 3) := by decide +kernel
theorem dX10_layAll_189 : decode cX10_layAll 189 = .ok (.aload_n 0, 1) := by decide +kernel
theorem dX10_layAll_190 : decode cX10_layAll 190 = .ok (.getfield 86, 3) := by decide +kernel
theorem dX10_layAll_193 : decode cX10_layAll 193 = .ok (.iload_n 3, 1) := by decide +kernel
theorem dX10_layAll_194 : decode cX10_layAll 194 = .ok (.laload, 1) := by decide +kernel
theorem dX10_layAll_195 : decode cX10_layAll 195 = .ok (.lstore_n 1, 1) := by decide +kernel
theorem dX10_layAll_196 : decode cX10_layAll 196 = .ok (.aload_n 0, 1) := by decide +kernel
theorem dX10_layAll_197 : decode cX10_layAll 197 = .ok (.getfield 19, 3) := by decide +kernel
theorem dX10_layAll_200 : decode cX10_layAll 200 = .ok (.iload_n 3, 1) := by decide +kernel
theorem dX10_layAll_201 : decode cX10_layAll 201 = .ok (.iaload, 1) := by decide +kernel
theorem dX10_layAll_202 : decode cX10_layAll 202 = .ok (.istore_n 3, 1) := by decide +kernel
theorem dX10_layAll_203 : decode cX10_layAll 203 = .ok (.goto (-54), 3) := by decide +kernel
theorem dX10_layAll_206 : decode cX10_layAll 206 = .ok (.aload_n 0, 1) := by decide +kernel
theorem dX10_layAll_207 : decode cX10_layAll 207 = .ok (.iload 4, 2) := by decide +kernel
theorem dX10_layAll_209 : decode cX10_layAll 209 = .ok (.lload_n 1, 1) := by decide +kernel
theorem dX10_layAll_210 : decode cX10_layAll 210 = .ok (.invokevirtual 167, 3) := by decide +kernel
theorem dX10_layAll_213 : decode cX10_layAll 213 = .ok (.iload 4, 2) := by decide +kernel
theorem dX10_layAll_215 : decode cX10_layAll 215 = .ok (.istore_n 3, 1) := by decide +kernel
theorem dX10_layAll_216 : decode cX10_layAll 216 = .ok (.iinc 4 1, 3) := by decide +kernel
theorem dX10_layAll_219 : decode cX10_layAll 219 = .ok (.goto (-91), 3) := by decide +kernel
theorem dX10_layAll_222 : decode cX10_layAll 222 = .ok (.iload_n 3, 1) := by decide +kernel
theorem dX10_layAll_223 : decode cX10_layAll 223 = .ok (.ifCond .le 45, 3) := by decide +kernel
theorem dX10_layAll_226 : decode cX10_layAll 226 = .ok (.aload_n 0, 1) := by decide +kernel
theorem dX10_layAll_227 : decode cX10_layAll 227 = .ok (.iload_n 3, 1) := by decide +kernel
theorem dX10_layAll_228 : decode cX10_layAll 228 = .ok (.invokevirtual 163, 3) := by decide +kernel
theorem dX10_layAll_231 : decode cX10_layAll 231 = .ok (.aload_n 0, 1) := by decide +kernel
theorem dX10_layAll_232 : decode cX10_layAll 232 = .ok (.getfield 19, 3) := by decide +kernel
theorem dX10_layAll_235 : decode cX10_layAll 235 = .ok (.iload_n 3, 1) := by decide +kernel
theorem dX10_layAll_236 : decode cX10_layAll 236 = .ok (.iaload, 1) := by decide +kernel
theorem dX10_layAll_237 : decode cX10_layAll 237 = .ok (.ifCond .ne 21, 3) := by decide +kernel
theorem dX10_layAll_240 : decode cX10_layAll 240 = .ok (.aload_n 0, 1) := by decide +kernel
theorem dX10_layAll_241 : decode cX10_layAll 241 = .ok (.getfield 86, 3) := by decide +kernel
theorem dX10_layAll_244 : decode cX10_layAll 244 = .ok (.iload_n 3, 1) := by decide +kernel
theorem dX10_layAll_245 : decode cX10_layAll 245 = .ok (.laload, 1) := by decide +kernel
theorem dX10_layAll_246 : decode cX10_layAll 246 = .ok (.lload_n 1, 1) := by decide +kernel
theorem dX10_layAll_247 : decode cX10_layAll 247 = .ok (.lcmp, 1) := by decide +kernel
theorem dX10_layAll_248 : decode cX10_layAll 248 = .ok (.ifCond .le 10, 3) := by decide +kernel
theorem dX10_layAll_251 : decode cX10_layAll 251 = .ok (.aload_n 0, 1) := by decide +kernel
theorem dX10_layAll_252 : decode cX10_layAll 252 = .ok (.getfield 86, 3) := by decide +kernel
theorem dX10_layAll_255 : decode cX10_layAll 255 = .ok (.iload_n 3, 1) := by decide +kernel
theorem dX10_layAll_256 : decode cX10_layAll 256 = .ok (.laload, 1) := by decide +kernel
theorem dX10_layAll_257 : decode cX10_layAll 257 = .ok (.lstore_n 1, 1) := by decide +kernel
theorem dX10_layAll_258 : decode cX10_layAll 258 = .ok (.aload_n 0, 1) := by decide +kernel
theorem dX10_layAll_259 : decode cX10_layAll 259 = .ok (.getfield 19, 3) := by decide +kernel
theorem dX10_layAll_262 : decode cX10_layAll 262 = .ok (.iload_n 3, 1) := by decide +kernel
theorem dX10_layAll_263 : decode cX10_layAll 263 = .ok (.iaload, 1) := by decide +kernel
theorem dX10_layAll_264 : decode cX10_layAll 264 = .ok (.istore_n 3, 1) := by decide +kernel
theorem dX10_layAll_265 : decode cX10_layAll 265 = .ok (.goto (-43), 3) := by decide +kernel
theorem dX10_layAll_268 : decode cX10_layAll 268 = .ok (.aload_n 0, 1) := by decide +kernel
theorem dX10_layAll_269 : decode cX10_layAll 269 = .ok (.getfield 76, 3) := by decide +kernel
theorem dX10_layAll_272 : decode cX10_layAll 272 = .ok (.iconst 0, 1) := by decide +kernel
theorem dX10_layAll_273 : decode cX10_layAll 273 = .ok (.lload_n 1, 1) := by decide +kernel
theorem dX10_layAll_274 : decode cX10_layAll 274 = .ok (.lastore, 1) := by decide +kernel
theorem dX10_layAll_275 : decode cX10_layAll 275 = .ok (.return_, 1) := by decide +kernel
def VX10_layAll_222 (g : jg) (a0 : Nat) (x1 : Int64) (x3 : Int32) (h : jh) (k n : Nat) (Q : jq) : Prop := (((x3) ≤ 0 → (jt h a0 = 9) ∧ (¬ (jr h 539 a0) = none) ∧ (jt h (jd (jr h 539 a0)) = 22) ∧ (vp_in (0) (jn h (jd (jr h 539 a0)))) ∧ ∀ h6 : jh, h6 = jsL h (jd (jr h 539 a0)) (0 : Int32).toNatClampNeg (x1) → Q (.inl none) h6) ∧ (¬ (x3) ≤ 0 → (jt h a0 = 9) ∧ jM g mX10_close [.inr (.inr (some a0)), .inl (x3)] h 0 0 (jkv (fun (h10 : jh) => (jt h10 a0 = 9) ∧ (¬ (jr h10 517 a0) = none) ∧ (jt h10 (jd (jr h10 517 a0)) = 20) ∧ (vp_in (x3) (jn h10 (jd (jr h10 517 a0)))) ∧ ((¬ (jI h10 (jd (jr h10 517 a0)) (x3 : Int32).toNatClampNeg) = 0 → jG g mX10_layAll 222 [(0, .inr (.inr (some (a0)))), (1, .inr (.inl (x1))), (3, .inl (jI h10 (jd (jr h10 517 a0)) (x3 : Int32).toNatClampNeg))] [] h10 k n Q) ∧ ((jI h10 (jd (jr h10 517 a0)) (x3 : Int32).toNatClampNeg) = 0 → (¬ (jr h10 542 a0) = none) ∧ (jt h10 (jd (jr h10 542 a0)) = 22) ∧ (vp_in (x3) (jn h10 (jd (jr h10 542 a0)))) ∧ (((jL h10 (jd (jr h10 542 a0)) (x3 : Int32).toNatClampNeg) ≤ (x1) → jG g mX10_layAll 222 [(0, .inr (.inr (some (a0)))), (1, .inr (.inl (x1))), (3, .inl (jI h10 (jd (jr h10 517 a0)) (x3 : Int32).toNatClampNeg))] [] h10 k n Q) ∧ (¬ (jL h10 (jd (jr h10 542 a0)) (x3 : Int32).toNatClampNeg) ≤ (x1) → jG g mX10_layAll 222 [(0, .inr (.inr (some (a0)))), (1, .inr (.inl (jL h10 (jd (jr h10 542 a0)) (x3 : Int32).toNatClampNeg))), (3, .inl (jI h10 (jd (jr h10 517 a0)) (x3 : Int32).toNatClampNeg))] [] h10 k n Q))))) (fun e h9 => Q (.inr e) h9))))
set_option maxRecDepth 20000 in
theorem vX10_layAll_222 {g : jg} {a0 : Nat} {x1 : Int64} {x3 : Int32} {h : jh} {k n : Nat} {Q : jq} (hv : VX10_layAll_222 g a0 x1 x3 h k n Q) : jG g mX10_layAll 222 [(0, .inr (.inr (some (a0)))), (1, .inr (.inl (x1))), (3, .inl (x3))] [] h k n Q := by
  unfold VX10_layAll_222 at hv
  refine jg_iload_n dX10_layAll_222 rfl (List.Mem.tail _ (List.Mem.tail _ (List.Mem.head _))) ?_
  refine jg_if_le (tgt := 268) dX10_layAll_223 (by decide) (fun c1 => ?_) (fun c1 => ?_)
  · replace hv := hv.1 c1
    refine jg_aload_n dX10_layAll_268 rfl (List.Mem.head _) ?_
    obtain ⟨f2, hv⟩ := hv
    refine jg_getr dX10_layAll_269 fl_RX10_76 rfl jsn f2 ?_
    refine jg_iconst (v := 0) dX10_layAll_272 (by decide) ?_
    refine jg_lload_n dX10_layAll_273 rfl (List.Mem.tail _ (List.Mem.head _)) ?_
    obtain ⟨f3, hv⟩ := hv
    obtain ⟨f4, hv⟩ := hv
    obtain ⟨f5, hv⟩ := hv
    obtain ⟨h6, e7⟩ : ∃ z : jh, z = jsL h (jd (jr h 539 a0)) (0 : Int32).toNatClampNeg (x1) := ⟨_, rfl⟩
    replace hv := hv h6 e7
    refine jp_last dX10_layAll_274 f3 f4 f5 e7 ?_
    exact jg_vret dX10_layAll_275 rfl hv
  · replace hv := hv.2 c1
    refine jg_aload_n dX10_layAll_226 rfl (List.Mem.head _) ?_
    refine jg_iload_n dX10_layAll_227 rfl (List.Mem.tail _ (List.Mem.tail _ (List.Mem.head _))) ?_
    obtain ⟨f8, hv⟩ := hv
    refine jp_callV mX10_close [.inl (x3)] [] dX10_layAll_228 rfl cl_RX10_163 ⟨⟨by decide, by decide⟩, by decide⟩ jsn f8 (Nat.zero_le _) (Nat.zero_le _) (jM.mono (jkv_k (fun h10 hv => ?_)) hv)
    refine jg_aload_n dX10_layAll_231 rfl (List.Mem.head _) ?_
    obtain ⟨f11, hv⟩ := hv
    refine jg_getr dX10_layAll_232 fl_RX10_19 rfl jsn f11 ?_
    refine jg_iload_n dX10_layAll_235 rfl (List.Mem.tail _ (List.Mem.tail _ (List.Mem.head _))) ?_
    obtain ⟨f12, hv⟩ := hv
    obtain ⟨f13, hv⟩ := hv
    obtain ⟨f14, hv⟩ := hv
    refine jg_iald dX10_layAll_236 f12 f13 f14 ?_
    refine jg_if_ne (tgt := 258) dX10_layAll_237 (by decide) (fun c15 => ?_) (fun c15 => ?_)
    · replace hv := hv.1 c15
      refine jg_aload_n dX10_layAll_258 rfl (List.Mem.head _) ?_
      refine jg_getr dX10_layAll_259 fl_RX10_19 rfl jsn f11 ?_
      refine jg_iload_n dX10_layAll_262 rfl (List.Mem.tail _ (List.Mem.tail _ (List.Mem.head _))) ?_
      refine jg_iald dX10_layAll_263 f12 f13 f14 ?_
      refine jg_istore_n (lv' := [(3, .inl (jI h10 (jd (jr h10 517 a0)) (x3 : Int32).toNatClampNeg)), (0, .inr (.inr (some (a0)))), (1, .inr (.inl (x1)))]) dX10_layAll_264 rfl (by decide) rfl ?_
      refine jg_goto (tgt := 222) dX10_layAll_265 (by decide) ?_
      refine jG.sub (lv' := [(0, .inr (.inr (some (a0)))), (1, .inr (.inl (x1))), (3, .inl (jI h10 (jd (jr h10 517 a0)) (x3 : Int32).toNatClampNeg))]) (by simp) ?_
      exact hv
    · replace hv := hv.2 c15
      refine jg_aload_n dX10_layAll_240 rfl (List.Mem.head _) ?_
      refine jg_getr dX10_layAll_241 fl_RX10_86 rfl jsn f11 ?_
      refine jg_iload_n dX10_layAll_244 rfl (List.Mem.tail _ (List.Mem.tail _ (List.Mem.head _))) ?_
      obtain ⟨f16, hv⟩ := hv
      obtain ⟨f17, hv⟩ := hv
      obtain ⟨f18, hv⟩ := hv
      refine jg_lald dX10_layAll_245 f16 f17 f18 ?_
      refine jg_lload_n dX10_layAll_246 rfl (List.Mem.tail _ (List.Mem.head _)) ?_
      refine jg_lcmp_le (tgt := 258) dX10_layAll_247 dX10_layAll_248 (by decide) (fun c19 => ?_) (fun c19 => ?_)
      · replace hv := hv.1 c19
        refine jg_aload_n dX10_layAll_258 rfl (List.Mem.head _) ?_
        refine jg_getr dX10_layAll_259 fl_RX10_19 rfl jsn f11 ?_
        refine jg_iload_n dX10_layAll_262 rfl (List.Mem.tail _ (List.Mem.tail _ (List.Mem.head _))) ?_
        refine jg_iald dX10_layAll_263 f12 f13 f14 ?_
        refine jg_istore_n (lv' := [(3, .inl (jI h10 (jd (jr h10 517 a0)) (x3 : Int32).toNatClampNeg)), (0, .inr (.inr (some (a0)))), (1, .inr (.inl (x1)))]) dX10_layAll_264 rfl (by decide) rfl ?_
        refine jg_goto (tgt := 222) dX10_layAll_265 (by decide) ?_
        refine jG.sub (lv' := [(0, .inr (.inr (some (a0)))), (1, .inr (.inl (x1))), (3, .inl (jI h10 (jd (jr h10 517 a0)) (x3 : Int32).toNatClampNeg))]) (by simp) ?_
        exact hv
      · replace hv := hv.2 c19
        refine jg_aload_n dX10_layAll_251 rfl (List.Mem.head _) ?_
        refine jg_getr dX10_layAll_252 fl_RX10_86 rfl jsn f11 ?_
        refine jg_iload_n dX10_layAll_255 rfl (List.Mem.tail _ (List.Mem.tail _ (List.Mem.head _))) ?_
        refine jg_lald dX10_layAll_256 f16 f17 f18 ?_
        refine jg_lstore_n (lv' := [(1, .inr (.inl (jL h10 (jd (jr h10 542 a0)) (x3 : Int32).toNatClampNeg))), (0, .inr (.inr (some (a0)))), (3, .inl (x3))]) dX10_layAll_257 rfl (by decide) rfl ?_
        refine jg_aload_n dX10_layAll_258 rfl (List.Mem.tail _ (List.Mem.head _)) ?_
        refine jg_getr dX10_layAll_259 fl_RX10_19 rfl jsn f11 ?_
        refine jg_iload_n dX10_layAll_262 rfl (List.Mem.tail _ (List.Mem.tail _ (List.Mem.head _))) ?_
        refine jg_iald dX10_layAll_263 f12 f13 f14 ?_
        refine jg_istore_n (lv' := [(3, .inl (jI h10 (jd (jr h10 517 a0)) (x3 : Int32).toNatClampNeg)), (1, .inr (.inl (jL h10 (jd (jr h10 542 a0)) (x3 : Int32).toNatClampNeg))), (0, .inr (.inr (some (a0))))]) dX10_layAll_264 rfl (by decide) rfl ?_
        refine jg_goto (tgt := 222) dX10_layAll_265 (by decide) ?_
        refine jG.sub (lv' := [(0, .inr (.inr (some (a0)))), (1, .inr (.inl (jL h10 (jd (jr h10 542 a0)) (x3 : Int32).toNatClampNeg))), (3, .inl (jI h10 (jd (jr h10 517 a0)) (x3 : Int32).toNatClampNeg))]) (by simp) ?_
        exact hv
def VX10_layAll_206 (g : jg) (a0 : Nat) (x1 : Int64) (x4 : Int32) (h : jh) (k n : Nat) (Q : jq) : Prop := (jt h a0 = 9) ∧ jM g mX10_begin [.inr (.inr (some a0)), .inl (x4), .inr (.inl (x1))] h 0 0 (jkv (fun (h22 : jh) => jG g mX10_layAll 128 [(0, .inr (.inr (some (a0)))), (1, .inr (.inl (x1))), (3, .inl (x4)), (4, .inl ((x4) + 1))] [] h22 k n Q) (fun e h9 => Q (.inr e) h9))
set_option maxRecDepth 20000 in
theorem vX10_layAll_206 {g : jg} {a0 : Nat} {x1 : Int64} {x4 : Int32} {h : jh} {k n : Nat} {Q : jq} (hv : VX10_layAll_206 g a0 x1 x4 h k n Q) : jG g mX10_layAll 206 [(0, .inr (.inr (some (a0)))), (1, .inr (.inl (x1))), (4, .inl (x4))] [] h k n Q := by
  unfold VX10_layAll_206 at hv
  refine jg_aload_n dX10_layAll_206 rfl (List.Mem.head _) ?_
  refine jg_iload dX10_layAll_207 (List.Mem.tail _ (List.Mem.tail _ (List.Mem.head _))) ?_
  refine jg_lload_n dX10_layAll_209 rfl (List.Mem.tail _ (List.Mem.head _)) ?_
  obtain ⟨f20, hv⟩ := hv
  refine jp_callV mX10_begin [.inl (x4), .inr (.inl (x1))] [] dX10_layAll_210 rfl cl_RX10_167 ⟨⟨by decide, by decide⟩, by decide⟩ jsn f20 (Nat.zero_le _) (Nat.zero_le _) (jM.mono (jkv_k (fun h22 hv => ?_)) hv)
  refine jg_iload dX10_layAll_213 (List.Mem.tail _ (List.Mem.tail _ (List.Mem.head _))) ?_
  refine jg_istore_n (lv' := [(3, .inl (x4)), (0, .inr (.inr (some (a0)))), (1, .inr (.inl (x1))), (4, .inl (x4))]) dX10_layAll_215 rfl (by decide) rfl ?_
  refine jg_iinc (v := (x4) + 1) (lv' := [(4, .inl ((x4) + 1)), (3, .inl (x4)), (0, .inr (.inr (some (a0)))), (1, .inr (.inl (x1)))]) dX10_layAll_216 (List.Mem.tail _ (List.Mem.tail _ (List.Mem.tail _ (List.Mem.head _)))) rfl (by decide) rfl ?_
  refine jg_goto (tgt := 128) dX10_layAll_219 (by decide) ?_
  refine jG.sub (lv' := [(0, .inr (.inr (some (a0)))), (1, .inr (.inl (x1))), (3, .inl (x4)), (4, .inl ((x4) + 1))]) (by simp) ?_
  exact hv
def VX10_layAll_149 (g : jg) (a0 : Nat) (x1 : Int64) (x3 : Int32) (x4 : Int32) (h : jh) (k n : Nat) (Q : jq) : Prop := (((x3) ≤ 0 → VX10_layAll_206 g (a0) (x1) (x4) h k n Q) ∧ (¬ (x3) ≤ 0 → (jt h a0 = 9) ∧ (¬ (jr h 517 a0) = none) ∧ (jt h (jd (jr h 517 a0)) = 20) ∧ (vp_in (x4) (jn h (jd (jr h 517 a0)))) ∧ (((x3) = (jI h (jd (jr h 517 a0)) (x4 : Int32).toNatClampNeg) → VX10_layAll_206 g (a0) (x1) (x4) h k n Q) ∧ (¬ (x3) = (jI h (jd (jr h 517 a0)) (x4 : Int32).toNatClampNeg) → jM g mX10_close [.inr (.inr (some a0)), .inl (x3)] h 0 0 (jkv (fun (h30 : jh) => (jt h30 a0 = 9) ∧ (¬ (jr h30 517 a0) = none) ∧ (jt h30 (jd (jr h30 517 a0)) = 20) ∧ (vp_in (x3) (jn h30 (jd (jr h30 517 a0)))) ∧ ((¬ (jI h30 (jd (jr h30 517 a0)) (x3 : Int32).toNatClampNeg) = 0 → jG g mX10_layAll 149 [(0, .inr (.inr (some (a0)))), (1, .inr (.inl (x1))), (3, .inl (jI h30 (jd (jr h30 517 a0)) (x3 : Int32).toNatClampNeg)), (4, .inl (x4))] [] h30 k n Q) ∧ ((jI h30 (jd (jr h30 517 a0)) (x3 : Int32).toNatClampNeg) = 0 → (¬ (jr h30 542 a0) = none) ∧ (jt h30 (jd (jr h30 542 a0)) = 22) ∧ (vp_in (x3) (jn h30 (jd (jr h30 542 a0)))) ∧ (((jL h30 (jd (jr h30 542 a0)) (x3 : Int32).toNatClampNeg) ≤ (x1) → jG g mX10_layAll 149 [(0, .inr (.inr (some (a0)))), (1, .inr (.inl (x1))), (3, .inl (jI h30 (jd (jr h30 517 a0)) (x3 : Int32).toNatClampNeg)), (4, .inl (x4))] [] h30 k n Q) ∧ (¬ (jL h30 (jd (jr h30 542 a0)) (x3 : Int32).toNatClampNeg) ≤ (x1) → jG g mX10_layAll 149 [(0, .inr (.inr (some (a0)))), (1, .inr (.inl (jL h30 (jd (jr h30 542 a0)) (x3 : Int32).toNatClampNeg))), (3, .inl (jI h30 (jd (jr h30 517 a0)) (x3 : Int32).toNatClampNeg)), (4, .inl (x4))] [] h30 k n Q))))) (fun e h9 => Q (.inr e) h9))))))
set_option maxRecDepth 20000 in
theorem vX10_layAll_149 {g : jg} {a0 : Nat} {x1 : Int64} {x3 : Int32} {x4 : Int32} {h : jh} {k n : Nat} {Q : jq} (hv : VX10_layAll_149 g a0 x1 x3 x4 h k n Q) : jG g mX10_layAll 149 [(0, .inr (.inr (some (a0)))), (1, .inr (.inl (x1))), (3, .inl (x3)), (4, .inl (x4))] [] h k n Q := by
  unfold VX10_layAll_149 at hv
  refine jg_iload_n dX10_layAll_149 rfl (List.Mem.tail _ (List.Mem.tail _ (List.Mem.head _))) ?_
  refine jg_if_le (tgt := 206) dX10_layAll_150 (by decide) (fun c23 => ?_) (fun c23 => ?_)
  · replace hv := hv.1 c23
    refine jG.sub (lv' := [(0, .inr (.inr (some (a0)))), (1, .inr (.inl (x1))), (4, .inl (x4))]) (by simp) ?_
    exact vX10_layAll_206 hv
  · replace hv := hv.2 c23
    refine jg_iload_n dX10_layAll_153 rfl (List.Mem.tail _ (List.Mem.tail _ (List.Mem.head _))) ?_
    refine jg_aload_n dX10_layAll_154 rfl (List.Mem.head _) ?_
    obtain ⟨f24, hv⟩ := hv
    refine jg_getr dX10_layAll_155 fl_RX10_19 rfl jsn f24 ?_
    refine jg_iload dX10_layAll_158 (List.Mem.tail _ (List.Mem.tail _ (List.Mem.tail _ (List.Mem.head _)))) ?_
    obtain ⟨f25, hv⟩ := hv
    obtain ⟨f26, hv⟩ := hv
    obtain ⟨f27, hv⟩ := hv
    refine jg_iald dX10_layAll_160 f25 f26 f27 ?_
    refine jg_icmp_eq (tgt := 206) dX10_layAll_161 (by decide) (fun c28 => ?_) (fun c28 => ?_)
    · replace hv := hv.1 c28
      refine jG.sub (lv' := [(0, .inr (.inr (some (a0)))), (1, .inr (.inl (x1))), (4, .inl (x4))]) (by simp) ?_
      exact vX10_layAll_206 hv
    · replace hv := hv.2 c28
      refine jg_aload_n dX10_layAll_164 rfl (List.Mem.head _) ?_
      refine jg_iload_n dX10_layAll_165 rfl (List.Mem.tail _ (List.Mem.tail _ (List.Mem.head _))) ?_
      refine jp_callV mX10_close [.inl (x3)] [] dX10_layAll_166 rfl cl_RX10_163 ⟨⟨by decide, by decide⟩, by decide⟩ jsn f24 (Nat.zero_le _) (Nat.zero_le _) (jM.mono (jkv_k (fun h30 hv => ?_)) hv)
      refine jg_aload_n dX10_layAll_169 rfl (List.Mem.head _) ?_
      obtain ⟨f31, hv⟩ := hv
      refine jg_getr dX10_layAll_170 fl_RX10_19 rfl jsn f31 ?_
      refine jg_iload_n dX10_layAll_173 rfl (List.Mem.tail _ (List.Mem.tail _ (List.Mem.head _))) ?_
      obtain ⟨f32, hv⟩ := hv
      obtain ⟨f33, hv⟩ := hv
      obtain ⟨f34, hv⟩ := hv
      refine jg_iald dX10_layAll_174 f32 f33 f34 ?_
      refine jg_if_ne (tgt := 196) dX10_layAll_175 (by decide) (fun c35 => ?_) (fun c35 => ?_)
      · replace hv := hv.1 c35
        refine jg_aload_n dX10_layAll_196 rfl (List.Mem.head _) ?_
        refine jg_getr dX10_layAll_197 fl_RX10_19 rfl jsn f31 ?_
        refine jg_iload_n dX10_layAll_200 rfl (List.Mem.tail _ (List.Mem.tail _ (List.Mem.head _))) ?_
        refine jg_iald dX10_layAll_201 f32 f33 f34 ?_
        refine jg_istore_n (lv' := [(3, .inl (jI h30 (jd (jr h30 517 a0)) (x3 : Int32).toNatClampNeg)), (0, .inr (.inr (some (a0)))), (1, .inr (.inl (x1))), (4, .inl (x4))]) dX10_layAll_202 rfl (by decide) rfl ?_
        refine jg_goto (tgt := 149) dX10_layAll_203 (by decide) ?_
        refine jG.sub (lv' := [(0, .inr (.inr (some (a0)))), (1, .inr (.inl (x1))), (3, .inl (jI h30 (jd (jr h30 517 a0)) (x3 : Int32).toNatClampNeg)), (4, .inl (x4))]) (by simp) ?_
        exact hv
      · replace hv := hv.2 c35
        refine jg_aload_n dX10_layAll_178 rfl (List.Mem.head _) ?_
        refine jg_getr dX10_layAll_179 fl_RX10_86 rfl jsn f31 ?_
        refine jg_iload_n dX10_layAll_182 rfl (List.Mem.tail _ (List.Mem.tail _ (List.Mem.head _))) ?_
        obtain ⟨f36, hv⟩ := hv
        obtain ⟨f37, hv⟩ := hv
        obtain ⟨f38, hv⟩ := hv
        refine jg_lald dX10_layAll_183 f36 f37 f38 ?_
        refine jg_lload_n dX10_layAll_184 rfl (List.Mem.tail _ (List.Mem.head _)) ?_
        refine jg_lcmp_le (tgt := 196) dX10_layAll_185 dX10_layAll_186 (by decide) (fun c39 => ?_) (fun c39 => ?_)
        · replace hv := hv.1 c39
          refine jg_aload_n dX10_layAll_196 rfl (List.Mem.head _) ?_
          refine jg_getr dX10_layAll_197 fl_RX10_19 rfl jsn f31 ?_
          refine jg_iload_n dX10_layAll_200 rfl (List.Mem.tail _ (List.Mem.tail _ (List.Mem.head _))) ?_
          refine jg_iald dX10_layAll_201 f32 f33 f34 ?_
          refine jg_istore_n (lv' := [(3, .inl (jI h30 (jd (jr h30 517 a0)) (x3 : Int32).toNatClampNeg)), (0, .inr (.inr (some (a0)))), (1, .inr (.inl (x1))), (4, .inl (x4))]) dX10_layAll_202 rfl (by decide) rfl ?_
          refine jg_goto (tgt := 149) dX10_layAll_203 (by decide) ?_
          refine jG.sub (lv' := [(0, .inr (.inr (some (a0)))), (1, .inr (.inl (x1))), (3, .inl (jI h30 (jd (jr h30 517 a0)) (x3 : Int32).toNatClampNeg)), (4, .inl (x4))]) (by simp) ?_
          exact hv
        · replace hv := hv.2 c39
          refine jg_aload_n dX10_layAll_189 rfl (List.Mem.head _) ?_
          refine jg_getr dX10_layAll_190 fl_RX10_86 rfl jsn f31 ?_
          refine jg_iload_n dX10_layAll_193 rfl (List.Mem.tail _ (List.Mem.tail _ (List.Mem.head _))) ?_
          refine jg_lald dX10_layAll_194 f36 f37 f38 ?_
          refine jg_lstore_n (lv' := [(1, .inr (.inl (jL h30 (jd (jr h30 542 a0)) (x3 : Int32).toNatClampNeg))), (0, .inr (.inr (some (a0)))), (3, .inl (x3)), (4, .inl (x4))]) dX10_layAll_195 rfl (by decide) rfl ?_
          refine jg_aload_n dX10_layAll_196 rfl (List.Mem.tail _ (List.Mem.head _)) ?_
          refine jg_getr dX10_layAll_197 fl_RX10_19 rfl jsn f31 ?_
          refine jg_iload_n dX10_layAll_200 rfl (List.Mem.tail _ (List.Mem.tail _ (List.Mem.head _))) ?_
          refine jg_iald dX10_layAll_201 f32 f33 f34 ?_
          refine jg_istore_n (lv' := [(3, .inl (jI h30 (jd (jr h30 517 a0)) (x3 : Int32).toNatClampNeg)), (1, .inr (.inl (jL h30 (jd (jr h30 542 a0)) (x3 : Int32).toNatClampNeg))), (0, .inr (.inr (some (a0)))), (4, .inl (x4))]) dX10_layAll_202 rfl (by decide) rfl ?_
          refine jg_goto (tgt := 149) dX10_layAll_203 (by decide) ?_
          refine jG.sub (lv' := [(0, .inr (.inr (some (a0)))), (1, .inr (.inl (jL h30 (jd (jr h30 542 a0)) (x3 : Int32).toNatClampNeg))), (3, .inl (jI h30 (jd (jr h30 517 a0)) (x3 : Int32).toNatClampNeg)), (4, .inl (x4))]) (by simp) ?_
          exact hv
def VX10_layAll_128 (g : jg) (a0 : Nat) (x1 : Int64) (x3 : Int32) (x4 : Int32) (h : jh) (k n : Nat) (Q : jq) : Prop := (jt h a0 = 9) ∧ (((ji h 513 a0) < (x4) → jG g mX10_layAll 222 [(0, .inr (.inr (some (a0)))), (1, .inr (.inl (x1))), (3, .inl (x3))] [] h k n Q) ∧ (¬ (ji h 513 a0) < (x4) → jM g mX10_lies [.inr (.inr (some a0)), .inl (x4)] h 0 0 (jki (fun (r42 : Int32) (h43 : jh) => ((¬ (r42) = 0 → jG g mX10_layAll 149 [(0, .inr (.inr (some (a0)))), (1, .inr (.inl (x1))), (3, .inl (x3)), (4, .inl (x4))] [] h43 k n Q) ∧ ((r42) = 0 → jG g mX10_layAll 128 [(0, .inr (.inr (some (a0)))), (1, .inr (.inl (x1))), (3, .inl (x3)), (4, .inl ((x4) + 1))] [] h43 k n Q))) (fun e h9 => Q (.inr e) h9))))
set_option maxRecDepth 20000 in
theorem vX10_layAll_128 {g : jg} {a0 : Nat} {x1 : Int64} {x3 : Int32} {x4 : Int32} {h : jh} {k n : Nat} {Q : jq} (hv : VX10_layAll_128 g a0 x1 x3 x4 h k n Q) : jG g mX10_layAll 128 [(0, .inr (.inr (some (a0)))), (1, .inr (.inl (x1))), (3, .inl (x3)), (4, .inl (x4))] [] h k n Q := by
  unfold VX10_layAll_128 at hv
  refine jg_iload dX10_layAll_128 (List.Mem.tail _ (List.Mem.tail _ (List.Mem.tail _ (List.Mem.head _)))) ?_
  refine jg_aload_n dX10_layAll_130 rfl (List.Mem.head _) ?_
  obtain ⟨f40, hv⟩ := hv
  refine jg_geti dX10_layAll_131 fl_RX10_102 rfl jsn f40 ?_
  refine jg_icmp_gt (tgt := 222) dX10_layAll_134 (by decide) (fun c41 => ?_) (fun c41 => ?_)
  · replace hv := hv.1 c41
    refine jG.sub (lv' := [(0, .inr (.inr (some (a0)))), (1, .inr (.inl (x1))), (3, .inl (x3))]) (by simp) ?_
    exact hv
  · replace hv := hv.2 c41
    refine jg_aload_n dX10_layAll_137 rfl (List.Mem.head _) ?_
    refine jg_iload dX10_layAll_138 (List.Mem.tail _ (List.Mem.tail _ (List.Mem.tail _ (List.Mem.head _)))) ?_
    refine jp_callV mX10_lies [.inl (x4)] [] dX10_layAll_140 rfl cl_RX10_105 ⟨⟨by decide, by decide⟩, by decide⟩ jsn f40 (Nat.zero_le _) (Nat.zero_le _) (jM.mono (jki_k (fun r42 h43 hv => ?_)) hv)
    refine jg_if_ne (tgt := 149) dX10_layAll_143 (by decide) (fun c44 => ?_) (fun c44 => ?_)
    · replace hv := hv.1 c44
      exact hv
    · replace hv := hv.2 c44
      refine jg_goto (tgt := 216) dX10_layAll_146 (by decide) ?_
      refine jg_iinc (v := (x4) + 1) (lv' := [(4, .inl ((x4) + 1)), (0, .inr (.inr (some (a0)))), (1, .inr (.inl (x1))), (3, .inl (x3))]) dX10_layAll_216 (List.Mem.tail _ (List.Mem.tail _ (List.Mem.tail _ (List.Mem.head _)))) rfl (by decide) rfl ?_
      refine jg_goto (tgt := 128) dX10_layAll_219 (by decide) ?_
      refine jG.sub (lv' := [(0, .inr (.inr (some (a0)))), (1, .inr (.inl (x1))), (3, .inl (x3)), (4, .inl ((x4) + 1))]) (by simp) ?_
      exact hv
def VX10_layAll_57 (g : jg) (a0 : Nat) (x1 : Int32) (h : jh) (k n : Nat) (Q : jq) : Prop := (((x1) ≤ 0 → jG g mX10_layAll 128 [(0, .inr (.inr (some (a0)))), (1, .inr (.inl (0))), (3, .inl (0)), (4, .inl (1))] [] h k n Q) ∧ (¬ (x1) ≤ 0 → (jt h a0 = 9) ∧ jM g mX10_lies [.inr (.inr (some a0)), .inl (x1)] h 0 0 (jki (fun (r47 : Int32) (h48 : jh) => (((r47) = 0 → jG g mX10_layAll 57 [(0, .inr (.inr (some (a0)))), (1, .inl ((x1) + (-1)))] [] h48 k n Q) ∧ (¬ (r47) = 0 → (jt h48 a0 = 9) ∧ (¬ (jr h48 517 a0) = none) ∧ (jt h48 (jd (jr h48 517 a0)) = 20) ∧ (vp_in (x1) (jn h48 (jd (jr h48 517 a0)))) ∧ (((jI h48 (jd (jr h48 517 a0)) (x1 : Int32).toNatClampNeg) ≤ 0 → jG g mX10_layAll 57 [(0, .inr (.inr (some (a0)))), (1, .inl ((x1) + (-1)))] [] h48 k n Q) ∧ (¬ (jI h48 (jd (jr h48 517 a0)) (x1 : Int32).toNatClampNeg) ≤ 0 → (¬ (jr h48 544 a0) = none) ∧ (jt h48 (jd (jr h48 544 a0)) = 20) ∧ (vp_in (x1) (jn h48 (jd (jr h48 544 a0)))) ∧ (vp_in (jI h48 (jd (jr h48 517 a0)) (x1 : Int32).toNatClampNeg) (jn h48 (jd (jr h48 544 a0)))) ∧ (((jI h48 (jd (jr h48 544 a0)) (x1 : Int32).toNatClampNeg) ≤ (jI h48 (jd (jr h48 544 a0)) (jI h48 (jd (jr h48 517 a0)) (x1 : Int32).toNatClampNeg : Int32).toNatClampNeg) → jG g mX10_layAll 57 [(0, .inr (.inr (some (a0)))), (1, .inl ((x1) + (-1)))] [] h48 k n Q) ∧ (¬ (jI h48 (jd (jr h48 544 a0)) (x1 : Int32).toNatClampNeg) ≤ (jI h48 (jd (jr h48 544 a0)) (jI h48 (jd (jr h48 517 a0)) (x1 : Int32).toNatClampNeg : Int32).toNatClampNeg) → ∀ h60 : jh, h60 = jsI h48 (jd (jr h48 544 a0)) (jI h48 (jd (jr h48 517 a0)) (x1 : Int32).toNatClampNeg : Int32).toNatClampNeg (jI h48 (jd (jr h48 544 a0)) (x1 : Int32).toNatClampNeg) → jG g mX10_layAll 57 [(0, .inr (.inr (some (a0)))), (1, .inl ((x1) + (-1)))] [] h60 k n Q))))))) (fun e h9 => Q (.inr e) h9))))
set_option maxRecDepth 20000 in
theorem vX10_layAll_57 {g : jg} {a0 : Nat} {x1 : Int32} {h : jh} {k n : Nat} {Q : jq} (hv : VX10_layAll_57 g a0 x1 h k n Q) : jG g mX10_layAll 57 [(0, .inr (.inr (some (a0)))), (1, .inl (x1))] [] h k n Q := by
  unfold VX10_layAll_57 at hv
  refine jg_iload_n dX10_layAll_57 rfl (List.Mem.tail _ (List.Mem.head _)) ?_
  refine jg_if_le (tgt := 121) dX10_layAll_58 (by decide) (fun c45 => ?_) (fun c45 => ?_)
  · replace hv := hv.1 c45
    refine jg_lconst (v := 0) dX10_layAll_121 (by decide) ?_
    refine jg_lstore_n (lv' := [(1, .inr (.inl (0))), (0, .inr (.inr (some (a0))))]) dX10_layAll_122 rfl (by decide) rfl ?_
    refine jg_iconst (v := 0) dX10_layAll_123 (by decide) ?_
    refine jg_istore_n (lv' := [(3, .inl (0)), (1, .inr (.inl (0))), (0, .inr (.inr (some (a0))))]) dX10_layAll_124 rfl (by decide) rfl ?_
    refine jg_iconst (v := 1) dX10_layAll_125 (by decide) ?_
    refine jg_istore (lv' := [(4, .inl (1)), (3, .inl (0)), (1, .inr (.inl (0))), (0, .inr (.inr (some (a0))))]) dX10_layAll_126 (by decide) rfl ?_
    refine jG.sub (lv' := [(0, .inr (.inr (some (a0)))), (1, .inr (.inl (0))), (3, .inl (0)), (4, .inl (1))]) (by simp) ?_
    exact hv
  · replace hv := hv.2 c45
    refine jg_aload_n dX10_layAll_61 rfl (List.Mem.head _) ?_
    refine jg_iload_n dX10_layAll_62 rfl (List.Mem.tail _ (List.Mem.head _)) ?_
    obtain ⟨f46, hv⟩ := hv
    refine jp_callV mX10_lies [.inl (x1)] [] dX10_layAll_63 rfl cl_RX10_105 ⟨⟨by decide, by decide⟩, by decide⟩ jsn f46 (Nat.zero_le _) (Nat.zero_le _) (jM.mono (jki_k (fun r47 h48 hv => ?_)) hv)
    refine jg_if_eq (tgt := 115) dX10_layAll_66 (by decide) (fun c49 => ?_) (fun c49 => ?_)
    · replace hv := hv.1 c49
      refine jg_iinc (v := (x1) + (-1)) (lv' := [(1, .inl ((x1) + (-1))), (0, .inr (.inr (some (a0))))]) dX10_layAll_115 (List.Mem.tail _ (List.Mem.head _)) rfl (by decide) rfl ?_
      refine jg_goto (tgt := 57) dX10_layAll_118 (by decide) ?_
      refine jG.sub (lv' := [(0, .inr (.inr (some (a0)))), (1, .inl ((x1) + (-1)))]) (by simp) ?_
      exact hv
    · replace hv := hv.2 c49
      refine jg_aload_n dX10_layAll_69 rfl (List.Mem.head _) ?_
      obtain ⟨f50, hv⟩ := hv
      refine jg_getr dX10_layAll_70 fl_RX10_19 rfl jsn f50 ?_
      refine jg_iload_n dX10_layAll_73 rfl (List.Mem.tail _ (List.Mem.head _)) ?_
      obtain ⟨f51, hv⟩ := hv
      obtain ⟨f52, hv⟩ := hv
      obtain ⟨f53, hv⟩ := hv
      refine jg_iald dX10_layAll_74 f51 f52 f53 ?_
      refine jg_if_le (tgt := 115) dX10_layAll_75 (by decide) (fun c54 => ?_) (fun c54 => ?_)
      · replace hv := hv.1 c54
        refine jg_iinc (v := (x1) + (-1)) (lv' := [(1, .inl ((x1) + (-1))), (0, .inr (.inr (some (a0))))]) dX10_layAll_115 (List.Mem.tail _ (List.Mem.head _)) rfl (by decide) rfl ?_
        refine jg_goto (tgt := 57) dX10_layAll_118 (by decide) ?_
        refine jG.sub (lv' := [(0, .inr (.inr (some (a0)))), (1, .inl ((x1) + (-1)))]) (by simp) ?_
        exact hv
      · replace hv := hv.2 c54
        refine jg_aload_n dX10_layAll_78 rfl (List.Mem.head _) ?_
        refine jg_getr dX10_layAll_79 fl_RX10_92 rfl jsn f50 ?_
        refine jg_iload_n dX10_layAll_82 rfl (List.Mem.tail _ (List.Mem.head _)) ?_
        obtain ⟨f55, hv⟩ := hv
        obtain ⟨f56, hv⟩ := hv
        obtain ⟨f57, hv⟩ := hv
        refine jg_iald dX10_layAll_83 f55 f56 f57 ?_
        refine jg_aload_n dX10_layAll_84 rfl (List.Mem.head _) ?_
        refine jg_getr dX10_layAll_85 fl_RX10_92 rfl jsn f50 ?_
        refine jg_aload_n dX10_layAll_88 rfl (List.Mem.head _) ?_
        refine jg_getr dX10_layAll_89 fl_RX10_19 rfl jsn f50 ?_
        refine jg_iload_n dX10_layAll_92 rfl (List.Mem.tail _ (List.Mem.head _)) ?_
        refine jg_iald dX10_layAll_93 f51 f52 f53 ?_
        obtain ⟨f58, hv⟩ := hv
        refine jg_iald dX10_layAll_94 f55 f56 f58 ?_
        refine jg_icmp_le (tgt := 115) dX10_layAll_95 (by decide) (fun c59 => ?_) (fun c59 => ?_)
        · replace hv := hv.1 c59
          refine jg_iinc (v := (x1) + (-1)) (lv' := [(1, .inl ((x1) + (-1))), (0, .inr (.inr (some (a0))))]) dX10_layAll_115 (List.Mem.tail _ (List.Mem.head _)) rfl (by decide) rfl ?_
          refine jg_goto (tgt := 57) dX10_layAll_118 (by decide) ?_
          refine jG.sub (lv' := [(0, .inr (.inr (some (a0)))), (1, .inl ((x1) + (-1)))]) (by simp) ?_
          exact hv
        · replace hv := hv.2 c59
          refine jg_aload_n dX10_layAll_98 rfl (List.Mem.head _) ?_
          refine jg_getr dX10_layAll_99 fl_RX10_92 rfl jsn f50 ?_
          refine jg_aload_n dX10_layAll_102 rfl (List.Mem.head _) ?_
          refine jg_getr dX10_layAll_103 fl_RX10_19 rfl jsn f50 ?_
          refine jg_iload_n dX10_layAll_106 rfl (List.Mem.tail _ (List.Mem.head _)) ?_
          refine jg_iald dX10_layAll_107 f51 f52 f53 ?_
          refine jg_aload_n dX10_layAll_108 rfl (List.Mem.head _) ?_
          refine jg_getr dX10_layAll_109 fl_RX10_92 rfl jsn f50 ?_
          refine jg_iload_n dX10_layAll_112 rfl (List.Mem.tail _ (List.Mem.head _)) ?_
          refine jg_iald dX10_layAll_113 f55 f56 f57 ?_
          obtain ⟨h60, e61⟩ : ∃ z : jh, z = jsI h48 (jd (jr h48 544 a0)) (jI h48 (jd (jr h48 517 a0)) (x1 : Int32).toNatClampNeg : Int32).toNatClampNeg (jI h48 (jd (jr h48 544 a0)) (x1 : Int32).toNatClampNeg) := ⟨_, rfl⟩
          replace hv := hv h60 e61
          refine jp_iast dX10_layAll_114 f55 f56 f58 e61 ?_
          refine jg_iinc (v := (x1) + (-1)) (lv' := [(1, .inl ((x1) + (-1))), (0, .inr (.inr (some (a0))))]) dX10_layAll_115 (List.Mem.tail _ (List.Mem.head _)) rfl (by decide) rfl ?_
          refine jg_goto (tgt := 57) dX10_layAll_118 (by decide) ?_
          refine jG.sub (lv' := [(0, .inr (.inr (some (a0)))), (1, .inl ((x1) + (-1)))]) (by simp) ?_
          exact hv
def VX10_layAll_33 (g : jg) (a0 : Nat) (x1 : Int32) (so0 : Option Nat) (s1 : Int32) (s2 : Int32) (h : jh) (k n : Nat) (Q : jq) : Prop := (¬ (so0) = none) ∧ (jt h (jd (so0)) = 20) ∧ (vp_in (s1) (jn h (jd (so0)))) ∧ ∀ h65 : jh, h65 = jsI h (jd (so0)) (s1 : Int32).toNatClampNeg (s2) → (jt h65 a0 = 9) ∧ jM g mX10_bytesOf [.inr (.inr (some a0)), .inl (x1)] h65 0 0 (jki (fun (r68 : Int32) (h69 : jh) => (¬ (jr h65 540 a0) = none) ∧ (jt h69 (jd (jr h65 540 a0)) = 22) ∧ (vp_in (x1) (jn h69 (jd (jr h65 540 a0)))) ∧ ∀ h73 : jh, h73 = jsL h69 (jd (jr h65 540 a0)) (x1 : Int32).toNatClampNeg ((r68 : Int32).toInt64) → jG g mX10_layAll 2 [(0, .inr (.inr (some (a0)))), (1, .inl ((x1) + 1))] [] h73 k n Q) (fun e h9 => Q (.inr e) h9))
set_option maxRecDepth 20000 in
theorem vX10_layAll_33 {g : jg} {a0 : Nat} {x1 : Int32} {so0 : Option Nat} {s1 : Int32} {s2 : Int32} {h : jh} {k n : Nat} {Q : jq} (hv : VX10_layAll_33 g a0 x1 so0 s1 s2 h k n Q) : jG g mX10_layAll 33 [(0, .inr (.inr (some (a0)))), (1, .inl (x1))] [.inl (s2), .inl (s1), .inr (.inr (so0))] h k n Q := by
  unfold VX10_layAll_33 at hv
  obtain ⟨f62, hv⟩ := hv
  obtain ⟨f63, hv⟩ := hv
  obtain ⟨f64, hv⟩ := hv
  obtain ⟨h65, e66⟩ : ∃ z : jh, z = jsI h (jd (so0)) (s1 : Int32).toNatClampNeg (s2) := ⟨_, rfl⟩
  replace hv := hv h65 e66
  refine jp_iast dX10_layAll_33 f62 f63 f64 e66 ?_
  refine jg_aload_n dX10_layAll_34 rfl (List.Mem.head _) ?_
  obtain ⟨f67, hv⟩ := hv
  refine jg_getr dX10_layAll_35 fl_RX10_80 rfl jsn f67 ?_
  refine jg_iload_n dX10_layAll_38 rfl (List.Mem.tail _ (List.Mem.head _)) ?_
  refine jg_aload_n dX10_layAll_39 rfl (List.Mem.head _) ?_
  refine jg_iload_n dX10_layAll_40 rfl (List.Mem.tail _ (List.Mem.head _)) ?_
  refine jp_callV mX10_bytesOf [.inl (x1)] [.inl (x1), .inr (.inr (jr h65 540 a0))] dX10_layAll_41 rfl cl_RX10_160 ⟨⟨by decide, by decide⟩, jcat_le _ (Nat.le_of_ble_eq_true rfl)⟩ jsn f67 (Nat.zero_le _) (Nat.zero_le _) (jM.mono (jki_k (fun r68 h69 hv => ?_)) hv)
  refine jg_i2l dX10_layAll_44 ?_
  obtain ⟨f70, hv⟩ := hv
  obtain ⟨f71, hv⟩ := hv
  obtain ⟨f72, hv⟩ := hv
  obtain ⟨h73, e74⟩ : ∃ z : jh, z = jsL h69 (jd (jr h65 540 a0)) (x1 : Int32).toNatClampNeg ((r68 : Int32).toInt64) := ⟨_, rfl⟩
  replace hv := hv h73 e74
  refine jp_last dX10_layAll_45 f70 f71 f72 e74 ?_
  refine jg_iinc (v := (x1) + 1) (lv' := [(1, .inl ((x1) + 1)), (0, .inr (.inr (some (a0))))]) dX10_layAll_46 (List.Mem.tail _ (List.Mem.head _)) rfl (by decide) rfl ?_
  refine jg_goto (tgt := 2) dX10_layAll_49 (by decide) ?_
  refine jG.sub (lv' := [(0, .inr (.inr (some (a0)))), (1, .inl ((x1) + 1))]) (by simp) ?_
  exact hv
def VX10_layAll_2 (g : jg) (a0 : Nat) (x1 : Int32) (h : jh) (k n : Nat) (Q : jq) : Prop := (jt h a0 = 9) ∧ (((ji h 513 a0) < (x1) → jG g mX10_layAll 57 [(0, .inr (.inr (some (a0)))), (1, .inl (ji h 513 a0))] [] h k n Q) ∧ (¬ (ji h 513 a0) < (x1) → (¬ (jr h 523 a0) = none) ∧ (jt h (jd (jr h 523 a0)) = 24) ∧ (vp_in (x1) (jn h (jd (jr h 523 a0)))) ∧ (((jI h (jd (jr h 523 a0)) (x1 : Int32).toNatClampNeg) = 0 → VX10_layAll_33 g (a0) (x1) (jr h 544 a0) (x1) (0) h k n Q) ∧ (¬ (jI h (jd (jr h 523 a0)) (x1 : Int32).toNatClampNeg) = 0 → jM g mX10_bytesOf [.inr (.inr (some a0)), .inl (x1)] h 0 0 (jki (fun (r81 : Int32) (h82 : jh) => VX10_layAll_33 g (a0) (x1) (jr h 544 a0) (x1) (r81) h82 k n Q) (fun e h9 => Q (.inr e) h9))))))
set_option maxRecDepth 20000 in
theorem vX10_layAll_2 {g : jg} {a0 : Nat} {x1 : Int32} {h : jh} {k n : Nat} {Q : jq} (hv : VX10_layAll_2 g a0 x1 h k n Q) : jG g mX10_layAll 2 [(0, .inr (.inr (some (a0)))), (1, .inl (x1))] [] h k n Q := by
  unfold VX10_layAll_2 at hv
  refine jg_iload_n dX10_layAll_2 rfl (List.Mem.tail _ (List.Mem.head _)) ?_
  refine jg_aload_n dX10_layAll_3 rfl (List.Mem.head _) ?_
  obtain ⟨f75, hv⟩ := hv
  refine jg_geti dX10_layAll_4 fl_RX10_102 rfl jsn f75 ?_
  refine jg_icmp_gt (tgt := 52) dX10_layAll_7 (by decide) (fun c76 => ?_) (fun c76 => ?_)
  · replace hv := hv.1 c76
    refine jg_aload_n dX10_layAll_52 rfl (List.Mem.head _) ?_
    refine jg_geti dX10_layAll_53 fl_RX10_102 rfl jsn f75 ?_
    refine jg_istore_n (lv' := [(1, .inl (ji h 513 a0)), (0, .inr (.inr (some (a0))))]) dX10_layAll_56 rfl (by decide) rfl ?_
    refine jG.sub (lv' := [(0, .inr (.inr (some (a0)))), (1, .inl (ji h 513 a0))]) (by simp) ?_
    exact hv
  · replace hv := hv.2 c76
    refine jg_aload_n dX10_layAll_10 rfl (List.Mem.head _) ?_
    refine jg_getr dX10_layAll_11 fl_RX10_92 rfl jsn f75 ?_
    refine jg_iload_n dX10_layAll_14 rfl (List.Mem.tail _ (List.Mem.head _)) ?_
    refine jg_aload_n dX10_layAll_15 rfl (List.Mem.head _) ?_
    refine jg_getr dX10_layAll_16 fl_RX10_37 rfl jsn f75 ?_
    refine jg_iload_n dX10_layAll_19 rfl (List.Mem.tail _ (List.Mem.head _)) ?_
    obtain ⟨f77, hv⟩ := hv
    obtain ⟨f78, hv⟩ := hv
    obtain ⟨f79, hv⟩ := hv
    refine jg_zald dX10_layAll_20 f77 f78 f79 ?_
    refine jg_if_eq (tgt := 32) dX10_layAll_21 (by decide) (fun c80 => ?_) (fun c80 => ?_)
    · replace hv := hv.1 c80
      refine jg_iconst (v := 0) dX10_layAll_32 (by decide) ?_
      exact vX10_layAll_33 hv
    · replace hv := hv.2 c80
      refine jg_aload_n dX10_layAll_24 rfl (List.Mem.head _) ?_
      refine jg_iload_n dX10_layAll_25 rfl (List.Mem.tail _ (List.Mem.head _)) ?_
      refine jp_callV mX10_bytesOf [.inl (x1)] [.inl (x1), .inr (.inr (jr h 544 a0))] dX10_layAll_26 rfl cl_RX10_160 ⟨⟨by decide, by decide⟩, jcat_le _ (Nat.le_of_ble_eq_true rfl)⟩ jsn f75 (Nat.zero_le _) (Nat.zero_le _) (jM.mono (jki_k (fun r81 h82 hv => ?_)) hv)
      refine jg_goto (tgt := 33) dX10_layAll_29 (by decide) ?_
      exact vX10_layAll_33 hv
def VX10_layAll_0 (g : jg) (a0 : Nat) (h : jh) (k n : Nat) (Q : jq) : Prop := jG g mX10_layAll 2 [(0, .inr (.inr (some (a0)))), (1, .inl (1))] [] h k n Q
set_option maxRecDepth 20000 in
theorem vX10_layAll_0 {g : jg} {a0 : Nat} {h : jh} {k n : Nat} {Q : jq} (hv : VX10_layAll_0 g a0 h k n Q) : jG g mX10_layAll 0 [(0, .inr (.inr (some (a0))))] [] h k n Q := by
  unfold VX10_layAll_0 at hv
  refine jg_iconst (v := 1) dX10_layAll_0 (by decide) ?_
  refine jg_istore_n (lv' := [(1, .inl (1)), (0, .inr (.inr (some (a0))))]) dX10_layAll_1 rfl (by decide) rfl ?_
  refine jG.sub (lv' := [(0, .inr (.inr (some (a0)))), (1, .inl (1))]) (by simp) ?_
  exact hv
theorem eX10_layAll {g : jg} {a0 : Nat} {h : jh} {mc ms : Nat} {Q : jq} (hv : VX10_layAll_0 g a0 h mc ms Q) : jM g mX10_layAll [.inr (.inr (some (a0)))] h mc ms Q := jM.of (by decide) (Nat.le_of_ble_eq_true rfl) (lv := [(0, .inr (.inr (some (a0))))]) rfl (vX10_layAll_0 hv)
theorem dX10_begin_0 : decode cX10_begin 0 = .ok (.aload_n 0, 1) := by decide +kernel
theorem dX10_begin_1 : decode cX10_begin 1 = .ok (.getfield 89, 3) := by decide +kernel
theorem dX10_begin_4 : decode cX10_begin 4 = .ok (.iload_n 1, 1) := by decide +kernel
theorem dX10_begin_5 : decode cX10_begin 5 = .ok (.lconst 0, 1) := by decide +kernel
theorem dX10_begin_6 : decode cX10_begin 6 = .ok (.lastore, 1) := by decide +kernel
theorem dX10_begin_7 : decode cX10_begin 7 = .ok (.aload_n 0, 1) := by decide +kernel
theorem dX10_begin_8 : decode cX10_begin 8 = .ok (.getfield 56, 3) := by decide +kernel
theorem dX10_begin_11 : decode cX10_begin 11 = .ok (.iload_n 1, 1) := by decide +kernel
theorem dX10_begin_12 : decode cX10_begin 12 = .ok (.iaload, 1) := by decide +kernel
theorem dX10_begin_13 : decode cX10_begin 13 = .ok (.ifCond .le 23, 3) := by decide +kernel
theorem dX10_begin_16 : decode cX10_begin 16 = .ok (.aload_n 0, 1) := by decide +kernel
theorem dX10_begin_17 : decode cX10_begin 17 = .ok (.getfield 76, 3) := by decide +kernel
theorem dX10_begin_20 : decode cX10_begin 20 = .ok (.iload_n 1, 1) := by decide +kernel
theorem dX10_begin_21 : decode cX10_begin 21 = .ok (.aload_n 0, 1) := by decide +kernel
theorem dX10_begin_22 : decode cX10_begin 22 = .ok (.getfield 76, 3) := by decide +kernel
theorem dX10_begin_25 : decode cX10_begin 25 = .ok (.aload_n 0, 1) := by decide +kernel
theorem dX10_begin_26 : decode cX10_begin 26 = .ok (.getfield 56, 3) := by decide +kernel
theorem dX10_begin_29 : decode cX10_begin 29 = .ok (.iload_n 1, 1) := by decide +kernel
theorem dX10_begin_30 : decode cX10_begin 30 = .ok (.iaload, 1) := by decide +kernel
theorem dX10_begin_31 : decode cX10_begin 31 = .ok (.laload, 1) := by decide +kernel
theorem dX10_begin_32 : decode cX10_begin 32 = .ok (.lastore, 1) := by decide +kernel
theorem dX10_begin_33 : decode cX10_begin 33 = .ok (.goto 127, 3) := by decide +kernel
theorem dX10_begin_36 : decode cX10_begin 36 = .ok (.aload_n 0, 1) := by decide +kernel
theorem dX10_begin_37 : decode cX10_begin 37 = .ok (.getfield 19, 3) := by decide +kernel
theorem dX10_begin_40 : decode cX10_begin 40 = .ok (.iload_n 1, 1) := by decide +kernel
theorem dX10_begin_41 : decode cX10_begin 41 = .ok (.iaload, 1) := by decide +kernel
theorem dX10_begin_42 : decode cX10_begin 42 = .ok (.ifCond .ne 62, 3) := by decide +kernel
theorem dX10_begin_45 : decode cX10_begin 45 = .ok (.aload_n 0, 1) := by decide +kernel
theorem dX10_begin_46 : decode cX10_begin 46 = .ok (.getfield 59, 3) := by decide +kernel
theorem dX10_begin_49 : decode cX10_begin 49 = .ok (.iload_n 1, 1) := by decide +kernel
theorem dX10_begin_50 : decode cX10_begin 50 = .ok (.iaload, 1) := by decide +kernel
theorem dX10_begin_51 : decode cX10_begin 51 = .ok (.iconst (-1), 1) := by decide +kernel
theorem dX10_begin_52 : decode cX10_begin 52 = .ok (.if_icmp .eq 16, 3) := by decide +kernel
theorem dX10_begin_55 : decode cX10_begin 55 = .ok (.aload_n 0, 1) := by decide +kernel
theorem dX10_begin_56 : decode cX10_begin 56 = .ok (.iload_n 1, 1) := by decide +kernel
theorem dX10_begin_57 : decode cX10_begin 57 = .ok (.invokevirtual 171, 3) := by decide +kernel
theorem dX10_begin_60 : decode cX10_begin 60 = .ok (.iload_n 1, 1) := by decide +kernel
theorem dX10_begin_61 : decode cX10_begin 61 = .ok (.if_icmp .eq 7, 3) := by decide +kernel
theorem dX10_begin_64 : decode cX10_begin 64 = .ok (.iconst 1, 1) := by decide +kernel
theorem dX10_begin_65 : decode cX10_begin 65 = .ok (.goto 4, 3) := by decide +kernel
theorem dX10_begin_68 : decode cX10_begin 68 = .ok (.iconst 0, 1) := by decide +kernel
theorem dX10_begin_69 : decode cX10_begin 69 = .ok (.istore 4, 2) := by decide +kernel
theorem dX10_begin_71 : decode cX10_begin 71 = .ok (.aload_n 0, 1) := by decide +kernel
theorem dX10_begin_72 : decode cX10_begin 72 = .ok (.getfield 76, 3) := by decide +kernel
theorem dX10_begin_75 : decode cX10_begin 75 = .ok (.iload_n 1, 1) := by decide +kernel
theorem dX10_begin_76 : decode cX10_begin 76 = .ok (.iload 4, 2) := by decide +kernel
theorem dX10_begin_78 : decode cX10_begin 78 = .ok (.ifCond .eq 16, 3) := by decide +kernel
theorem dX10_begin_81 : decode cX10_begin 81 = .ok (.aload_n 0, 1) := by decide +kernel
theorem dX10_begin_82 : decode cX10_begin 82 = .ok (.getfield 76, 3) := by decide +kernel
theorem dX10_begin_85 : decode cX10_begin 85 = .ok (.aload_n 0, 1) := by decide +kernel
theorem dX10_begin_86 : decode cX10_begin 86 = .ok (.iload_n 1, 1) := by decide +kernel
theorem dX10_begin_87 : decode cX10_begin 87 = .ok (.invokevirtual 171, 3) := by decide +kernel
theorem dX10_begin_90 : decode cX10_begin 90 = .ok (.laload, 1) := by decide +kernel
theorem dX10_begin_91 : decode cX10_begin 91 = .ok (.goto 9, 3) := by decide +kernel
theorem dX10_begin_94 : decode cX10_begin 94 = .ok (.lload_n 2, 1) := by decide +kernel
theorem dX10_begin_95 : decode cX10_begin 95 = .ok (.bipush 8, 2) := by decide +kernel
theorem dX10_begin_97 : decode cX10_begin 97 = .ok (.invokestatic 156, 3) := by decide +kernel
theorem dX10_begin_100 : decode cX10_begin 100 = .ok (.lastore, 1) := by decide +kernel
theorem dX10_begin_101 : decode cX10_begin 101 = .ok (.goto 59, 3) := by decide +kernel
theorem dX10_begin_104 : decode cX10_begin 104 = .ok (.aload_n 0, 1) := by decide +kernel
theorem dX10_begin_105 : decode cX10_begin 105 = .ok (.getfield 76, 3) := by decide +kernel
theorem dX10_begin_108 : decode cX10_begin 108 = .ok (.aload_n 0, 1) := by decide +kernel
theorem dX10_begin_109 : decode cX10_begin 109 = .ok (.getfield 19, 3) := by decide +kernel
theorem dX10_begin_112 : decode cX10_begin 112 = .ok (.iload_n 1, 1) := by decide +kernel
theorem dX10_begin_113 : decode cX10_begin 113 = .ok (.iaload, 1) := by decide +kernel
theorem dX10_begin_114 : decode cX10_begin 114 = .ok (.laload, 1) := by decide +kernel
theorem dX10_begin_115 : decode cX10_begin 115 = .ok (.aload_n 0, 1) := by decide +kernel
theorem dX10_begin_116 : decode cX10_begin 116 = .ok (.getfield 80, 3) := by decide +kernel
theorem dX10_begin_119 : decode cX10_begin 119 = .ok (.aload_n 0, 1) := by decide +kernel
theorem dX10_begin_120 : decode cX10_begin 120 = .ok (.getfield 19, 3) := by decide +kernel
theorem dX10_begin_123 : decode cX10_begin 123 = .ok (.iload_n 1, 1) := by decide +kernel
theorem dX10_begin_124 : decode cX10_begin 124 = .ok (.iaload, 1) := by decide +kernel
theorem dX10_begin_125 : decode cX10_begin 125 = .ok (.laload, 1) := by decide +kernel
theorem dX10_begin_126 : decode cX10_begin 126 = .ok (.ladd, 1) := by decide +kernel
theorem dX10_begin_127 : decode cX10_begin 127 = .ok (.lstore 4, 2) := by decide +kernel
theorem dX10_begin_129 : decode cX10_begin 129 = .ok (.aload_n 0, 1) := by decide +kernel
theorem dX10_begin_130 : decode cX10_begin 130 = .ok (.getfield 76, 3) := by decide +kernel
theorem dX10_begin_133 : decode cX10_begin 133 = .ok (.iload_n 1, 1) := by decide +kernel
theorem dX10_begin_134 : decode cX10_begin 134 = .ok (.lload 4, 2) := by decide +kernel
theorem dX10_begin_136 : decode cX10_begin 136 = .ok (.aload_n 0, 1) := by decide +kernel
theorem dX10_begin_137 : decode cX10_begin 137 = .ok (.iload_n 1, 1) := by decide +kernel
theorem dX10_begin_138 : decode cX10_begin 138 = .ok (.invokevirtual 174, 3) := by decide +kernel
theorem dX10_begin_141 : decode cX10_begin 141 = .ok (.invokestatic 156, 3) := by decide +kernel
theorem dX10_begin_144 : decode cX10_begin 144 = .ok (.lastore, 1) := by decide +kernel
theorem dX10_begin_145 : decode cX10_begin 145 = .ok (.aload_n 0, 1) := by decide +kernel
theorem dX10_begin_146 : decode cX10_begin 146 = .ok (.getfield 89, 3) := by decide +kernel
theorem dX10_begin_149 : decode cX10_begin 149 = .ok (.iload_n 1, 1) := by decide +kernel
theorem dX10_begin_150 : decode cX10_begin 150 = .ok (.aload_n 0, 1) := by decide +kernel
theorem dX10_begin_151 : decode cX10_begin 151 = .ok (.getfield 76, 3) := by decide +kernel
theorem dX10_begin_154 : decode cX10_begin 154 = .ok (.iload_n 1, 1) := by decide +kernel
theorem dX10_begin_155 : decode cX10_begin 155 = .ok (.laload, 1) := by decide +kernel
theorem dX10_begin_156 : decode cX10_begin 156 = .ok (.lload 4, 2) := by decide +kernel
theorem dX10_begin_158 : decode cX10_begin 158 = .ok (.lsub, 1) := by decide +kernel
theorem dX10_begin_159 : decode cX10_begin 159 = .ok (.lastore, 1) := by decide +kernel
theorem dX10_begin_160 : decode cX10_begin 160 = .ok (.return_, 1) := by decide +kernel
def VX10_begin_69 (g : jg) (a0 : Nat) (x1 : Int32) (x2 : Int64) (s0 : Int32) (h : jh) (k n : Nat) (Q : jq) : Prop := (jt h a0 = 9) ∧ (((s0) = 0 → jM g mX10_up [.inr (.inl (x2)), .inl (8)] h 0 0 (jkl (fun (r3 : Int64) (h4 : jh) => (¬ (jr h 539 a0) = none) ∧ (jt h4 (jd (jr h 539 a0)) = 22) ∧ (vp_in (x1) (jn h4 (jd (jr h 539 a0)))) ∧ ∀ h8 : jh, h8 = jsL h4 (jd (jr h 539 a0)) (x1 : Int32).toNatClampNeg (r3) → Q (.inl none) h8) (fun e h9 => Q (.inr e) h9))) ∧ (¬ (s0) = 0 → jM g mX10_firstOf [.inr (.inr (some a0)), .inl (x1)] h 0 0 (jki (fun (r10 : Int32) (h11 : jh) => (¬ (jr h 539 a0) = none) ∧ (jt h11 (jd (jr h 539 a0)) = 22) ∧ (vp_in (r10) (jn h11 (jd (jr h 539 a0)))) ∧ (vp_in (x1) (jn h11 (jd (jr h 539 a0)))) ∧ ∀ h16 : jh, h16 = jsL h11 (jd (jr h 539 a0)) (x1 : Int32).toNatClampNeg (jL h11 (jd (jr h 539 a0)) (r10 : Int32).toNatClampNeg) → Q (.inl none) h16) (fun e h9 => Q (.inr e) h9))))
set_option maxRecDepth 20000 in
theorem vX10_begin_69 {g : jg} {a0 : Nat} {x1 : Int32} {x2 : Int64} {s0 : Int32} {h : jh} {k n : Nat} {Q : jq} (hv : VX10_begin_69 g a0 x1 x2 s0 h k n Q) : jG g mX10_begin 69 [(0, .inr (.inr (some (a0)))), (1, .inl (x1)), (2, .inr (.inl (x2)))] [.inl (s0)] h k n Q := by
  unfold VX10_begin_69 at hv
  refine jg_istore (lv' := [(4, .inl (s0)), (0, .inr (.inr (some (a0)))), (1, .inl (x1)), (2, .inr (.inl (x2)))]) dX10_begin_69 (by decide) rfl ?_
  refine jg_aload_n dX10_begin_71 rfl (List.Mem.tail _ (List.Mem.head _)) ?_
  obtain ⟨f1, hv⟩ := hv
  refine jg_getr dX10_begin_72 fl_RX10_76 rfl jsn f1 ?_
  refine jg_iload_n dX10_begin_75 rfl (List.Mem.tail _ (List.Mem.tail _ (List.Mem.head _))) ?_
  refine jg_iload dX10_begin_76 (List.Mem.head _) ?_
  refine jg_if_eq (tgt := 94) dX10_begin_78 (by decide) (fun c2 => ?_) (fun c2 => ?_)
  · replace hv := hv.1 c2
    refine jg_lload_n dX10_begin_94 rfl (List.Mem.tail _ (List.Mem.tail _ (List.Mem.tail _ (List.Mem.head _)))) ?_
    refine jg_bipush (v := 8) dX10_begin_95 (by decide) ?_
    refine jg_callS mX10_up [.inr (.inl (x2)), .inl (8)] [.inl (x1), .inr (.inr (jr h 539 a0))] dX10_begin_97 rfl cl_RX10_156 ⟨⟨by decide, by decide⟩, jcat_le _ (Nat.le_of_ble_eq_true rfl)⟩ (Nat.zero_le _) (Nat.zero_le _) (jM.mono (jkl_k (fun r3 h4 hv => ?_)) hv)
    obtain ⟨f5, hv⟩ := hv
    obtain ⟨f6, hv⟩ := hv
    obtain ⟨f7, hv⟩ := hv
    obtain ⟨h8, e9⟩ : ∃ z : jh, z = jsL h4 (jd (jr h 539 a0)) (x1 : Int32).toNatClampNeg (r3) := ⟨_, rfl⟩
    replace hv := hv h8 e9
    refine jp_last dX10_begin_100 f5 f6 f7 e9 ?_
    refine jg_goto (tgt := 160) dX10_begin_101 (by decide) ?_
    exact jg_vret dX10_begin_160 rfl hv
  · replace hv := hv.2 c2
    refine jg_aload_n dX10_begin_81 rfl (List.Mem.tail _ (List.Mem.head _)) ?_
    refine jg_getr dX10_begin_82 fl_RX10_76 rfl jsn f1 ?_
    refine jg_aload_n dX10_begin_85 rfl (List.Mem.tail _ (List.Mem.head _)) ?_
    refine jg_iload_n dX10_begin_86 rfl (List.Mem.tail _ (List.Mem.tail _ (List.Mem.head _))) ?_
    refine jp_callV mX10_firstOf [.inl (x1)] [.inr (.inr (jr h 539 a0)), .inl (x1), .inr (.inr (jr h 539 a0))] dX10_begin_87 rfl cl_RX10_171 ⟨⟨by decide, by decide⟩, jcat_le _ (Nat.le_of_ble_eq_true rfl)⟩ jsn f1 (Nat.zero_le _) (Nat.zero_le _) (jM.mono (jki_k (fun r10 h11 hv => ?_)) hv)
    obtain ⟨f12, hv⟩ := hv
    obtain ⟨f13, hv⟩ := hv
    obtain ⟨f14, hv⟩ := hv
    refine jg_lald dX10_begin_90 f12 f13 f14 ?_
    refine jg_goto (tgt := 100) dX10_begin_91 (by decide) ?_
    obtain ⟨f15, hv⟩ := hv
    obtain ⟨h16, e17⟩ : ∃ z : jh, z = jsL h11 (jd (jr h 539 a0)) (x1 : Int32).toNatClampNeg (jL h11 (jd (jr h 539 a0)) (r10 : Int32).toNatClampNeg) := ⟨_, rfl⟩
    replace hv := hv h16 e17
    refine jp_last dX10_begin_100 f12 f13 f15 e17 ?_
    refine jg_goto (tgt := 160) dX10_begin_101 (by decide) ?_
    exact jg_vret dX10_begin_160 rfl hv
def VX10_begin_0 (g : jg) (a0 : Nat) (x1 : Int32) (x2 : Int64) (h : jh) (k n : Nat) (Q : jq) : Prop := (jt h a0 = 9) ∧ (¬ (jr h 543 a0) = none) ∧ (jt h (jd (jr h 543 a0)) = 22) ∧ (vp_in (x1) (jn h (jd (jr h 543 a0)))) ∧ ∀ h22 : jh, h22 = jsL h (jd (jr h 543 a0)) (x1 : Int32).toNatClampNeg (0) → (¬ (jr h22 529 a0) = none) ∧ (jt h22 (jd (jr h22 529 a0)) = 20) ∧ (vp_in (x1) (jn h22 (jd (jr h22 529 a0)))) ∧ (((jI h22 (jd (jr h22 529 a0)) (x1 : Int32).toNatClampNeg) ≤ 0 → (¬ (jr h22 517 a0) = none) ∧ (jt h22 (jd (jr h22 517 a0)) = 20) ∧ (vp_in (x1) (jn h22 (jd (jr h22 517 a0)))) ∧ ((¬ (jI h22 (jd (jr h22 517 a0)) (x1 : Int32).toNatClampNeg) = 0 → (¬ (jr h22 539 a0) = none) ∧ (jt h22 (jd (jr h22 539 a0)) = 22) ∧ (vp_in (jI h22 (jd (jr h22 517 a0)) (x1 : Int32).toNatClampNeg) (jn h22 (jd (jr h22 539 a0)))) ∧ (¬ (jr h22 540 a0) = none) ∧ (jt h22 (jd (jr h22 540 a0)) = 22) ∧ (vp_in (jI h22 (jd (jr h22 517 a0)) (x1 : Int32).toNatClampNeg) (jn h22 (jd (jr h22 540 a0)))) ∧ jM g mX10_alignment [.inr (.inr (some a0)), .inl (x1)] h22 0 0 (jki (fun (r38 : Int32) (h39 : jh) => jM g mX10_up [.inr (.inl ((jL h22 (jd (jr h22 539 a0)) (jI h22 (jd (jr h22 517 a0)) (x1 : Int32).toNatClampNeg : Int32).toNatClampNeg) + (jL h22 (jd (jr h22 540 a0)) (jI h22 (jd (jr h22 517 a0)) (x1 : Int32).toNatClampNeg : Int32).toNatClampNeg))), .inl (r38)] h39 0 0 (jkl (fun (r40 : Int64) (h41 : jh) => (jt h41 (jd (jr h22 539 a0)) = 22) ∧ (vp_in (x1) (jn h41 (jd (jr h22 539 a0)))) ∧ ∀ h44 : jh, h44 = jsL h41 (jd (jr h22 539 a0)) (x1 : Int32).toNatClampNeg (r40) → (jt h44 a0 = 9) ∧ (¬ (jr h44 539 a0) = none) ∧ (jt h44 (jd (jr h44 539 a0)) = 22) ∧ (vp_in (x1) (jn h44 (jd (jr h44 539 a0)))) ∧ (¬ (jr h44 543 a0) = none) ∧ (jt h44 (jd (jr h44 543 a0)) = 22) ∧ (vp_in (x1) (jn h44 (jd (jr h44 543 a0)))) ∧ ∀ h53 : jh, h53 = jsL h44 (jd (jr h44 543 a0)) (x1 : Int32).toNatClampNeg ((jL h44 (jd (jr h44 539 a0)) (x1 : Int32).toNatClampNeg) - ((jL h22 (jd (jr h22 539 a0)) (jI h22 (jd (jr h22 517 a0)) (x1 : Int32).toNatClampNeg : Int32).toNatClampNeg) + (jL h22 (jd (jr h22 540 a0)) (jI h22 (jd (jr h22 517 a0)) (x1 : Int32).toNatClampNeg : Int32).toNatClampNeg))) → Q (.inl none) h53) (fun e h9 => Q (.inr e) h9))) (fun e h9 => Q (.inr e) h9))) ∧ ((jI h22 (jd (jr h22 517 a0)) (x1 : Int32).toNatClampNeg) = 0 → (¬ (jr h22 530 a0) = none) ∧ (jt h22 (jd (jr h22 530 a0)) = 20) ∧ (vp_in (x1) (jn h22 (jd (jr h22 530 a0)))) ∧ (((jI h22 (jd (jr h22 530 a0)) (x1 : Int32).toNatClampNeg) = ((-1)) → VX10_begin_69 g (a0) (x1) (x2) (0) h22 k n Q) ∧ (¬ (jI h22 (jd (jr h22 530 a0)) (x1 : Int32).toNatClampNeg) = ((-1)) → jM g mX10_firstOf [.inr (.inr (some a0)), .inl (x1)] h22 0 0 (jki (fun (r59 : Int32) (h60 : jh) => (((r59) = (x1) → VX10_begin_69 g (a0) (x1) (x2) (0) h60 k n Q) ∧ (¬ (r59) = (x1) → VX10_begin_69 g (a0) (x1) (x2) (1) h60 k n Q))) (fun e h9 => Q (.inr e) h9))))))) ∧ (¬ (jI h22 (jd (jr h22 529 a0)) (x1 : Int32).toNatClampNeg) ≤ 0 → (¬ (jr h22 539 a0) = none) ∧ (jt h22 (jd (jr h22 539 a0)) = 22) ∧ (vp_in (jI h22 (jd (jr h22 529 a0)) (x1 : Int32).toNatClampNeg) (jn h22 (jd (jr h22 539 a0)))) ∧ (vp_in (x1) (jn h22 (jd (jr h22 539 a0)))) ∧ ∀ h66 : jh, h66 = jsL h22 (jd (jr h22 539 a0)) (x1 : Int32).toNatClampNeg (jL h22 (jd (jr h22 539 a0)) (jI h22 (jd (jr h22 529 a0)) (x1 : Int32).toNatClampNeg : Int32).toNatClampNeg) → Q (.inl none) h66))
set_option maxRecDepth 20000 in
theorem vX10_begin_0 {g : jg} {a0 : Nat} {x1 : Int32} {x2 : Int64} {h : jh} {k n : Nat} {Q : jq} (hv : VX10_begin_0 g a0 x1 x2 h k n Q) : jG g mX10_begin 0 [(0, .inr (.inr (some (a0)))), (1, .inl (x1)), (2, .inr (.inl (x2)))] [] h k n Q := by
  unfold VX10_begin_0 at hv
  refine jg_aload_n dX10_begin_0 rfl (List.Mem.head _) ?_
  obtain ⟨f18, hv⟩ := hv
  refine jg_getr dX10_begin_1 fl_RX10_89 rfl jsn f18 ?_
  refine jg_iload_n dX10_begin_4 rfl (List.Mem.tail _ (List.Mem.head _)) ?_
  refine jg_lconst (v := 0) dX10_begin_5 (by decide) ?_
  obtain ⟨f19, hv⟩ := hv
  obtain ⟨f20, hv⟩ := hv
  obtain ⟨f21, hv⟩ := hv
  obtain ⟨h22, e23⟩ : ∃ z : jh, z = jsL h (jd (jr h 543 a0)) (x1 : Int32).toNatClampNeg (0) := ⟨_, rfl⟩
  replace hv := hv h22 e23
  refine jp_last dX10_begin_6 f19 f20 f21 e23 ?_
  refine jg_aload_n dX10_begin_7 rfl (List.Mem.head _) ?_
  refine jg_getr dX10_begin_8 fl_RX10_56 rfl jsn ((congrArg (fun z => jt z a0) e23).trans f18) ?_
  refine jg_iload_n dX10_begin_11 rfl (List.Mem.tail _ (List.Mem.head _)) ?_
  obtain ⟨f24, hv⟩ := hv
  obtain ⟨f25, hv⟩ := hv
  obtain ⟨f26, hv⟩ := hv
  refine jg_iald dX10_begin_12 f24 f25 f26 ?_
  refine jg_if_le (tgt := 36) dX10_begin_13 (by decide) (fun c27 => ?_) (fun c27 => ?_)
  · replace hv := hv.1 c27
    refine jg_aload_n dX10_begin_36 rfl (List.Mem.head _) ?_
    refine jg_getr dX10_begin_37 fl_RX10_19 rfl jsn ((congrArg (fun z => jt z a0) e23).trans f18) ?_
    refine jg_iload_n dX10_begin_40 rfl (List.Mem.tail _ (List.Mem.head _)) ?_
    obtain ⟨f28, hv⟩ := hv
    obtain ⟨f29, hv⟩ := hv
    obtain ⟨f30, hv⟩ := hv
    refine jg_iald dX10_begin_41 f28 f29 f30 ?_
    refine jg_if_ne (tgt := 104) dX10_begin_42 (by decide) (fun c31 => ?_) (fun c31 => ?_)
    · replace hv := hv.1 c31
      refine jg_aload_n dX10_begin_104 rfl (List.Mem.head _) ?_
      refine jg_getr dX10_begin_105 fl_RX10_76 rfl jsn ((congrArg (fun z => jt z a0) e23).trans f18) ?_
      refine jg_aload_n dX10_begin_108 rfl (List.Mem.head _) ?_
      refine jg_getr dX10_begin_109 fl_RX10_19 rfl jsn ((congrArg (fun z => jt z a0) e23).trans f18) ?_
      refine jg_iload_n dX10_begin_112 rfl (List.Mem.tail _ (List.Mem.head _)) ?_
      refine jg_iald dX10_begin_113 f28 f29 f30 ?_
      obtain ⟨f32, hv⟩ := hv
      obtain ⟨f33, hv⟩ := hv
      obtain ⟨f34, hv⟩ := hv
      refine jg_lald dX10_begin_114 f32 f33 f34 ?_
      refine jg_aload_n dX10_begin_115 rfl (List.Mem.head _) ?_
      refine jg_getr dX10_begin_116 fl_RX10_80 rfl jsn ((congrArg (fun z => jt z a0) e23).trans f18) ?_
      refine jg_aload_n dX10_begin_119 rfl (List.Mem.head _) ?_
      refine jg_getr dX10_begin_120 fl_RX10_19 rfl jsn ((congrArg (fun z => jt z a0) e23).trans f18) ?_
      refine jg_iload_n dX10_begin_123 rfl (List.Mem.tail _ (List.Mem.head _)) ?_
      refine jg_iald dX10_begin_124 f28 f29 f30 ?_
      obtain ⟨f35, hv⟩ := hv
      obtain ⟨f36, hv⟩ := hv
      obtain ⟨f37, hv⟩ := hv
      refine jg_lald dX10_begin_125 f35 f36 f37 ?_
      refine jg_ladd dX10_begin_126 ?_
      refine jg_lstore (lv' := [(4, .inr (.inl ((jL h22 (jd (jr h22 539 a0)) (jI h22 (jd (jr h22 517 a0)) (x1 : Int32).toNatClampNeg : Int32).toNatClampNeg) + (jL h22 (jd (jr h22 540 a0)) (jI h22 (jd (jr h22 517 a0)) (x1 : Int32).toNatClampNeg : Int32).toNatClampNeg)))), (0, .inr (.inr (some (a0)))), (1, .inl (x1)), (2, .inr (.inl (x2)))]) dX10_begin_127 (by decide) rfl ?_
      refine jg_aload_n dX10_begin_129 rfl (List.Mem.tail _ (List.Mem.head _)) ?_
      refine jg_getr dX10_begin_130 fl_RX10_76 rfl jsn ((congrArg (fun z => jt z a0) e23).trans f18) ?_
      refine jg_iload_n dX10_begin_133 rfl (List.Mem.tail _ (List.Mem.tail _ (List.Mem.head _))) ?_
      refine jg_lload dX10_begin_134 (List.Mem.head _) ?_
      refine jg_aload_n dX10_begin_136 rfl (List.Mem.tail _ (List.Mem.head _)) ?_
      refine jg_iload_n dX10_begin_137 rfl (List.Mem.tail _ (List.Mem.tail _ (List.Mem.head _))) ?_
      refine jp_callV mX10_alignment [.inl (x1)] [.inr (.inl ((jL h22 (jd (jr h22 539 a0)) (jI h22 (jd (jr h22 517 a0)) (x1 : Int32).toNatClampNeg : Int32).toNatClampNeg) + (jL h22 (jd (jr h22 540 a0)) (jI h22 (jd (jr h22 517 a0)) (x1 : Int32).toNatClampNeg : Int32).toNatClampNeg))), .inl (x1), .inr (.inr (jr h22 539 a0))] dX10_begin_138 rfl cl_RX10_174 ⟨⟨by decide, by decide⟩, jcat_le _ (Nat.le_of_ble_eq_true rfl)⟩ jsn ((congrArg (fun z => jt z a0) e23).trans f18) (Nat.zero_le _) (Nat.zero_le _) (jM.mono (jki_k (fun r38 h39 hv => ?_)) hv)
      refine jg_callS mX10_up [.inr (.inl ((jL h22 (jd (jr h22 539 a0)) (jI h22 (jd (jr h22 517 a0)) (x1 : Int32).toNatClampNeg : Int32).toNatClampNeg) + (jL h22 (jd (jr h22 540 a0)) (jI h22 (jd (jr h22 517 a0)) (x1 : Int32).toNatClampNeg : Int32).toNatClampNeg))), .inl (r38)] [.inl (x1), .inr (.inr (jr h22 539 a0))] dX10_begin_141 rfl cl_RX10_156 ⟨⟨by decide, by decide⟩, jcat_le _ (Nat.le_of_ble_eq_true rfl)⟩ (Nat.zero_le _) (Nat.zero_le _) (jM.mono (jkl_k (fun r40 h41 hv => ?_)) hv)
      obtain ⟨f42, hv⟩ := hv
      obtain ⟨f43, hv⟩ := hv
      obtain ⟨h44, e45⟩ : ∃ z : jh, z = jsL h41 (jd (jr h22 539 a0)) (x1 : Int32).toNatClampNeg (r40) := ⟨_, rfl⟩
      replace hv := hv h44 e45
      refine jp_last dX10_begin_144 f32 f42 f43 e45 ?_
      refine jg_aload_n dX10_begin_145 rfl (List.Mem.tail _ (List.Mem.head _)) ?_
      obtain ⟨f46, hv⟩ := hv
      refine jg_getr dX10_begin_146 fl_RX10_89 rfl jsn f46 ?_
      refine jg_iload_n dX10_begin_149 rfl (List.Mem.tail _ (List.Mem.tail _ (List.Mem.head _))) ?_
      refine jg_aload_n dX10_begin_150 rfl (List.Mem.tail _ (List.Mem.head _)) ?_
      refine jg_getr dX10_begin_151 fl_RX10_76 rfl jsn f46 ?_
      refine jg_iload_n dX10_begin_154 rfl (List.Mem.tail _ (List.Mem.tail _ (List.Mem.head _))) ?_
      obtain ⟨f47, hv⟩ := hv
      obtain ⟨f48, hv⟩ := hv
      obtain ⟨f49, hv⟩ := hv
      refine jg_lald dX10_begin_155 f47 f48 f49 ?_
      refine jg_lload dX10_begin_156 (List.Mem.head _) ?_
      refine jg_lsub dX10_begin_158 ?_
      obtain ⟨f50, hv⟩ := hv
      obtain ⟨f51, hv⟩ := hv
      obtain ⟨f52, hv⟩ := hv
      obtain ⟨h53, e54⟩ : ∃ z : jh, z = jsL h44 (jd (jr h44 543 a0)) (x1 : Int32).toNatClampNeg ((jL h44 (jd (jr h44 539 a0)) (x1 : Int32).toNatClampNeg) - ((jL h22 (jd (jr h22 539 a0)) (jI h22 (jd (jr h22 517 a0)) (x1 : Int32).toNatClampNeg : Int32).toNatClampNeg) + (jL h22 (jd (jr h22 540 a0)) (jI h22 (jd (jr h22 517 a0)) (x1 : Int32).toNatClampNeg : Int32).toNatClampNeg))) := ⟨_, rfl⟩
      replace hv := hv h53 e54
      refine jp_last dX10_begin_159 f50 f51 f52 e54 ?_
      exact jg_vret dX10_begin_160 rfl hv
    · replace hv := hv.2 c31
      refine jg_aload_n dX10_begin_45 rfl (List.Mem.head _) ?_
      refine jg_getr dX10_begin_46 fl_RX10_59 rfl jsn ((congrArg (fun z => jt z a0) e23).trans f18) ?_
      refine jg_iload_n dX10_begin_49 rfl (List.Mem.tail _ (List.Mem.head _)) ?_
      obtain ⟨f55, hv⟩ := hv
      obtain ⟨f56, hv⟩ := hv
      obtain ⟨f57, hv⟩ := hv
      refine jg_iald dX10_begin_50 f55 f56 f57 ?_
      refine jg_iconst (v := (-1)) dX10_begin_51 (by decide) ?_
      refine jg_icmp_eq (tgt := 68) dX10_begin_52 (by decide) (fun c58 => ?_) (fun c58 => ?_)
      · replace hv := hv.1 c58
        refine jg_iconst (v := 0) dX10_begin_68 (by decide) ?_
        exact vX10_begin_69 hv
      · replace hv := hv.2 c58
        refine jg_aload_n dX10_begin_55 rfl (List.Mem.head _) ?_
        refine jg_iload_n dX10_begin_56 rfl (List.Mem.tail _ (List.Mem.head _)) ?_
        refine jp_callV mX10_firstOf [.inl (x1)] [] dX10_begin_57 rfl cl_RX10_171 ⟨⟨by decide, by decide⟩, by decide⟩ jsn ((congrArg (fun z => jt z a0) e23).trans f18) (Nat.zero_le _) (Nat.zero_le _) (jM.mono (jki_k (fun r59 h60 hv => ?_)) hv)
        refine jg_iload_n dX10_begin_60 rfl (List.Mem.tail _ (List.Mem.head _)) ?_
        refine jg_icmp_eq (tgt := 68) dX10_begin_61 (by decide) (fun c61 => ?_) (fun c61 => ?_)
        · replace hv := hv.1 c61
          refine jg_iconst (v := 0) dX10_begin_68 (by decide) ?_
          exact vX10_begin_69 hv
        · replace hv := hv.2 c61
          refine jg_iconst (v := 1) dX10_begin_64 (by decide) ?_
          refine jg_goto (tgt := 69) dX10_begin_65 (by decide) ?_
          exact vX10_begin_69 hv
  · replace hv := hv.2 c27
    refine jg_aload_n dX10_begin_16 rfl (List.Mem.head _) ?_
    refine jg_getr dX10_begin_17 fl_RX10_76 rfl jsn ((congrArg (fun z => jt z a0) e23).trans f18) ?_
    refine jg_iload_n dX10_begin_20 rfl (List.Mem.tail _ (List.Mem.head _)) ?_
    refine jg_aload_n dX10_begin_21 rfl (List.Mem.head _) ?_
    refine jg_getr dX10_begin_22 fl_RX10_76 rfl jsn ((congrArg (fun z => jt z a0) e23).trans f18) ?_
    refine jg_aload_n dX10_begin_25 rfl (List.Mem.head _) ?_
    refine jg_getr dX10_begin_26 fl_RX10_56 rfl jsn ((congrArg (fun z => jt z a0) e23).trans f18) ?_
    refine jg_iload_n dX10_begin_29 rfl (List.Mem.tail _ (List.Mem.head _)) ?_
    refine jg_iald dX10_begin_30 f24 f25 f26 ?_
    obtain ⟨f62, hv⟩ := hv
    obtain ⟨f63, hv⟩ := hv
    obtain ⟨f64, hv⟩ := hv
    refine jg_lald dX10_begin_31 f62 f63 f64 ?_
    obtain ⟨f65, hv⟩ := hv
    obtain ⟨h66, e67⟩ : ∃ z : jh, z = jsL h22 (jd (jr h22 539 a0)) (x1 : Int32).toNatClampNeg (jL h22 (jd (jr h22 539 a0)) (jI h22 (jd (jr h22 529 a0)) (x1 : Int32).toNatClampNeg : Int32).toNatClampNeg) := ⟨_, rfl⟩
    replace hv := hv h66 e67
    refine jp_last dX10_begin_32 f62 f63 f65 e67 ?_
    refine jg_goto (tgt := 160) dX10_begin_33 (by decide) ?_
    exact jg_vret dX10_begin_160 rfl hv
theorem eX10_begin {g : jg} {a0 : Nat} {x1 : Int32} {x2 : Int64} {h : jh} {mc ms : Nat} {Q : jq} (hv : VX10_begin_0 g a0 x1 x2 h mc ms Q) : jM g mX10_begin [.inr (.inr (some (a0))), .inl (x1), .inr (.inl (x2))] h mc ms Q := jM.of (by decide) (Nat.le_of_ble_eq_true rfl) (lv := [(0, .inr (.inr (some (a0)))), (1, .inl (x1)), (2, .inr (.inl (x2)))]) rfl (vX10_begin_0 hv)
theorem dX10_alignment_0 : decode cX10_alignment 0 = .ok (.aload_n 0, 1) := by decide +kernel
theorem dX10_alignment_1 : decode cX10_alignment 1 = .ok (.getfield 25, 3) := by decide +kernel
theorem dX10_alignment_4 : decode cX10_alignment 4 = .ok (.iload_n 1, 1) := by decide +kernel
theorem dX10_alignment_5 : decode cX10_alignment 5 = .ok (.iaload, 1) := by decide +kernel
theorem dX10_alignment_6 : decode cX10_alignment 6 = .ok (.ifCond .gt 12, 3) := by decide +kernel
theorem dX10_alignment_9 : decode cX10_alignment 9 = .ok (.aload_n 0, 1) := by decide +kernel
theorem dX10_alignment_10 : decode cX10_alignment 10 = .ok (.getfield 37, 3) := by decide +kernel
theorem dX10_alignment_13 : decode cX10_alignment 13 = .ok (.iload_n 1, 1) := by decide +kernel
theorem dX10_alignment_14 : decode cX10_alignment 14 = .ok (.baload, 1) := by decide +kernel
theorem dX10_alignment_15 : decode cX10_alignment 15 = .ok (.ifCond .eq 12, 3) := by decide +kernel
theorem dX10_alignment_18 : decode cX10_alignment 18 = .ok (.aload_n 0, 1) := by decide +kernel
theorem dX10_alignment_19 : decode cX10_alignment 19 = .ok (.getfield 92, 3) := by decide +kernel
theorem dX10_alignment_22 : decode cX10_alignment 22 = .ok (.iload_n 1, 1) := by decide +kernel
theorem dX10_alignment_23 : decode cX10_alignment 23 = .ok (.iaload, 1) := by decide +kernel
theorem dX10_alignment_24 : decode cX10_alignment 24 = .ok (.goto 4, 3) := by decide +kernel
theorem dX10_alignment_27 : decode cX10_alignment 27 = .ok (.iconst 1, 1) := by decide +kernel
theorem dX10_alignment_28 : decode cX10_alignment 28 = .ok (.ireturn, 1) := by decide +kernel
def VX10_alignment_0 (g : jg) (a0 : Nat) (x1 : Int32) (h : jh) (k n : Nat) (Q : jq) : Prop := (jt h a0 = 9) ∧ (¬ (jr h 519 a0) = none) ∧ (jt h (jd (jr h 519 a0)) = 20) ∧ (vp_in (x1) (jn h (jd (jr h 519 a0)))) ∧ ((0 < (jI h (jd (jr h 519 a0)) (x1 : Int32).toNatClampNeg) → (¬ (jr h 544 a0) = none) ∧ (jt h (jd (jr h 544 a0)) = 20) ∧ (vp_in (x1) (jn h (jd (jr h 544 a0)))) ∧ Q (.inl (some (.inl (jI h (jd (jr h 544 a0)) (x1 : Int32).toNatClampNeg)))) h) ∧ (¬ 0 < (jI h (jd (jr h 519 a0)) (x1 : Int32).toNatClampNeg) → (¬ (jr h 523 a0) = none) ∧ (jt h (jd (jr h 523 a0)) = 24) ∧ (vp_in (x1) (jn h (jd (jr h 523 a0)))) ∧ (((jI h (jd (jr h 523 a0)) (x1 : Int32).toNatClampNeg) = 0 → Q (.inl (some (.inl (1)))) h) ∧ (¬ (jI h (jd (jr h 523 a0)) (x1 : Int32).toNatClampNeg) = 0 → (¬ (jr h 544 a0) = none) ∧ (jt h (jd (jr h 544 a0)) = 20) ∧ (vp_in (x1) (jn h (jd (jr h 544 a0)))) ∧ Q (.inl (some (.inl (jI h (jd (jr h 544 a0)) (x1 : Int32).toNatClampNeg)))) h))))
set_option maxRecDepth 20000 in
theorem vX10_alignment_0 {g : jg} {a0 : Nat} {x1 : Int32} {h : jh} {k n : Nat} {Q : jq} (hv : VX10_alignment_0 g a0 x1 h k n Q) : jG g mX10_alignment 0 [(0, .inr (.inr (some (a0)))), (1, .inl (x1))] [] h k n Q := by
  unfold VX10_alignment_0 at hv
  refine jg_aload_n dX10_alignment_0 rfl (List.Mem.head _) ?_
  obtain ⟨f1, hv⟩ := hv
  refine jg_getr dX10_alignment_1 fl_RX10_25 rfl jsn f1 ?_
  refine jg_iload_n dX10_alignment_4 rfl (List.Mem.tail _ (List.Mem.head _)) ?_
  obtain ⟨f2, hv⟩ := hv
  obtain ⟨f3, hv⟩ := hv
  obtain ⟨f4, hv⟩ := hv
  refine jg_iald dX10_alignment_5 f2 f3 f4 ?_
  refine jg_if_gt (tgt := 18) dX10_alignment_6 (by decide) (fun c5 => ?_) (fun c5 => ?_)
  · replace hv := hv.1 c5
    refine jg_aload_n dX10_alignment_18 rfl (List.Mem.head _) ?_
    refine jg_getr dX10_alignment_19 fl_RX10_92 rfl jsn f1 ?_
    refine jg_iload_n dX10_alignment_22 rfl (List.Mem.tail _ (List.Mem.head _)) ?_
    obtain ⟨f6, hv⟩ := hv
    obtain ⟨f7, hv⟩ := hv
    obtain ⟨f8, hv⟩ := hv
    refine jg_iald dX10_alignment_23 f6 f7 f8 ?_
    refine jg_goto (tgt := 28) dX10_alignment_24 (by decide) ?_
    exact jg_iret dX10_alignment_28 rfl hv
  · replace hv := hv.2 c5
    refine jg_aload_n dX10_alignment_9 rfl (List.Mem.head _) ?_
    refine jg_getr dX10_alignment_10 fl_RX10_37 rfl jsn f1 ?_
    refine jg_iload_n dX10_alignment_13 rfl (List.Mem.tail _ (List.Mem.head _)) ?_
    obtain ⟨f9, hv⟩ := hv
    obtain ⟨f10, hv⟩ := hv
    obtain ⟨f11, hv⟩ := hv
    refine jg_zald dX10_alignment_14 f9 f10 f11 ?_
    refine jg_if_eq (tgt := 27) dX10_alignment_15 (by decide) (fun c12 => ?_) (fun c12 => ?_)
    · replace hv := hv.1 c12
      refine jg_iconst (v := 1) dX10_alignment_27 (by decide) ?_
      exact jg_iret dX10_alignment_28 rfl hv
    · replace hv := hv.2 c12
      refine jg_aload_n dX10_alignment_18 rfl (List.Mem.head _) ?_
      refine jg_getr dX10_alignment_19 fl_RX10_92 rfl jsn f1 ?_
      refine jg_iload_n dX10_alignment_22 rfl (List.Mem.tail _ (List.Mem.head _)) ?_
      obtain ⟨f13, hv⟩ := hv
      obtain ⟨f14, hv⟩ := hv
      obtain ⟨f15, hv⟩ := hv
      refine jg_iald dX10_alignment_23 f13 f14 f15 ?_
      refine jg_goto (tgt := 28) dX10_alignment_24 (by decide) ?_
      exact jg_iret dX10_alignment_28 rfl hv
theorem eX10_alignment {g : jg} {a0 : Nat} {x1 : Int32} {h : jh} {mc ms : Nat} {Q : jq} (hv : VX10_alignment_0 g a0 x1 h mc ms Q) : jM g mX10_alignment [.inr (.inr (some (a0))), .inl (x1)] h mc ms Q := jM.of (by decide) (Nat.le_of_ble_eq_true rfl) (lv := [(0, .inr (.inr (some (a0)))), (1, .inl (x1))]) rfl (vX10_alignment_0 hv)
theorem dX10_hasBelow_0 : decode cX10_hasBelow 0 = .ok (.iconst 0, 1) := by decide +kernel
theorem dX10_hasBelow_1 : decode cX10_hasBelow 1 = .ok (.istore_n 2, 1) := by decide +kernel
theorem dX10_hasBelow_2 : decode cX10_hasBelow 2 = .ok (.iload_n 1, 1) := by decide +kernel
theorem dX10_hasBelow_3 : decode cX10_hasBelow 3 = .ok (.iconst 1, 1) := by decide +kernel
theorem dX10_hasBelow_4 : decode cX10_hasBelow 4 = .ok (.iadd, 1) := by decide +kernel
theorem dX10_hasBelow_5 : decode cX10_hasBelow 5 = .ok (.istore_n 3, 1) := by decide +kernel
theorem dX10_hasBelow_6 : decode cX10_hasBelow 6 = .ok (.iload_n 3, 1) := by decide +kernel
theorem dX10_hasBelow_7 : decode cX10_hasBelow 7 = .ok (.aload_n 0, 1) := by decide +kernel
theorem dX10_hasBelow_8 : decode cX10_hasBelow 8 = .ok (.getfield 102, 3) := by decide +kernel
theorem dX10_hasBelow_11 : decode cX10_hasBelow 11 = .ok (.if_icmp .gt 37, 3) := by decide +kernel
theorem dX10_hasBelow_14 : decode cX10_hasBelow 14 = .ok (.iload_n 2, 1) := by decide +kernel
theorem dX10_hasBelow_15 : decode cX10_hasBelow 15 = .ok (.ifCond .ne 21, 3) := by decide +kernel
theorem dX10_hasBelow_18 : decode cX10_hasBelow 18 = .ok (.aload_n 0, 1) := by decide +kernel
theorem dX10_hasBelow_19 : decode cX10_hasBelow 19 = .ok (.iload_n 3, 1) := by decide +kernel
theorem dX10_hasBelow_20 : decode cX10_hasBelow 20 = .ok (.invokevirtual 105, 3) := by decide +kernel
theorem dX10_hasBelow_23 : decode cX10_hasBelow 23 = .ok (.ifCond .eq 17, 3) := by decide +kernel
theorem dX10_hasBelow_26 : decode cX10_hasBelow 26 = .ok (.aload_n 0, 1) := by decide +kernel
theorem dX10_hasBelow_27 : decode cX10_hasBelow 27 = .ok (.getfield 19, 3) := by decide +kernel
theorem dX10_hasBelow_30 : decode cX10_hasBelow 30 = .ok (.iload_n 3, 1) := by decide +kernel
theorem dX10_hasBelow_31 : decode cX10_hasBelow 31 = .ok (.iaload, 1) := by decide +kernel
theorem dX10_hasBelow_32 : decode cX10_hasBelow 32 = .ok (.iload_n 1, 1) := by decide +kernel
theorem dX10_hasBelow_33 : decode cX10_hasBelow 33 = .ok (.if_icmp .ne 7, 3) := by decide +kernel
theorem dX10_hasBelow_36 : decode cX10_hasBelow 36 = .ok (.iconst 1, 1) := by decide +kernel
theorem dX10_hasBelow_37 : decode cX10_hasBelow 37 = .ok (.goto 4, 3) := by decide +kernel
theorem dX10_hasBelow_40 : decode cX10_hasBelow 40 = .ok (.iconst 0, 1) := by decide +kernel
theorem dX10_hasBelow_41 : decode cX10_hasBelow 41 = .ok (.istore_n 2, 1) := by decide +kernel
theorem dX10_hasBelow_42 : decode cX10_hasBelow 42 = .ok (.iinc 3 1, 3) := by decide +kernel
theorem dX10_hasBelow_45 : decode cX10_hasBelow 45 = .ok (.goto (-39), 3) := by decide +kernel
theorem dX10_hasBelow_48 : decode cX10_hasBelow 48 = .ok (.iload_n 2, 1) := by decide +kernel
theorem dX10_hasBelow_49 : decode cX10_hasBelow 49 = .ok (.ireturn, 1) := by decide +kernel
def VX10_hasBelow_6 (g : jg) (a0 : Nat) (x1 : Int32) (x2 : Int32) (x3 : Int32) (h : jh) (k n : Nat) (Q : jq) : Prop := (jt h a0 = 9) ∧ (((ji h 513 a0) < (x3) → ((x2) = 0 ∨ (x2) = 1) ∧ Q (.inl (some (.inl (x2)))) h) ∧ (¬ (ji h 513 a0) < (x3) → ((¬ (x2) = 0 → jG g mX10_hasBelow 6 [(0, .inr (.inr (some (a0)))), (1, .inl (x1)), (2, .inl (1)), (3, .inl ((x3) + 1))] [] h k n Q) ∧ ((x2) = 0 → jM g mX10_lies [.inr (.inr (some a0)), .inl (x3)] h 0 0 (jki (fun (r5 : Int32) (h6 : jh) => (((r5) = 0 → jG g mX10_hasBelow 6 [(0, .inr (.inr (some (a0)))), (1, .inl (x1)), (2, .inl (0)), (3, .inl ((x3) + 1))] [] h6 k n Q) ∧ (¬ (r5) = 0 → (jt h6 a0 = 9) ∧ (¬ (jr h6 517 a0) = none) ∧ (jt h6 (jd (jr h6 517 a0)) = 20) ∧ (vp_in (x3) (jn h6 (jd (jr h6 517 a0)))) ∧ ((¬ (jI h6 (jd (jr h6 517 a0)) (x3 : Int32).toNatClampNeg) = (x1) → jG g mX10_hasBelow 6 [(0, .inr (.inr (some (a0)))), (1, .inl (x1)), (2, .inl (0)), (3, .inl ((x3) + 1))] [] h6 k n Q) ∧ ((jI h6 (jd (jr h6 517 a0)) (x3 : Int32).toNatClampNeg) = (x1) → jG g mX10_hasBelow 6 [(0, .inr (.inr (some (a0)))), (1, .inl (x1)), (2, .inl (1)), (3, .inl ((x3) + 1))] [] h6 k n Q))))) (fun e h9 => Q (.inr e) h9))))))
set_option maxRecDepth 20000 in
theorem vX10_hasBelow_6 {g : jg} {a0 : Nat} {x1 : Int32} {x2 : Int32} {x3 : Int32} {h : jh} {k n : Nat} {Q : jq} (hv : VX10_hasBelow_6 g a0 x1 x2 x3 h k n Q) : jG g mX10_hasBelow 6 [(0, .inr (.inr (some (a0)))), (1, .inl (x1)), (2, .inl (x2)), (3, .inl (x3))] [] h k n Q := by
  unfold VX10_hasBelow_6 at hv
  refine jg_iload_n dX10_hasBelow_6 rfl (List.Mem.tail _ (List.Mem.tail _ (List.Mem.tail _ (List.Mem.head _)))) ?_
  refine jg_aload_n dX10_hasBelow_7 rfl (List.Mem.head _) ?_
  obtain ⟨f1, hv⟩ := hv
  refine jg_geti dX10_hasBelow_8 fl_RX10_102 rfl jsn f1 ?_
  refine jg_icmp_gt (tgt := 48) dX10_hasBelow_11 (by decide) (fun c2 => ?_) (fun c2 => ?_)
  · replace hv := hv.1 c2
    refine jg_iload_n dX10_hasBelow_48 rfl (List.Mem.tail _ (List.Mem.tail _ (List.Mem.head _))) ?_
    obtain ⟨f3, hv⟩ := hv
    exact jg_bret dX10_hasBelow_49 rfl f3 hv
  · replace hv := hv.2 c2
    refine jg_iload_n dX10_hasBelow_14 rfl (List.Mem.tail _ (List.Mem.tail _ (List.Mem.head _))) ?_
    refine jg_if_ne (tgt := 36) dX10_hasBelow_15 (by decide) (fun c4 => ?_) (fun c4 => ?_)
    · replace hv := hv.1 c4
      refine jg_iconst (v := 1) dX10_hasBelow_36 (by decide) ?_
      refine jg_goto (tgt := 41) dX10_hasBelow_37 (by decide) ?_
      refine jg_istore_n (lv' := [(2, .inl (1)), (0, .inr (.inr (some (a0)))), (1, .inl (x1)), (3, .inl (x3))]) dX10_hasBelow_41 rfl (by decide) rfl ?_
      refine jg_iinc (v := (x3) + 1) (lv' := [(3, .inl ((x3) + 1)), (2, .inl (1)), (0, .inr (.inr (some (a0)))), (1, .inl (x1))]) dX10_hasBelow_42 (List.Mem.tail _ (List.Mem.tail _ (List.Mem.tail _ (List.Mem.head _)))) rfl (by decide) rfl ?_
      refine jg_goto (tgt := 6) dX10_hasBelow_45 (by decide) ?_
      refine jG.sub (lv' := [(0, .inr (.inr (some (a0)))), (1, .inl (x1)), (2, .inl (1)), (3, .inl ((x3) + 1))]) (by simp) ?_
      exact hv
    · replace hv := hv.2 c4
      refine jg_aload_n dX10_hasBelow_18 rfl (List.Mem.head _) ?_
      refine jg_iload_n dX10_hasBelow_19 rfl (List.Mem.tail _ (List.Mem.tail _ (List.Mem.tail _ (List.Mem.head _)))) ?_
      refine jp_callV mX10_lies [.inl (x3)] [] dX10_hasBelow_20 rfl cl_RX10_105 ⟨⟨by decide, by decide⟩, by decide⟩ jsn f1 (Nat.zero_le _) (Nat.zero_le _) (jM.mono (jki_k (fun r5 h6 hv => ?_)) hv)
      refine jg_if_eq (tgt := 40) dX10_hasBelow_23 (by decide) (fun c7 => ?_) (fun c7 => ?_)
      · replace hv := hv.1 c7
        refine jg_iconst (v := 0) dX10_hasBelow_40 (by decide) ?_
        refine jg_istore_n (lv' := [(2, .inl (0)), (0, .inr (.inr (some (a0)))), (1, .inl (x1)), (3, .inl (x3))]) dX10_hasBelow_41 rfl (by decide) rfl ?_
        refine jg_iinc (v := (x3) + 1) (lv' := [(3, .inl ((x3) + 1)), (2, .inl (0)), (0, .inr (.inr (some (a0)))), (1, .inl (x1))]) dX10_hasBelow_42 (List.Mem.tail _ (List.Mem.tail _ (List.Mem.tail _ (List.Mem.head _)))) rfl (by decide) rfl ?_
        refine jg_goto (tgt := 6) dX10_hasBelow_45 (by decide) ?_
        refine jG.sub (lv' := [(0, .inr (.inr (some (a0)))), (1, .inl (x1)), (2, .inl (0)), (3, .inl ((x3) + 1))]) (by simp) ?_
        exact hv
      · replace hv := hv.2 c7
        refine jg_aload_n dX10_hasBelow_26 rfl (List.Mem.head _) ?_
        obtain ⟨f8, hv⟩ := hv
        refine jg_getr dX10_hasBelow_27 fl_RX10_19 rfl jsn f8 ?_
        refine jg_iload_n dX10_hasBelow_30 rfl (List.Mem.tail _ (List.Mem.tail _ (List.Mem.tail _ (List.Mem.head _)))) ?_
        obtain ⟨f9, hv⟩ := hv
        obtain ⟨f10, hv⟩ := hv
        obtain ⟨f11, hv⟩ := hv
        refine jg_iald dX10_hasBelow_31 f9 f10 f11 ?_
        refine jg_iload_n dX10_hasBelow_32 rfl (List.Mem.tail _ (List.Mem.head _)) ?_
        refine jg_icmp_ne (tgt := 40) dX10_hasBelow_33 (by decide) (fun c12 => ?_) (fun c12 => ?_)
        · replace hv := hv.1 c12
          refine jg_iconst (v := 0) dX10_hasBelow_40 (by decide) ?_
          refine jg_istore_n (lv' := [(2, .inl (0)), (0, .inr (.inr (some (a0)))), (1, .inl (x1)), (3, .inl (x3))]) dX10_hasBelow_41 rfl (by decide) rfl ?_
          refine jg_iinc (v := (x3) + 1) (lv' := [(3, .inl ((x3) + 1)), (2, .inl (0)), (0, .inr (.inr (some (a0)))), (1, .inl (x1))]) dX10_hasBelow_42 (List.Mem.tail _ (List.Mem.tail _ (List.Mem.tail _ (List.Mem.head _)))) rfl (by decide) rfl ?_
          refine jg_goto (tgt := 6) dX10_hasBelow_45 (by decide) ?_
          refine jG.sub (lv' := [(0, .inr (.inr (some (a0)))), (1, .inl (x1)), (2, .inl (0)), (3, .inl ((x3) + 1))]) (by simp) ?_
          exact hv
        · replace hv := hv.2 c12
          refine jg_iconst (v := 1) dX10_hasBelow_36 (by decide) ?_
          refine jg_goto (tgt := 41) dX10_hasBelow_37 (by decide) ?_
          refine jg_istore_n (lv' := [(2, .inl (1)), (0, .inr (.inr (some (a0)))), (1, .inl (x1)), (3, .inl (x3))]) dX10_hasBelow_41 rfl (by decide) rfl ?_
          refine jg_iinc (v := (x3) + 1) (lv' := [(3, .inl ((x3) + 1)), (2, .inl (1)), (0, .inr (.inr (some (a0)))), (1, .inl (x1))]) dX10_hasBelow_42 (List.Mem.tail _ (List.Mem.tail _ (List.Mem.tail _ (List.Mem.head _)))) rfl (by decide) rfl ?_
          refine jg_goto (tgt := 6) dX10_hasBelow_45 (by decide) ?_
          refine jG.sub (lv' := [(0, .inr (.inr (some (a0)))), (1, .inl (x1)), (2, .inl (1)), (3, .inl ((x3) + 1))]) (by simp) ?_
          exact hv
def VX10_hasBelow_0 (g : jg) (a0 : Nat) (x1 : Int32) (h : jh) (k n : Nat) (Q : jq) : Prop := jG g mX10_hasBelow 6 [(0, .inr (.inr (some (a0)))), (1, .inl (x1)), (2, .inl (0)), (3, .inl ((x1) + (1)))] [] h k n Q
set_option maxRecDepth 20000 in
theorem vX10_hasBelow_0 {g : jg} {a0 : Nat} {x1 : Int32} {h : jh} {k n : Nat} {Q : jq} (hv : VX10_hasBelow_0 g a0 x1 h k n Q) : jG g mX10_hasBelow 0 [(0, .inr (.inr (some (a0)))), (1, .inl (x1))] [] h k n Q := by
  unfold VX10_hasBelow_0 at hv
  refine jg_iconst (v := 0) dX10_hasBelow_0 (by decide) ?_
  refine jg_istore_n (lv' := [(2, .inl (0)), (0, .inr (.inr (some (a0)))), (1, .inl (x1))]) dX10_hasBelow_1 rfl (by decide) rfl ?_
  refine jg_iload_n dX10_hasBelow_2 rfl (List.Mem.tail _ (List.Mem.tail _ (List.Mem.head _))) ?_
  refine jg_iconst (v := 1) dX10_hasBelow_3 (by decide) ?_
  refine jg_iadd dX10_hasBelow_4 ?_
  refine jg_istore_n (lv' := [(3, .inl ((x1) + (1))), (2, .inl (0)), (0, .inr (.inr (some (a0)))), (1, .inl (x1))]) dX10_hasBelow_5 rfl (by decide) rfl ?_
  refine jG.sub (lv' := [(0, .inr (.inr (some (a0)))), (1, .inl (x1)), (2, .inl (0)), (3, .inl ((x1) + (1)))]) (by simp) ?_
  exact hv
theorem eX10_hasBelow {g : jg} {a0 : Nat} {x1 : Int32} {h : jh} {mc ms : Nat} {Q : jq} (hv : VX10_hasBelow_0 g a0 x1 h mc ms Q) : jM g mX10_hasBelow [.inr (.inr (some (a0))), .inl (x1)] h mc ms Q := jM.of (by decide) (Nat.le_of_ble_eq_true rfl) (lv := [(0, .inr (.inr (some (a0)))), (1, .inl (x1))]) rfl (vX10_hasBelow_0 hv)
theorem dX10_isBadPart_0 : decode cX10_isBadPart 0 = .ok (.aload_n 0, 1) := by decide +kernel
theorem dX10_isBadPart_1 : decode cX10_isBadPart 1 = .ok (.getfield 50, 3) := by decide +kernel
theorem dX10_isBadPart_4 : decode cX10_isBadPart 4 = .ok (.iload_n 1, 1) := by decide +kernel
theorem dX10_isBadPart_5 : decode cX10_isBadPart 5 = .ok (.iaload, 1) := by decide +kernel
theorem dX10_isBadPart_6 : decode cX10_isBadPart 6 = .ok (.istore_n 2, 1) := by decide +kernel
theorem dX10_isBadPart_7 : decode cX10_isBadPart 7 = .ok (.aload_n 0, 1) := by decide +kernel
theorem dX10_isBadPart_8 : decode cX10_isBadPart 8 = .ok (.getfield 53, 3) := by decide +kernel
theorem dX10_isBadPart_11 : decode cX10_isBadPart 11 = .ok (.iload_n 1, 1) := by decide +kernel
theorem dX10_isBadPart_12 : decode cX10_isBadPart 12 = .ok (.iaload, 1) := by decide +kernel
theorem dX10_isBadPart_13 : decode cX10_isBadPart 13 = .ok (.istore_n 3, 1) := by decide +kernel
theorem dX10_isBadPart_14 : decode cX10_isBadPart 14 = .ok (.aload_n 0, 1) := by decide +kernel
theorem dX10_isBadPart_15 : decode cX10_isBadPart 15 = .ok (.iload_n 2, 1) := by decide +kernel
theorem dX10_isBadPart_16 : decode cX10_isBadPart 16 = .ok (.invokevirtual 150, 3) := by decide +kernel
theorem dX10_isBadPart_19 : decode cX10_isBadPart 19 = .ok (.ifCond .ne 29, 3) := by decide +kernel
theorem dX10_isBadPart_22 : decode cX10_isBadPart 22 = .ok (.aload_n 0, 1) := by decide +kernel
theorem dX10_isBadPart_23 : decode cX10_isBadPart 23 = .ok (.iload_n 3, 1) := by decide +kernel
theorem dX10_isBadPart_24 : decode cX10_isBadPart 24 = .ok (.invokevirtual 150, 3) := by decide +kernel
theorem dX10_isBadPart_27 : decode cX10_isBadPart 27 = .ok (.ifCond .ne 21, 3) := by decide +kernel
theorem dX10_isBadPart_30 : decode cX10_isBadPart 30 = .ok (.aload_n 0, 1) := by decide +kernel
theorem dX10_isBadPart_31 : decode cX10_isBadPart 31 = .ok (.iload_n 2, 1) := by decide +kernel
theorem dX10_isBadPart_32 : decode cX10_isBadPart 32 = .ok (.iconst 0, 1) := by decide +kernel
theorem dX10_isBadPart_33 : decode cX10_isBadPart 33 = .ok (.invokevirtual 127, 3) := by decide +kernel
theorem dX10_isBadPart_36 : decode cX10_isBadPart 36 = .ok (.ifCond .gt 12, 3) := by decide +kernel
theorem dX10_isBadPart_39 : decode cX10_isBadPart 39 = .ok (.aload_n 0, 1) := by decide +kernel
theorem dX10_isBadPart_40 : decode cX10_isBadPart 40 = .ok (.iload_n 3, 1) := by decide +kernel
theorem dX10_isBadPart_41 : decode cX10_isBadPart 41 = .ok (.iconst 0, 1) := by decide +kernel
theorem dX10_isBadPart_42 : decode cX10_isBadPart 42 = .ok (.invokevirtual 127, 3) := by decide +kernel
theorem dX10_isBadPart_45 : decode cX10_isBadPart 45 = .ok (.ifCond .le 5, 3) := by decide +kernel
theorem dX10_isBadPart_48 : decode cX10_isBadPart 48 = .ok (.iconst 1, 1) := by decide +kernel
theorem dX10_isBadPart_49 : decode cX10_isBadPart 49 = .ok (.ireturn, 1) := by decide +kernel
theorem dX10_isBadPart_50 : decode cX10_isBadPart 50 = .ok (.iconst 0, 1) := by decide +kernel
theorem dX10_isBadPart_51 : decode cX10_isBadPart 51 = .ok (.istore 4, 2) := by decide +kernel
theorem dX10_isBadPart_53 : decode cX10_isBadPart 53 = .ok (.iload_n 2, 1) := by decide +kernel
theorem dX10_isBadPart_54 : decode cX10_isBadPart 54 = .ok (.istore 5, 2) := by decide +kernel
theorem dX10_isBadPart_56 : decode cX10_isBadPart 56 = .ok (.iload 5, 2) := by decide +kernel
theorem dX10_isBadPart_58 : decode cX10_isBadPart 58 = .ok (.iload_n 1, 1) := by decide +kernel
theorem dX10_isBadPart_59 : decode cX10_isBadPart 59 = .ok (.if_icmp .ge 56, 3) := by decide +kernel
theorem dX10_isBadPart_62 : decode cX10_isBadPart 62 = .ok (.iload 4, 2) := by decide +kernel
theorem dX10_isBadPart_64 : decode cX10_isBadPart 64 = .ok (.ifCond .ne 38, 3) := by decide +kernel
theorem dX10_isBadPart_67 : decode cX10_isBadPart 67 = .ok (.aload_n 0, 1) := by decide +kernel
theorem dX10_isBadPart_68 : decode cX10_isBadPart 68 = .ok (.iload 5, 2) := by decide +kernel
theorem dX10_isBadPart_70 : decode cX10_isBadPart 70 = .ok (.invokevirtual 105, 3) := by decide +kernel
theorem dX10_isBadPart_73 : decode cX10_isBadPart 73 = .ok (.ifCond .eq 33, 3) := by decide +kernel
theorem dX10_isBadPart_76 : decode cX10_isBadPart 76 = .ok (.aload_n 0, 1) := by decide +kernel
theorem dX10_isBadPart_77 : decode cX10_isBadPart 77 = .ok (.getfield 25, 3) := by decide +kernel
theorem dX10_isBadPart_80 : decode cX10_isBadPart 80 = .ok (.iload 5, 2) := by decide +kernel
theorem dX10_isBadPart_82 : decode cX10_isBadPart 82 = .ok (.iaload, 1) := by decide +kernel
theorem dX10_isBadPart_83 : decode cX10_isBadPart 83 = .ok (.ifCond .le 23, 3) := by decide +kernel
theorem dX10_isBadPart_86 : decode cX10_isBadPart 86 = .ok (.iload 5, 2) := by decide +kernel
theorem dX10_isBadPart_88 : decode cX10_isBadPart 88 = .ok (.iload_n 3, 1) := by decide +kernel
theorem dX10_isBadPart_89 : decode cX10_isBadPart 89 = .ok (.if_icmp .le 13, 3) := by decide +kernel
theorem dX10_isBadPart_92 : decode cX10_isBadPart 92 = .ok (.aload_n 0, 1) := by decide +kernel
theorem dX10_isBadPart_93 : decode cX10_isBadPart 93 = .ok (.iload 5, 2) := by decide +kernel
theorem dX10_isBadPart_95 : decode cX10_isBadPart 95 = .ok (.iload_n 3, 1) := by decide +kernel
theorem dX10_isBadPart_96 : decode cX10_isBadPart 96 = .ok (.invokevirtual 131, 3) := by decide +kernel
theorem dX10_isBadPart_99 : decode cX10_isBadPart 99 = .ok (.ifCond .eq 7, 3) := by decide +kernel
theorem dX10_isBadPart_102 : decode cX10_isBadPart 102 = .ok (.iconst 1, 1) := by decide +kernel
theorem dX10_isBadPart_103 : decode cX10_isBadPart 103 = .ok (.goto 4, 3) := by decide +kernel
theorem dX10_isBadPart_106 : decode cX10_isBadPart 106 = .ok (.iconst 0, 1) := by decide +kernel
theorem dX10_isBadPart_107 : decode cX10_isBadPart 107 = .ok (.istore 4, 2) := by decide +kernel
theorem dX10_isBadPart_109 : decode cX10_isBadPart 109 = .ok (.iinc 5 1, 3) := by decide +kernel
theorem dX10_isBadPart_112 : decode cX10_isBadPart 112 = .ok (.goto (-56), 3) := by decide +kernel
theorem dX10_isBadPart_115 : decode cX10_isBadPart 115 = .ok (.iload 4, 2) := by decide +kernel
theorem dX10_isBadPart_117 : decode cX10_isBadPart 117 = .ok (.ireturn, 1) := by decide +kernel
def VX10_isBadPart_56 (g : jg) (a0 : Nat) (x1 : Int32) (x3 : Int32) (x4 : Int32) (x5 : Int32) (h : jh) (k n : Nat) (Q : jq) : Prop := (((x1) ≤ (x5) → ((x4) = 0 ∨ (x4) = 1) ∧ Q (.inl (some (.inl (x4)))) h) ∧ (¬ (x1) ≤ (x5) → ((¬ (x4) = 0 → jG g mX10_isBadPart 56 [(0, .inr (.inr (some (a0)))), (1, .inl (x1)), (3, .inl (x3)), (4, .inl (1)), (5, .inl ((x5) + 1))] [] h k n Q) ∧ ((x4) = 0 → (jt h a0 = 9) ∧ jM g mX10_lies [.inr (.inr (some a0)), .inl (x5)] h 0 0 (jki (fun (r5 : Int32) (h6 : jh) => (((r5) = 0 → jG g mX10_isBadPart 56 [(0, .inr (.inr (some (a0)))), (1, .inl (x1)), (3, .inl (x3)), (4, .inl (0)), (5, .inl ((x5) + 1))] [] h6 k n Q) ∧ (¬ (r5) = 0 → (jt h6 a0 = 9) ∧ (¬ (jr h6 519 a0) = none) ∧ (jt h6 (jd (jr h6 519 a0)) = 20) ∧ (vp_in (x5) (jn h6 (jd (jr h6 519 a0)))) ∧ (((jI h6 (jd (jr h6 519 a0)) (x5 : Int32).toNatClampNeg) ≤ 0 → jG g mX10_isBadPart 56 [(0, .inr (.inr (some (a0)))), (1, .inl (x1)), (3, .inl (x3)), (4, .inl (0)), (5, .inl ((x5) + 1))] [] h6 k n Q) ∧ (¬ (jI h6 (jd (jr h6 519 a0)) (x5 : Int32).toNatClampNeg) ≤ 0 → (((x5) ≤ (x3) → jG g mX10_isBadPart 56 [(0, .inr (.inr (some (a0)))), (1, .inl (x1)), (3, .inl (x3)), (4, .inl (1)), (5, .inl ((x5) + 1))] [] h6 k n Q) ∧ (¬ (x5) ≤ (x3) → jM g mX10_isBelow [.inr (.inr (some a0)), .inl (x5), .inl (x3)] h6 0 0 (jki (fun (r14 : Int32) (h15 : jh) => (((r14) = 0 → jG g mX10_isBadPart 56 [(0, .inr (.inr (some (a0)))), (1, .inl (x1)), (3, .inl (x3)), (4, .inl (0)), (5, .inl ((x5) + 1))] [] h15 k n Q) ∧ (¬ (r14) = 0 → jG g mX10_isBadPart 56 [(0, .inr (.inr (some (a0)))), (1, .inl (x1)), (3, .inl (x3)), (4, .inl (1)), (5, .inl ((x5) + 1))] [] h15 k n Q))) (fun e h9 => Q (.inr e) h9))))))))) (fun e h9 => Q (.inr e) h9))))))
set_option maxRecDepth 20000 in
theorem vX10_isBadPart_56 {g : jg} {a0 : Nat} {x1 : Int32} {x3 : Int32} {x4 : Int32} {x5 : Int32} {h : jh} {k n : Nat} {Q : jq} (hv : VX10_isBadPart_56 g a0 x1 x3 x4 x5 h k n Q) : jG g mX10_isBadPart 56 [(0, .inr (.inr (some (a0)))), (1, .inl (x1)), (3, .inl (x3)), (4, .inl (x4)), (5, .inl (x5))] [] h k n Q := by
  unfold VX10_isBadPart_56 at hv
  refine jg_iload dX10_isBadPart_56 (List.Mem.tail _ (List.Mem.tail _ (List.Mem.tail _ (List.Mem.tail _ (List.Mem.head _))))) ?_
  refine jg_iload_n dX10_isBadPart_58 rfl (List.Mem.tail _ (List.Mem.head _)) ?_
  refine jg_icmp_ge (tgt := 115) dX10_isBadPart_59 (by decide) (fun c1 => ?_) (fun c1 => ?_)
  · replace hv := hv.1 c1
    refine jg_iload dX10_isBadPart_115 (List.Mem.tail _ (List.Mem.tail _ (List.Mem.tail _ (List.Mem.head _)))) ?_
    obtain ⟨f2, hv⟩ := hv
    exact jg_bret dX10_isBadPart_117 rfl f2 hv
  · replace hv := hv.2 c1
    refine jg_iload dX10_isBadPart_62 (List.Mem.tail _ (List.Mem.tail _ (List.Mem.tail _ (List.Mem.head _)))) ?_
    refine jg_if_ne (tgt := 102) dX10_isBadPart_64 (by decide) (fun c3 => ?_) (fun c3 => ?_)
    · replace hv := hv.1 c3
      refine jg_iconst (v := 1) dX10_isBadPart_102 (by decide) ?_
      refine jg_goto (tgt := 107) dX10_isBadPart_103 (by decide) ?_
      refine jg_istore (lv' := [(4, .inl (1)), (0, .inr (.inr (some (a0)))), (1, .inl (x1)), (3, .inl (x3)), (5, .inl (x5))]) dX10_isBadPart_107 (by decide) rfl ?_
      refine jg_iinc (v := (x5) + 1) (lv' := [(5, .inl ((x5) + 1)), (4, .inl (1)), (0, .inr (.inr (some (a0)))), (1, .inl (x1)), (3, .inl (x3))]) dX10_isBadPart_109 (List.Mem.tail _ (List.Mem.tail _ (List.Mem.tail _ (List.Mem.tail _ (List.Mem.head _))))) rfl (by decide) rfl ?_
      refine jg_goto (tgt := 56) dX10_isBadPart_112 (by decide) ?_
      refine jG.sub (lv' := [(0, .inr (.inr (some (a0)))), (1, .inl (x1)), (3, .inl (x3)), (4, .inl (1)), (5, .inl ((x5) + 1))]) (by simp) ?_
      exact hv
    · replace hv := hv.2 c3
      refine jg_aload_n dX10_isBadPart_67 rfl (List.Mem.head _) ?_
      refine jg_iload dX10_isBadPart_68 (List.Mem.tail _ (List.Mem.tail _ (List.Mem.tail _ (List.Mem.tail _ (List.Mem.head _))))) ?_
      obtain ⟨f4, hv⟩ := hv
      refine jp_callV mX10_lies [.inl (x5)] [] dX10_isBadPart_70 rfl cl_RX10_105 ⟨⟨by decide, by decide⟩, by decide⟩ jsn f4 (Nat.zero_le _) (Nat.zero_le _) (jM.mono (jki_k (fun r5 h6 hv => ?_)) hv)
      refine jg_if_eq (tgt := 106) dX10_isBadPart_73 (by decide) (fun c7 => ?_) (fun c7 => ?_)
      · replace hv := hv.1 c7
        refine jg_iconst (v := 0) dX10_isBadPart_106 (by decide) ?_
        refine jg_istore (lv' := [(4, .inl (0)), (0, .inr (.inr (some (a0)))), (1, .inl (x1)), (3, .inl (x3)), (5, .inl (x5))]) dX10_isBadPart_107 (by decide) rfl ?_
        refine jg_iinc (v := (x5) + 1) (lv' := [(5, .inl ((x5) + 1)), (4, .inl (0)), (0, .inr (.inr (some (a0)))), (1, .inl (x1)), (3, .inl (x3))]) dX10_isBadPart_109 (List.Mem.tail _ (List.Mem.tail _ (List.Mem.tail _ (List.Mem.tail _ (List.Mem.head _))))) rfl (by decide) rfl ?_
        refine jg_goto (tgt := 56) dX10_isBadPart_112 (by decide) ?_
        refine jG.sub (lv' := [(0, .inr (.inr (some (a0)))), (1, .inl (x1)), (3, .inl (x3)), (4, .inl (0)), (5, .inl ((x5) + 1))]) (by simp) ?_
        exact hv
      · replace hv := hv.2 c7
        refine jg_aload_n dX10_isBadPart_76 rfl (List.Mem.head _) ?_
        obtain ⟨f8, hv⟩ := hv
        refine jg_getr dX10_isBadPart_77 fl_RX10_25 rfl jsn f8 ?_
        refine jg_iload dX10_isBadPart_80 (List.Mem.tail _ (List.Mem.tail _ (List.Mem.tail _ (List.Mem.tail _ (List.Mem.head _))))) ?_
        obtain ⟨f9, hv⟩ := hv
        obtain ⟨f10, hv⟩ := hv
        obtain ⟨f11, hv⟩ := hv
        refine jg_iald dX10_isBadPart_82 f9 f10 f11 ?_
        refine jg_if_le (tgt := 106) dX10_isBadPart_83 (by decide) (fun c12 => ?_) (fun c12 => ?_)
        · replace hv := hv.1 c12
          refine jg_iconst (v := 0) dX10_isBadPart_106 (by decide) ?_
          refine jg_istore (lv' := [(4, .inl (0)), (0, .inr (.inr (some (a0)))), (1, .inl (x1)), (3, .inl (x3)), (5, .inl (x5))]) dX10_isBadPart_107 (by decide) rfl ?_
          refine jg_iinc (v := (x5) + 1) (lv' := [(5, .inl ((x5) + 1)), (4, .inl (0)), (0, .inr (.inr (some (a0)))), (1, .inl (x1)), (3, .inl (x3))]) dX10_isBadPart_109 (List.Mem.tail _ (List.Mem.tail _ (List.Mem.tail _ (List.Mem.tail _ (List.Mem.head _))))) rfl (by decide) rfl ?_
          refine jg_goto (tgt := 56) dX10_isBadPart_112 (by decide) ?_
          refine jG.sub (lv' := [(0, .inr (.inr (some (a0)))), (1, .inl (x1)), (3, .inl (x3)), (4, .inl (0)), (5, .inl ((x5) + 1))]) (by simp) ?_
          exact hv
        · replace hv := hv.2 c12
          refine jg_iload dX10_isBadPart_86 (List.Mem.tail _ (List.Mem.tail _ (List.Mem.tail _ (List.Mem.tail _ (List.Mem.head _))))) ?_
          refine jg_iload_n dX10_isBadPart_88 rfl (List.Mem.tail _ (List.Mem.tail _ (List.Mem.head _))) ?_
          refine jg_icmp_le (tgt := 102) dX10_isBadPart_89 (by decide) (fun c13 => ?_) (fun c13 => ?_)
          · replace hv := hv.1 c13
            refine jg_iconst (v := 1) dX10_isBadPart_102 (by decide) ?_
            refine jg_goto (tgt := 107) dX10_isBadPart_103 (by decide) ?_
            refine jg_istore (lv' := [(4, .inl (1)), (0, .inr (.inr (some (a0)))), (1, .inl (x1)), (3, .inl (x3)), (5, .inl (x5))]) dX10_isBadPart_107 (by decide) rfl ?_
            refine jg_iinc (v := (x5) + 1) (lv' := [(5, .inl ((x5) + 1)), (4, .inl (1)), (0, .inr (.inr (some (a0)))), (1, .inl (x1)), (3, .inl (x3))]) dX10_isBadPart_109 (List.Mem.tail _ (List.Mem.tail _ (List.Mem.tail _ (List.Mem.tail _ (List.Mem.head _))))) rfl (by decide) rfl ?_
            refine jg_goto (tgt := 56) dX10_isBadPart_112 (by decide) ?_
            refine jG.sub (lv' := [(0, .inr (.inr (some (a0)))), (1, .inl (x1)), (3, .inl (x3)), (4, .inl (1)), (5, .inl ((x5) + 1))]) (by simp) ?_
            exact hv
          · replace hv := hv.2 c13
            refine jg_aload_n dX10_isBadPart_92 rfl (List.Mem.head _) ?_
            refine jg_iload dX10_isBadPart_93 (List.Mem.tail _ (List.Mem.tail _ (List.Mem.tail _ (List.Mem.tail _ (List.Mem.head _))))) ?_
            refine jg_iload_n dX10_isBadPart_95 rfl (List.Mem.tail _ (List.Mem.tail _ (List.Mem.head _))) ?_
            refine jp_callV mX10_isBelow [.inl (x5), .inl (x3)] [] dX10_isBadPart_96 rfl cl_RX10_131 ⟨⟨by decide, by decide⟩, by decide⟩ jsn f8 (Nat.zero_le _) (Nat.zero_le _) (jM.mono (jki_k (fun r14 h15 hv => ?_)) hv)
            refine jg_if_eq (tgt := 106) dX10_isBadPart_99 (by decide) (fun c16 => ?_) (fun c16 => ?_)
            · replace hv := hv.1 c16
              refine jg_iconst (v := 0) dX10_isBadPart_106 (by decide) ?_
              refine jg_istore (lv' := [(4, .inl (0)), (0, .inr (.inr (some (a0)))), (1, .inl (x1)), (3, .inl (x3)), (5, .inl (x5))]) dX10_isBadPart_107 (by decide) rfl ?_
              refine jg_iinc (v := (x5) + 1) (lv' := [(5, .inl ((x5) + 1)), (4, .inl (0)), (0, .inr (.inr (some (a0)))), (1, .inl (x1)), (3, .inl (x3))]) dX10_isBadPart_109 (List.Mem.tail _ (List.Mem.tail _ (List.Mem.tail _ (List.Mem.tail _ (List.Mem.head _))))) rfl (by decide) rfl ?_
              refine jg_goto (tgt := 56) dX10_isBadPart_112 (by decide) ?_
              refine jG.sub (lv' := [(0, .inr (.inr (some (a0)))), (1, .inl (x1)), (3, .inl (x3)), (4, .inl (0)), (5, .inl ((x5) + 1))]) (by simp) ?_
              exact hv
            · replace hv := hv.2 c16
              refine jg_iconst (v := 1) dX10_isBadPart_102 (by decide) ?_
              refine jg_goto (tgt := 107) dX10_isBadPart_103 (by decide) ?_
              refine jg_istore (lv' := [(4, .inl (1)), (0, .inr (.inr (some (a0)))), (1, .inl (x1)), (3, .inl (x3)), (5, .inl (x5))]) dX10_isBadPart_107 (by decide) rfl ?_
              refine jg_iinc (v := (x5) + 1) (lv' := [(5, .inl ((x5) + 1)), (4, .inl (1)), (0, .inr (.inr (some (a0)))), (1, .inl (x1)), (3, .inl (x3))]) dX10_isBadPart_109 (List.Mem.tail _ (List.Mem.tail _ (List.Mem.tail _ (List.Mem.tail _ (List.Mem.head _))))) rfl (by decide) rfl ?_
              refine jg_goto (tgt := 56) dX10_isBadPart_112 (by decide) ?_
              refine jG.sub (lv' := [(0, .inr (.inr (some (a0)))), (1, .inl (x1)), (3, .inl (x3)), (4, .inl (1)), (5, .inl ((x5) + 1))]) (by simp) ?_
              exact hv
def VX10_isBadPart_0 (g : jg) (a0 : Nat) (x1 : Int32) (h : jh) (k n : Nat) (Q : jq) : Prop := (jt h a0 = 9) ∧ (¬ (jr h 527 a0) = none) ∧ (jt h (jd (jr h 527 a0)) = 20) ∧ (vp_in (x1) (jn h (jd (jr h 527 a0)))) ∧ (¬ (jr h 528 a0) = none) ∧ (jt h (jd (jr h 528 a0)) = 20) ∧ (vp_in (x1) (jn h (jd (jr h 528 a0)))) ∧ jM g mX10_isAside [.inr (.inr (some a0)), .inl (jI h (jd (jr h 527 a0)) (x1 : Int32).toNatClampNeg)] h 0 0 (jki (fun (r24 : Int32) (h25 : jh) => ((¬ (r24) = 0 → Q (.inl (some (.inl (1)))) h25) ∧ ((r24) = 0 → (jt h25 a0 = 9) ∧ jM g mX10_isAside [.inr (.inr (some a0)), .inl (jI h (jd (jr h 528 a0)) (x1 : Int32).toNatClampNeg)] h25 0 0 (jki (fun (r28 : Int32) (h29 : jh) => ((¬ (r28) = 0 → Q (.inl (some (.inl (1)))) h29) ∧ ((r28) = 0 → (jt h29 a0 = 9) ∧ jM g mX10_tablesUp [.inr (.inr (some a0)), .inl (jI h (jd (jr h 527 a0)) (x1 : Int32).toNatClampNeg), .inl (0)] h29 0 0 (jki (fun (r32 : Int32) (h33 : jh) => ((0 < (r32) → Q (.inl (some (.inl (1)))) h33) ∧ (¬ 0 < (r32) → (jt h33 a0 = 9) ∧ jM g mX10_tablesUp [.inr (.inr (some a0)), .inl (jI h (jd (jr h 528 a0)) (x1 : Int32).toNatClampNeg), .inl (0)] h33 0 0 (jki (fun (r36 : Int32) (h37 : jh) => (((r36) ≤ 0 → jG g mX10_isBadPart 56 [(0, .inr (.inr (some (a0)))), (1, .inl (x1)), (3, .inl (jI h (jd (jr h 528 a0)) (x1 : Int32).toNatClampNeg)), (4, .inl (0)), (5, .inl (jI h (jd (jr h 527 a0)) (x1 : Int32).toNatClampNeg))] [] h37 k n Q) ∧ (¬ (r36) ≤ 0 → Q (.inl (some (.inl (1)))) h37))) (fun e h9 => Q (.inr e) h9))))) (fun e h9 => Q (.inr e) h9))))) (fun e h9 => Q (.inr e) h9))))) (fun e h9 => Q (.inr e) h9))
set_option maxRecDepth 20000 in
theorem vX10_isBadPart_0 {g : jg} {a0 : Nat} {x1 : Int32} {h : jh} {k n : Nat} {Q : jq} (hv : VX10_isBadPart_0 g a0 x1 h k n Q) : jG g mX10_isBadPart 0 [(0, .inr (.inr (some (a0)))), (1, .inl (x1))] [] h k n Q := by
  unfold VX10_isBadPart_0 at hv
  refine jg_aload_n dX10_isBadPart_0 rfl (List.Mem.head _) ?_
  obtain ⟨f17, hv⟩ := hv
  refine jg_getr dX10_isBadPart_1 fl_RX10_50 rfl jsn f17 ?_
  refine jg_iload_n dX10_isBadPart_4 rfl (List.Mem.tail _ (List.Mem.head _)) ?_
  obtain ⟨f18, hv⟩ := hv
  obtain ⟨f19, hv⟩ := hv
  obtain ⟨f20, hv⟩ := hv
  refine jg_iald dX10_isBadPart_5 f18 f19 f20 ?_
  refine jg_istore_n (lv' := [(2, .inl (jI h (jd (jr h 527 a0)) (x1 : Int32).toNatClampNeg)), (0, .inr (.inr (some (a0)))), (1, .inl (x1))]) dX10_isBadPart_6 rfl (by decide) rfl ?_
  refine jg_aload_n dX10_isBadPart_7 rfl (List.Mem.tail _ (List.Mem.head _)) ?_
  refine jg_getr dX10_isBadPart_8 fl_RX10_53 rfl jsn f17 ?_
  refine jg_iload_n dX10_isBadPart_11 rfl (List.Mem.tail _ (List.Mem.tail _ (List.Mem.head _))) ?_
  obtain ⟨f21, hv⟩ := hv
  obtain ⟨f22, hv⟩ := hv
  obtain ⟨f23, hv⟩ := hv
  refine jg_iald dX10_isBadPart_12 f21 f22 f23 ?_
  refine jg_istore_n (lv' := [(3, .inl (jI h (jd (jr h 528 a0)) (x1 : Int32).toNatClampNeg)), (2, .inl (jI h (jd (jr h 527 a0)) (x1 : Int32).toNatClampNeg)), (0, .inr (.inr (some (a0)))), (1, .inl (x1))]) dX10_isBadPart_13 rfl (by decide) rfl ?_
  refine jg_aload_n dX10_isBadPart_14 rfl (List.Mem.tail _ (List.Mem.tail _ (List.Mem.head _))) ?_
  refine jg_iload_n dX10_isBadPart_15 rfl (List.Mem.tail _ (List.Mem.head _)) ?_
  refine jp_callV mX10_isAside [.inl (jI h (jd (jr h 527 a0)) (x1 : Int32).toNatClampNeg)] [] dX10_isBadPart_16 rfl cl_RX10_150 ⟨⟨by decide, by decide⟩, by decide⟩ jsn f17 (Nat.zero_le _) (Nat.zero_le _) (jM.mono (jki_k (fun r24 h25 hv => ?_)) hv)
  refine jg_if_ne (tgt := 48) dX10_isBadPart_19 (by decide) (fun c26 => ?_) (fun c26 => ?_)
  · replace hv := hv.1 c26
    refine jg_iconst (v := 1) dX10_isBadPart_48 (by decide) ?_
    exact jg_bret dX10_isBadPart_49 rfl (by decide) hv
  · replace hv := hv.2 c26
    refine jg_aload_n dX10_isBadPart_22 rfl (List.Mem.tail _ (List.Mem.tail _ (List.Mem.head _))) ?_
    refine jg_iload_n dX10_isBadPart_23 rfl (List.Mem.head _) ?_
    obtain ⟨f27, hv⟩ := hv
    refine jp_callV mX10_isAside [.inl (jI h (jd (jr h 528 a0)) (x1 : Int32).toNatClampNeg)] [] dX10_isBadPart_24 rfl cl_RX10_150 ⟨⟨by decide, by decide⟩, by decide⟩ jsn f27 (Nat.zero_le _) (Nat.zero_le _) (jM.mono (jki_k (fun r28 h29 hv => ?_)) hv)
    refine jg_if_ne (tgt := 48) dX10_isBadPart_27 (by decide) (fun c30 => ?_) (fun c30 => ?_)
    · replace hv := hv.1 c30
      refine jg_iconst (v := 1) dX10_isBadPart_48 (by decide) ?_
      exact jg_bret dX10_isBadPart_49 rfl (by decide) hv
    · replace hv := hv.2 c30
      refine jg_aload_n dX10_isBadPart_30 rfl (List.Mem.tail _ (List.Mem.tail _ (List.Mem.head _))) ?_
      refine jg_iload_n dX10_isBadPart_31 rfl (List.Mem.tail _ (List.Mem.head _)) ?_
      refine jg_iconst (v := 0) dX10_isBadPart_32 (by decide) ?_
      obtain ⟨f31, hv⟩ := hv
      refine jp_callV mX10_tablesUp [.inl (jI h (jd (jr h 527 a0)) (x1 : Int32).toNatClampNeg), .inl (0)] [] dX10_isBadPart_33 rfl cl_RX10_127 ⟨⟨by decide, by decide⟩, by decide⟩ jsn f31 (Nat.zero_le _) (Nat.zero_le _) (jM.mono (jki_k (fun r32 h33 hv => ?_)) hv)
      refine jg_if_gt (tgt := 48) dX10_isBadPart_36 (by decide) (fun c34 => ?_) (fun c34 => ?_)
      · replace hv := hv.1 c34
        refine jg_iconst (v := 1) dX10_isBadPart_48 (by decide) ?_
        exact jg_bret dX10_isBadPart_49 rfl (by decide) hv
      · replace hv := hv.2 c34
        refine jg_aload_n dX10_isBadPart_39 rfl (List.Mem.tail _ (List.Mem.tail _ (List.Mem.head _))) ?_
        refine jg_iload_n dX10_isBadPart_40 rfl (List.Mem.head _) ?_
        refine jg_iconst (v := 0) dX10_isBadPart_41 (by decide) ?_
        obtain ⟨f35, hv⟩ := hv
        refine jp_callV mX10_tablesUp [.inl (jI h (jd (jr h 528 a0)) (x1 : Int32).toNatClampNeg), .inl (0)] [] dX10_isBadPart_42 rfl cl_RX10_127 ⟨⟨by decide, by decide⟩, by decide⟩ jsn f35 (Nat.zero_le _) (Nat.zero_le _) (jM.mono (jki_k (fun r36 h37 hv => ?_)) hv)
        refine jg_if_le (tgt := 50) dX10_isBadPart_45 (by decide) (fun c38 => ?_) (fun c38 => ?_)
        · replace hv := hv.1 c38
          refine jg_iconst (v := 0) dX10_isBadPart_50 (by decide) ?_
          refine jg_istore (lv' := [(4, .inl (0)), (3, .inl (jI h (jd (jr h 528 a0)) (x1 : Int32).toNatClampNeg)), (2, .inl (jI h (jd (jr h 527 a0)) (x1 : Int32).toNatClampNeg)), (0, .inr (.inr (some (a0)))), (1, .inl (x1))]) dX10_isBadPart_51 (by decide) rfl ?_
          refine jg_iload_n dX10_isBadPart_53 rfl (List.Mem.tail _ (List.Mem.tail _ (List.Mem.head _))) ?_
          refine jg_istore (lv' := [(5, .inl (jI h (jd (jr h 527 a0)) (x1 : Int32).toNatClampNeg)), (4, .inl (0)), (3, .inl (jI h (jd (jr h 528 a0)) (x1 : Int32).toNatClampNeg)), (2, .inl (jI h (jd (jr h 527 a0)) (x1 : Int32).toNatClampNeg)), (0, .inr (.inr (some (a0)))), (1, .inl (x1))]) dX10_isBadPart_54 (by decide) rfl ?_
          refine jG.sub (lv' := [(0, .inr (.inr (some (a0)))), (1, .inl (x1)), (3, .inl (jI h (jd (jr h 528 a0)) (x1 : Int32).toNatClampNeg)), (4, .inl (0)), (5, .inl (jI h (jd (jr h 527 a0)) (x1 : Int32).toNatClampNeg))]) (by simp) ?_
          exact hv
        · replace hv := hv.2 c38
          refine jg_iconst (v := 1) dX10_isBadPart_48 (by decide) ?_
          exact jg_bret dX10_isBadPart_49 rfl (by decide) hv
theorem eX10_isBadPart {g : jg} {a0 : Nat} {x1 : Int32} {h : jh} {mc ms : Nat} {Q : jq} (hv : VX10_isBadPart_0 g a0 x1 h mc ms Q) : jM g mX10_isBadPart [.inr (.inr (some (a0))), .inl (x1)] h mc ms Q := jM.of (by decide) (Nat.le_of_ble_eq_true rfl) (lv := [(0, .inr (.inr (some (a0)))), (1, .inl (x1))]) rfl (vX10_isBadPart_0 hv)
theorem dX10_isLast_0 : decode cX10_isLast 0 = .ok (.iconst 1, 1) := by decide +kernel
theorem dX10_isLast_1 : decode cX10_isLast 1 = .ok (.istore_n 2, 1) := by decide +kernel
theorem dX10_isLast_2 : decode cX10_isLast 2 = .ok (.iload_n 1, 1) := by decide +kernel
theorem dX10_isLast_3 : decode cX10_isLast 3 = .ok (.iconst 1, 1) := by decide +kernel
theorem dX10_isLast_4 : decode cX10_isLast 4 = .ok (.iadd, 1) := by decide +kernel
theorem dX10_isLast_5 : decode cX10_isLast 5 = .ok (.istore_n 3, 1) := by decide +kernel
theorem dX10_isLast_6 : decode cX10_isLast 6 = .ok (.iload_n 3, 1) := by decide +kernel
theorem dX10_isLast_7 : decode cX10_isLast 7 = .ok (.aload_n 0, 1) := by decide +kernel
theorem dX10_isLast_8 : decode cX10_isLast 8 = .ok (.getfield 102, 3) := by decide +kernel
theorem dX10_isLast_11 : decode cX10_isLast 11 = .ok (.if_icmp .gt 51, 3) := by decide +kernel
theorem dX10_isLast_14 : decode cX10_isLast 14 = .ok (.iload_n 2, 1) := by decide +kernel
theorem dX10_isLast_15 : decode cX10_isLast 15 = .ok (.ifCond .eq 39, 3) := by decide +kernel
theorem dX10_isLast_18 : decode cX10_isLast 18 = .ok (.aload_n 0, 1) := by decide +kernel
theorem dX10_isLast_19 : decode cX10_isLast 19 = .ok (.iload_n 3, 1) := by decide +kernel
theorem dX10_isLast_20 : decode cX10_isLast 20 = .ok (.invokevirtual 105, 3) := by decide +kernel
theorem dX10_isLast_23 : decode cX10_isLast 23 = .ok (.ifCond .eq 27, 3) := by decide +kernel
theorem dX10_isLast_26 : decode cX10_isLast 26 = .ok (.aload_n 0, 1) := by decide +kernel
theorem dX10_isLast_27 : decode cX10_isLast 27 = .ok (.getfield 22, 3) := by decide +kernel
theorem dX10_isLast_30 : decode cX10_isLast 30 = .ok (.iload_n 3, 1) := by decide +kernel
theorem dX10_isLast_31 : decode cX10_isLast 31 = .ok (.iaload, 1) := by decide +kernel
theorem dX10_isLast_32 : decode cX10_isLast 32 = .ok (.aload_n 0, 1) := by decide +kernel
theorem dX10_isLast_33 : decode cX10_isLast 33 = .ok (.getfield 22, 3) := by decide +kernel
theorem dX10_isLast_36 : decode cX10_isLast 36 = .ok (.iload_n 1, 1) := by decide +kernel
theorem dX10_isLast_37 : decode cX10_isLast 37 = .ok (.iaload, 1) := by decide +kernel
theorem dX10_isLast_38 : decode cX10_isLast 38 = .ok (.if_icmp .ne 12, 3) := by decide +kernel
theorem dX10_isLast_41 : decode cX10_isLast 41 = .ok (.aload_n 0, 1) := by decide +kernel
theorem dX10_isLast_42 : decode cX10_isLast 42 = .ok (.iload_n 3, 1) := by decide +kernel
theorem dX10_isLast_43 : decode cX10_isLast 43 = .ok (.iload_n 1, 1) := by decide +kernel
theorem dX10_isLast_44 : decode cX10_isLast 44 = .ok (.invokevirtual 131, 3) := by decide +kernel
theorem dX10_isLast_47 : decode cX10_isLast 47 = .ok (.ifCond .eq 7, 3) := by decide +kernel
theorem dX10_isLast_50 : decode cX10_isLast 50 = .ok (.iconst 1, 1) := by decide +kernel
theorem dX10_isLast_51 : decode cX10_isLast 51 = .ok (.goto 4, 3) := by decide +kernel
theorem dX10_isLast_54 : decode cX10_isLast 54 = .ok (.iconst 0, 1) := by decide +kernel
theorem dX10_isLast_55 : decode cX10_isLast 55 = .ok (.istore_n 2, 1) := by decide +kernel
theorem dX10_isLast_56 : decode cX10_isLast 56 = .ok (.iinc 3 1, 3) := by decide +kernel
theorem dX10_isLast_59 : decode cX10_isLast 59 = .ok (.goto (-53), 3) := by decide +kernel
theorem dX10_isLast_62 : decode cX10_isLast 62 = .ok (.iload_n 2, 1) := by decide +kernel
theorem dX10_isLast_63 : decode cX10_isLast 63 = .ok (.ireturn, 1) := by decide +kernel
def VX10_isLast_6 (g : jg) (a0 : Nat) (x1 : Int32) (x2 : Int32) (x3 : Int32) (h : jh) (k n : Nat) (Q : jq) : Prop := (jt h a0 = 9) ∧ (((ji h 513 a0) < (x3) → ((x2) = 0 ∨ (x2) = 1) ∧ Q (.inl (some (.inl (x2)))) h) ∧ (¬ (ji h 513 a0) < (x3) → (((x2) = 0 → jG g mX10_isLast 6 [(0, .inr (.inr (some (a0)))), (1, .inl (x1)), (2, .inl (0)), (3, .inl ((x3) + 1))] [] h k n Q) ∧ (¬ (x2) = 0 → jM g mX10_lies [.inr (.inr (some a0)), .inl (x3)] h 0 0 (jki (fun (r5 : Int32) (h6 : jh) => (((r5) = 0 → jG g mX10_isLast 6 [(0, .inr (.inr (some (a0)))), (1, .inl (x1)), (2, .inl (1)), (3, .inl ((x3) + 1))] [] h6 k n Q) ∧ (¬ (r5) = 0 → (jt h6 a0 = 9) ∧ (¬ (jr h6 518 a0) = none) ∧ (jt h6 (jd (jr h6 518 a0)) = 20) ∧ (vp_in (x3) (jn h6 (jd (jr h6 518 a0)))) ∧ (vp_in (x1) (jn h6 (jd (jr h6 518 a0)))) ∧ ((¬ (jI h6 (jd (jr h6 518 a0)) (x3 : Int32).toNatClampNeg) = (jI h6 (jd (jr h6 518 a0)) (x1 : Int32).toNatClampNeg) → jG g mX10_isLast 6 [(0, .inr (.inr (some (a0)))), (1, .inl (x1)), (2, .inl (1)), (3, .inl ((x3) + 1))] [] h6 k n Q) ∧ ((jI h6 (jd (jr h6 518 a0)) (x3 : Int32).toNatClampNeg) = (jI h6 (jd (jr h6 518 a0)) (x1 : Int32).toNatClampNeg) → jM g mX10_isBelow [.inr (.inr (some a0)), .inl (x3), .inl (x1)] h6 0 0 (jki (fun (r14 : Int32) (h15 : jh) => (((r14) = 0 → jG g mX10_isLast 6 [(0, .inr (.inr (some (a0)))), (1, .inl (x1)), (2, .inl (0)), (3, .inl ((x3) + 1))] [] h15 k n Q) ∧ (¬ (r14) = 0 → jG g mX10_isLast 6 [(0, .inr (.inr (some (a0)))), (1, .inl (x1)), (2, .inl (1)), (3, .inl ((x3) + 1))] [] h15 k n Q))) (fun e h9 => Q (.inr e) h9))))))) (fun e h9 => Q (.inr e) h9))))))
set_option maxRecDepth 20000 in
theorem vX10_isLast_6 {g : jg} {a0 : Nat} {x1 : Int32} {x2 : Int32} {x3 : Int32} {h : jh} {k n : Nat} {Q : jq} (hv : VX10_isLast_6 g a0 x1 x2 x3 h k n Q) : jG g mX10_isLast 6 [(0, .inr (.inr (some (a0)))), (1, .inl (x1)), (2, .inl (x2)), (3, .inl (x3))] [] h k n Q := by
  unfold VX10_isLast_6 at hv
  refine jg_iload_n dX10_isLast_6 rfl (List.Mem.tail _ (List.Mem.tail _ (List.Mem.tail _ (List.Mem.head _)))) ?_
  refine jg_aload_n dX10_isLast_7 rfl (List.Mem.head _) ?_
  obtain ⟨f1, hv⟩ := hv
  refine jg_geti dX10_isLast_8 fl_RX10_102 rfl jsn f1 ?_
  refine jg_icmp_gt (tgt := 62) dX10_isLast_11 (by decide) (fun c2 => ?_) (fun c2 => ?_)
  · replace hv := hv.1 c2
    refine jg_iload_n dX10_isLast_62 rfl (List.Mem.tail _ (List.Mem.tail _ (List.Mem.head _))) ?_
    obtain ⟨f3, hv⟩ := hv
    exact jg_bret dX10_isLast_63 rfl f3 hv
  · replace hv := hv.2 c2
    refine jg_iload_n dX10_isLast_14 rfl (List.Mem.tail _ (List.Mem.tail _ (List.Mem.head _))) ?_
    refine jg_if_eq (tgt := 54) dX10_isLast_15 (by decide) (fun c4 => ?_) (fun c4 => ?_)
    · replace hv := hv.1 c4
      refine jg_iconst (v := 0) dX10_isLast_54 (by decide) ?_
      refine jg_istore_n (lv' := [(2, .inl (0)), (0, .inr (.inr (some (a0)))), (1, .inl (x1)), (3, .inl (x3))]) dX10_isLast_55 rfl (by decide) rfl ?_
      refine jg_iinc (v := (x3) + 1) (lv' := [(3, .inl ((x3) + 1)), (2, .inl (0)), (0, .inr (.inr (some (a0)))), (1, .inl (x1))]) dX10_isLast_56 (List.Mem.tail _ (List.Mem.tail _ (List.Mem.tail _ (List.Mem.head _)))) rfl (by decide) rfl ?_
      refine jg_goto (tgt := 6) dX10_isLast_59 (by decide) ?_
      refine jG.sub (lv' := [(0, .inr (.inr (some (a0)))), (1, .inl (x1)), (2, .inl (0)), (3, .inl ((x3) + 1))]) (by simp) ?_
      exact hv
    · replace hv := hv.2 c4
      refine jg_aload_n dX10_isLast_18 rfl (List.Mem.head _) ?_
      refine jg_iload_n dX10_isLast_19 rfl (List.Mem.tail _ (List.Mem.tail _ (List.Mem.tail _ (List.Mem.head _)))) ?_
      refine jp_callV mX10_lies [.inl (x3)] [] dX10_isLast_20 rfl cl_RX10_105 ⟨⟨by decide, by decide⟩, by decide⟩ jsn f1 (Nat.zero_le _) (Nat.zero_le _) (jM.mono (jki_k (fun r5 h6 hv => ?_)) hv)
      refine jg_if_eq (tgt := 50) dX10_isLast_23 (by decide) (fun c7 => ?_) (fun c7 => ?_)
      · replace hv := hv.1 c7
        refine jg_iconst (v := 1) dX10_isLast_50 (by decide) ?_
        refine jg_goto (tgt := 55) dX10_isLast_51 (by decide) ?_
        refine jg_istore_n (lv' := [(2, .inl (1)), (0, .inr (.inr (some (a0)))), (1, .inl (x1)), (3, .inl (x3))]) dX10_isLast_55 rfl (by decide) rfl ?_
        refine jg_iinc (v := (x3) + 1) (lv' := [(3, .inl ((x3) + 1)), (2, .inl (1)), (0, .inr (.inr (some (a0)))), (1, .inl (x1))]) dX10_isLast_56 (List.Mem.tail _ (List.Mem.tail _ (List.Mem.tail _ (List.Mem.head _)))) rfl (by decide) rfl ?_
        refine jg_goto (tgt := 6) dX10_isLast_59 (by decide) ?_
        refine jG.sub (lv' := [(0, .inr (.inr (some (a0)))), (1, .inl (x1)), (2, .inl (1)), (3, .inl ((x3) + 1))]) (by simp) ?_
        exact hv
      · replace hv := hv.2 c7
        refine jg_aload_n dX10_isLast_26 rfl (List.Mem.head _) ?_
        obtain ⟨f8, hv⟩ := hv
        refine jg_getr dX10_isLast_27 fl_RX10_22 rfl jsn f8 ?_
        refine jg_iload_n dX10_isLast_30 rfl (List.Mem.tail _ (List.Mem.tail _ (List.Mem.tail _ (List.Mem.head _)))) ?_
        obtain ⟨f9, hv⟩ := hv
        obtain ⟨f10, hv⟩ := hv
        obtain ⟨f11, hv⟩ := hv
        refine jg_iald dX10_isLast_31 f9 f10 f11 ?_
        refine jg_aload_n dX10_isLast_32 rfl (List.Mem.head _) ?_
        refine jg_getr dX10_isLast_33 fl_RX10_22 rfl jsn f8 ?_
        refine jg_iload_n dX10_isLast_36 rfl (List.Mem.tail _ (List.Mem.head _)) ?_
        obtain ⟨f12, hv⟩ := hv
        refine jg_iald dX10_isLast_37 f9 f10 f12 ?_
        refine jg_icmp_ne (tgt := 50) dX10_isLast_38 (by decide) (fun c13 => ?_) (fun c13 => ?_)
        · replace hv := hv.1 c13
          refine jg_iconst (v := 1) dX10_isLast_50 (by decide) ?_
          refine jg_goto (tgt := 55) dX10_isLast_51 (by decide) ?_
          refine jg_istore_n (lv' := [(2, .inl (1)), (0, .inr (.inr (some (a0)))), (1, .inl (x1)), (3, .inl (x3))]) dX10_isLast_55 rfl (by decide) rfl ?_
          refine jg_iinc (v := (x3) + 1) (lv' := [(3, .inl ((x3) + 1)), (2, .inl (1)), (0, .inr (.inr (some (a0)))), (1, .inl (x1))]) dX10_isLast_56 (List.Mem.tail _ (List.Mem.tail _ (List.Mem.tail _ (List.Mem.head _)))) rfl (by decide) rfl ?_
          refine jg_goto (tgt := 6) dX10_isLast_59 (by decide) ?_
          refine jG.sub (lv' := [(0, .inr (.inr (some (a0)))), (1, .inl (x1)), (2, .inl (1)), (3, .inl ((x3) + 1))]) (by simp) ?_
          exact hv
        · replace hv := hv.2 c13
          refine jg_aload_n dX10_isLast_41 rfl (List.Mem.head _) ?_
          refine jg_iload_n dX10_isLast_42 rfl (List.Mem.tail _ (List.Mem.tail _ (List.Mem.tail _ (List.Mem.head _)))) ?_
          refine jg_iload_n dX10_isLast_43 rfl (List.Mem.tail _ (List.Mem.head _)) ?_
          refine jp_callV mX10_isBelow [.inl (x3), .inl (x1)] [] dX10_isLast_44 rfl cl_RX10_131 ⟨⟨by decide, by decide⟩, by decide⟩ jsn f8 (Nat.zero_le _) (Nat.zero_le _) (jM.mono (jki_k (fun r14 h15 hv => ?_)) hv)
          refine jg_if_eq (tgt := 54) dX10_isLast_47 (by decide) (fun c16 => ?_) (fun c16 => ?_)
          · replace hv := hv.1 c16
            refine jg_iconst (v := 0) dX10_isLast_54 (by decide) ?_
            refine jg_istore_n (lv' := [(2, .inl (0)), (0, .inr (.inr (some (a0)))), (1, .inl (x1)), (3, .inl (x3))]) dX10_isLast_55 rfl (by decide) rfl ?_
            refine jg_iinc (v := (x3) + 1) (lv' := [(3, .inl ((x3) + 1)), (2, .inl (0)), (0, .inr (.inr (some (a0)))), (1, .inl (x1))]) dX10_isLast_56 (List.Mem.tail _ (List.Mem.tail _ (List.Mem.tail _ (List.Mem.head _)))) rfl (by decide) rfl ?_
            refine jg_goto (tgt := 6) dX10_isLast_59 (by decide) ?_
            refine jG.sub (lv' := [(0, .inr (.inr (some (a0)))), (1, .inl (x1)), (2, .inl (0)), (3, .inl ((x3) + 1))]) (by simp) ?_
            exact hv
          · replace hv := hv.2 c16
            refine jg_iconst (v := 1) dX10_isLast_50 (by decide) ?_
            refine jg_goto (tgt := 55) dX10_isLast_51 (by decide) ?_
            refine jg_istore_n (lv' := [(2, .inl (1)), (0, .inr (.inr (some (a0)))), (1, .inl (x1)), (3, .inl (x3))]) dX10_isLast_55 rfl (by decide) rfl ?_
            refine jg_iinc (v := (x3) + 1) (lv' := [(3, .inl ((x3) + 1)), (2, .inl (1)), (0, .inr (.inr (some (a0)))), (1, .inl (x1))]) dX10_isLast_56 (List.Mem.tail _ (List.Mem.tail _ (List.Mem.tail _ (List.Mem.head _)))) rfl (by decide) rfl ?_
            refine jg_goto (tgt := 6) dX10_isLast_59 (by decide) ?_
            refine jG.sub (lv' := [(0, .inr (.inr (some (a0)))), (1, .inl (x1)), (2, .inl (1)), (3, .inl ((x3) + 1))]) (by simp) ?_
            exact hv
def VX10_isLast_0 (g : jg) (a0 : Nat) (x1 : Int32) (h : jh) (k n : Nat) (Q : jq) : Prop := jG g mX10_isLast 6 [(0, .inr (.inr (some (a0)))), (1, .inl (x1)), (2, .inl (1)), (3, .inl ((x1) + (1)))] [] h k n Q
set_option maxRecDepth 20000 in
theorem vX10_isLast_0 {g : jg} {a0 : Nat} {x1 : Int32} {h : jh} {k n : Nat} {Q : jq} (hv : VX10_isLast_0 g a0 x1 h k n Q) : jG g mX10_isLast 0 [(0, .inr (.inr (some (a0)))), (1, .inl (x1))] [] h k n Q := by
  unfold VX10_isLast_0 at hv
  refine jg_iconst (v := 1) dX10_isLast_0 (by decide) ?_
  refine jg_istore_n (lv' := [(2, .inl (1)), (0, .inr (.inr (some (a0)))), (1, .inl (x1))]) dX10_isLast_1 rfl (by decide) rfl ?_
  refine jg_iload_n dX10_isLast_2 rfl (List.Mem.tail _ (List.Mem.tail _ (List.Mem.head _))) ?_
  refine jg_iconst (v := 1) dX10_isLast_3 (by decide) ?_
  refine jg_iadd dX10_isLast_4 ?_
  refine jg_istore_n (lv' := [(3, .inl ((x1) + (1))), (2, .inl (1)), (0, .inr (.inr (some (a0)))), (1, .inl (x1))]) dX10_isLast_5 rfl (by decide) rfl ?_
  refine jG.sub (lv' := [(0, .inr (.inr (some (a0)))), (1, .inl (x1)), (2, .inl (1)), (3, .inl ((x1) + (1)))]) (by simp) ?_
  exact hv
theorem eX10_isLast {g : jg} {a0 : Nat} {x1 : Int32} {h : jh} {mc ms : Nat} {Q : jq} (hv : VX10_isLast_0 g a0 x1 h mc ms Q) : jM g mX10_isLast [.inr (.inr (some (a0))), .inl (x1)] h mc ms Q := jM.of (by decide) (Nat.le_of_ble_eq_true rfl) (lv := [(0, .inr (.inr (some (a0)))), (1, .inl (x1))]) rfl (vX10_isLast_0 hv)
theorem dX10_isWrong_0 : decode cX10_isWrong 0 = .ok (.aload_n 0, 1) := by decide +kernel
theorem dX10_isWrong_1 : decode cX10_isWrong 1 = .ok (.getfield 7, 3) := by decide +kernel
theorem dX10_isWrong_4 : decode cX10_isWrong 4 = .ok (.iload_n 1, 1) := by decide +kernel
theorem dX10_isWrong_5 : decode cX10_isWrong 5 = .ok (.iaload, 1) := by decide +kernel
theorem dX10_isWrong_6 : decode cX10_isWrong 6 = .ok (.bipush 88, 2) := by decide +kernel
theorem dX10_isWrong_8 : decode cX10_isWrong 8 = .ok (.if_icmp .ne 18, 3) := by decide +kernel
theorem dX10_isWrong_11 : decode cX10_isWrong 11 = .ok (.aload_n 0, 1) := by decide +kernel
theorem dX10_isWrong_12 : decode cX10_isWrong 12 = .ok (.getfield 47, 3) := by decide +kernel
theorem dX10_isWrong_15 : decode cX10_isWrong 15 = .ok (.iload_n 1, 1) := by decide +kernel
theorem dX10_isWrong_16 : decode cX10_isWrong 16 = .ok (.iaload, 1) := by decide +kernel
theorem dX10_isWrong_17 : decode cX10_isWrong 17 = .ok (.ifCond .ne 7, 3) := by decide +kernel
theorem dX10_isWrong_20 : decode cX10_isWrong 20 = .ok (.iconst 1, 1) := by decide +kernel
theorem dX10_isWrong_21 : decode cX10_isWrong 21 = .ok (.goto 4, 3) := by decide +kernel
theorem dX10_isWrong_24 : decode cX10_isWrong 24 = .ok (.iconst 0, 1) := by decide +kernel
theorem dX10_isWrong_25 : decode cX10_isWrong 25 = .ok (.ireturn, 1) := by decide +kernel
theorem dX10_isWrong_26 : decode cX10_isWrong 26 = .ok (.aload_n 0, 1) := by decide +kernel
theorem dX10_isWrong_27 : decode cX10_isWrong 27 = .ok (.getfield 7, 3) := by decide +kernel
theorem dX10_isWrong_30 : decode cX10_isWrong 30 = .ok (.iload_n 1, 1) := by decide +kernel
theorem dX10_isWrong_31 : decode cX10_isWrong 31 = .ok (.iaload, 1) := by decide +kernel
theorem dX10_isWrong_32 : decode cX10_isWrong 32 = .ok (.bipush 66, 2) := by decide +kernel
theorem dX10_isWrong_34 : decode cX10_isWrong 34 = .ok (.if_icmp .ne 26, 3) := by decide +kernel
theorem dX10_isWrong_37 : decode cX10_isWrong 37 = .ok (.aload_n 0, 1) := by decide +kernel
theorem dX10_isWrong_38 : decode cX10_isWrong 38 = .ok (.getfield 50, 3) := by decide +kernel
theorem dX10_isWrong_41 : decode cX10_isWrong 41 = .ok (.iload_n 1, 1) := by decide +kernel
theorem dX10_isWrong_42 : decode cX10_isWrong 42 = .ok (.iaload, 1) := by decide +kernel
theorem dX10_isWrong_43 : decode cX10_isWrong 43 = .ok (.ifCond .eq 11, 3) := by decide +kernel
theorem dX10_isWrong_46 : decode cX10_isWrong 46 = .ok (.aload_n 0, 1) := by decide +kernel
theorem dX10_isWrong_47 : decode cX10_isWrong 47 = .ok (.iload_n 1, 1) := by decide +kernel
theorem dX10_isWrong_48 : decode cX10_isWrong 48 = .ok (.invokevirtual 177, 3) := by decide +kernel
theorem dX10_isWrong_51 : decode cX10_isWrong 51 = .ok (.ifCond .eq 7, 3) := by decide +kernel
theorem dX10_isWrong_54 : decode cX10_isWrong 54 = .ok (.iconst 1, 1) := by decide +kernel
theorem dX10_isWrong_55 : decode cX10_isWrong 55 = .ok (.goto 4, 3) := by decide +kernel
theorem dX10_isWrong_58 : decode cX10_isWrong 58 = .ok (.iconst 0, 1) := by decide +kernel
theorem dX10_isWrong_59 : decode cX10_isWrong 59 = .ok (.ireturn, 1) := by decide +kernel
theorem dX10_isWrong_60 : decode cX10_isWrong 60 = .ok (.aload_n 0, 1) := by decide +kernel
theorem dX10_isWrong_61 : decode cX10_isWrong 61 = .ok (.getfield 13, 3) := by decide +kernel
theorem dX10_isWrong_64 : decode cX10_isWrong 64 = .ok (.iload_n 1, 1) := by decide +kernel
theorem dX10_isWrong_65 : decode cX10_isWrong 65 = .ok (.iaload, 1) := by decide +kernel
theorem dX10_isWrong_66 : decode cX10_isWrong 66 = .ok (.ifCond .ne 13, 3) := by decide +kernel
theorem dX10_isWrong_69 : decode cX10_isWrong 69 = .ok (.aload_n 0, 1) := by decide +kernel
theorem dX10_isWrong_70 : decode cX10_isWrong 70 = .ok (.iload_n 1, 1) := by decide +kernel
theorem dX10_isWrong_71 : decode cX10_isWrong 71 = .ok (.invokevirtual 180, 3) := by decide +kernel
theorem dX10_isWrong_74 : decode cX10_isWrong 74 = .ok (.ifCond .ne 5, 3) := by decide +kernel
theorem dX10_isWrong_77 : decode cX10_isWrong 77 = .ok (.iconst 1, 1) := by decide +kernel
theorem dX10_isWrong_78 : decode cX10_isWrong 78 = .ok (.ireturn, 1) := by decide +kernel
theorem dX10_isWrong_79 : decode cX10_isWrong 79 = .ok (.aload_n 0, 1) := by decide +kernel
theorem dX10_isWrong_80 : decode cX10_isWrong 80 = .ok (.getfield 25, 3) := by decide +kernel
theorem dX10_isWrong_83 : decode cX10_isWrong 83 = .ok (.iload_n 1, 1) := by decide +kernel
theorem dX10_isWrong_84 : decode cX10_isWrong 84 = .ok (.iaload, 1) := by decide +kernel
theorem dX10_isWrong_85 : decode cX10_isWrong 85 = .ok (.iconst 2, 1) := by decide +kernel
theorem dX10_isWrong_86 : decode cX10_isWrong 86 = .ok (.if_icmp .ne 13, 3) := by decide +kernel
theorem dX10_isWrong_89 : decode cX10_isWrong 89 = .ok (.aload_n 0, 1) := by decide +kernel
theorem dX10_isWrong_90 : decode cX10_isWrong 90 = .ok (.iload_n 1, 1) := by decide +kernel
theorem dX10_isWrong_91 : decode cX10_isWrong 91 = .ok (.invokevirtual 183, 3) := by decide +kernel
theorem dX10_isWrong_94 : decode cX10_isWrong 94 = .ok (.ifCond .ne 5, 3) := by decide +kernel
theorem dX10_isWrong_97 : decode cX10_isWrong 97 = .ok (.iconst 1, 1) := by decide +kernel
theorem dX10_isWrong_98 : decode cX10_isWrong 98 = .ok (.ireturn, 1) := by decide +kernel
theorem dX10_isWrong_99 : decode cX10_isWrong 99 = .ok (.aload_n 0, 1) := by decide +kernel
theorem dX10_isWrong_100 : decode cX10_isWrong 100 = .ok (.getfield 56, 3) := by decide +kernel
theorem dX10_isWrong_103 : decode cX10_isWrong 103 = .ok (.iload_n 1, 1) := by decide +kernel
theorem dX10_isWrong_104 : decode cX10_isWrong 104 = .ok (.iaload, 1) := by decide +kernel
theorem dX10_isWrong_105 : decode cX10_isWrong 105 = .ok (.ifCond .le 55, 3) := by decide +kernel
theorem dX10_isWrong_108 : decode cX10_isWrong 108 = .ok (.aload_n 0, 1) := by decide +kernel
theorem dX10_isWrong_109 : decode cX10_isWrong 109 = .ok (.getfield 7, 3) := by decide +kernel
theorem dX10_isWrong_112 : decode cX10_isWrong 112 = .ok (.iload_n 1, 1) := by decide +kernel
theorem dX10_isWrong_113 : decode cX10_isWrong 113 = .ok (.iaload, 1) := by decide +kernel
theorem dX10_isWrong_114 : decode cX10_isWrong 114 = .ok (.iconst 1, 1) := by decide +kernel
theorem dX10_isWrong_115 : decode cX10_isWrong 115 = .ok (.if_icmp .eq 45, 3) := by decide +kernel
theorem dX10_isWrong_118 : decode cX10_isWrong 118 = .ok (.aload_n 0, 1) := by decide +kernel
theorem dX10_isWrong_119 : decode cX10_isWrong 119 = .ok (.getfield 86, 3) := by decide +kernel
theorem dX10_isWrong_122 : decode cX10_isWrong 122 = .ok (.iload_n 1, 1) := by decide +kernel
theorem dX10_isWrong_123 : decode cX10_isWrong 123 = .ok (.laload, 1) := by decide +kernel
theorem dX10_isWrong_124 : decode cX10_isWrong 124 = .ok (.aload_n 0, 1) := by decide +kernel
theorem dX10_isWrong_125 : decode cX10_isWrong 125 = .ok (.getfield 76, 3) := by decide +kernel
theorem dX10_isWrong_128 : decode cX10_isWrong 128 = .ok (.iload_n 1, 1) := by decide +kernel
theorem dX10_isWrong_129 : decode cX10_isWrong 129 = .ok (.laload, 1) := by decide +kernel
theorem dX10_isWrong_130 : decode cX10_isWrong 130 = .ok (.lsub, 1) := by decide +kernel
theorem dX10_isWrong_131 : decode cX10_isWrong 131 = .ok (.aload_n 0, 1) := by decide +kernel
theorem dX10_isWrong_132 : decode cX10_isWrong 132 = .ok (.getfield 86, 3) := by decide +kernel
theorem dX10_isWrong_135 : decode cX10_isWrong 135 = .ok (.aload_n 0, 1) := by decide +kernel
theorem dX10_isWrong_136 : decode cX10_isWrong 136 = .ok (.getfield 56, 3) := by decide +kernel
theorem dX10_isWrong_139 : decode cX10_isWrong 139 = .ok (.iload_n 1, 1) := by decide +kernel
theorem dX10_isWrong_140 : decode cX10_isWrong 140 = .ok (.iaload, 1) := by decide +kernel
theorem dX10_isWrong_141 : decode cX10_isWrong 141 = .ok (.laload, 1) := by decide +kernel
theorem dX10_isWrong_142 : decode cX10_isWrong 142 = .ok (.aload_n 0, 1) := by decide +kernel
theorem dX10_isWrong_143 : decode cX10_isWrong 143 = .ok (.getfield 76, 3) := by decide +kernel
theorem dX10_isWrong_146 : decode cX10_isWrong 146 = .ok (.aload_n 0, 1) := by decide +kernel
theorem dX10_isWrong_147 : decode cX10_isWrong 147 = .ok (.getfield 56, 3) := by decide +kernel
theorem dX10_isWrong_150 : decode cX10_isWrong 150 = .ok (.iload_n 1, 1) := by decide +kernel
theorem dX10_isWrong_151 : decode cX10_isWrong 151 = .ok (.iaload, 1) := by decide +kernel
theorem dX10_isWrong_152 : decode cX10_isWrong 152 = .ok (.laload, 1) := by decide +kernel
theorem dX10_isWrong_153 : decode cX10_isWrong 153 = .ok (.lsub, 1) := by decide +kernel
theorem dX10_isWrong_154 : decode cX10_isWrong 154 = .ok (.lcmp, 1) := by decide +kernel
theorem dX10_isWrong_155 : decode cX10_isWrong 155 = .ok (.ifCond .le 5, 3) := by decide +kernel
theorem dX10_isWrong_158 : decode cX10_isWrong 158 = .ok (.iconst 1, 1) := by decide +kernel
theorem dX10_isWrong_159 : decode cX10_isWrong 159 = .ok (.ireturn, 1) := by decide +kernel
theorem dX10_isWrong_160 : decode cX10_isWrong 160 = .ok (.aload_n 0, 1) := by decide +kernel
theorem dX10_isWrong_161 : decode cX10_isWrong 161 = .ok (.getfield 56, 3) := by decide +kernel
theorem dX10_isWrong_164 : decode cX10_isWrong 164 = .ok (.iload_n 1, 1) := by decide +kernel
theorem dX10_isWrong_165 : decode cX10_isWrong 165 = .ok (.iaload, 1) := by decide +kernel
theorem dX10_isWrong_166 : decode cX10_isWrong 166 = .ok (.ifCond .le 29, 3) := by decide +kernel
theorem dX10_isWrong_169 : decode cX10_isWrong 169 = .ok (.aload_n 0, 1) := by decide +kernel
theorem dX10_isWrong_170 : decode cX10_isWrong 170 = .ok (.getfield 76, 3) := by decide +kernel
theorem dX10_isWrong_173 : decode cX10_isWrong 173 = .ok (.iload_n 1, 1) := by decide +kernel
theorem dX10_isWrong_174 : decode cX10_isWrong 174 = .ok (.laload, 1) := by decide +kernel
theorem dX10_isWrong_175 : decode cX10_isWrong 175 = .ok (.aload_n 0, 1) := by decide +kernel
theorem dX10_isWrong_176 : decode cX10_isWrong 176 = .ok (.iload_n 1, 1) := by decide +kernel
theorem dX10_isWrong_177 : decode cX10_isWrong 177 = .ok (.invokevirtual 174, 3) := by decide +kernel
theorem dX10_isWrong_180 : decode cX10_isWrong 180 = .ok (.invokestatic 156, 3) := by decide +kernel
theorem dX10_isWrong_183 : decode cX10_isWrong 183 = .ok (.aload_n 0, 1) := by decide +kernel
theorem dX10_isWrong_184 : decode cX10_isWrong 184 = .ok (.getfield 76, 3) := by decide +kernel
theorem dX10_isWrong_187 : decode cX10_isWrong 187 = .ok (.iload_n 1, 1) := by decide +kernel
theorem dX10_isWrong_188 : decode cX10_isWrong 188 = .ok (.laload, 1) := by decide +kernel
theorem dX10_isWrong_189 : decode cX10_isWrong 189 = .ok (.lcmp, 1) := by decide +kernel
theorem dX10_isWrong_190 : decode cX10_isWrong 190 = .ok (.ifCond .eq 5, 3) := by decide +kernel
theorem dX10_isWrong_193 : decode cX10_isWrong 193 = .ok (.iconst 1, 1) := by decide +kernel
theorem dX10_isWrong_194 : decode cX10_isWrong 194 = .ok (.ireturn, 1) := by decide +kernel
theorem dX10_isWrong_195 : decode cX10_isWrong 195 = .ok (.aload_n 0, 1) := by decide +kernel
theorem dX10_isWrong_196 : decode cX10_isWrong 196 = .ok (.getfield 59, 3) := by decide +kernel
theorem dX10_isWrong_199 : decode cX10_isWrong 199 = .ok (.iload_n 1, 1) := by decide +kernel
theorem dX10_isWrong_200 : decode cX10_isWrong 200 = .ok (.iaload, 1) := by decide +kernel
theorem dX10_isWrong_201 : decode cX10_isWrong 201 = .ok (.iconst (-1), 1) := by decide +kernel
theorem dX10_isWrong_202 : decode cX10_isWrong 202 = .ok (.if_icmp .eq 27, 3) := by decide +kernel
theorem dX10_isWrong_205 : decode cX10_isWrong 205 = .ok (.aload_n 0, 1) := by decide +kernel
theorem dX10_isWrong_206 : decode cX10_isWrong 206 = .ok (.getfield 80, 3) := by decide +kernel
theorem dX10_isWrong_209 : decode cX10_isWrong 209 = .ok (.iload_n 1, 1) := by decide +kernel
theorem dX10_isWrong_210 : decode cX10_isWrong 210 = .ok (.laload, 1) := by decide +kernel
theorem dX10_isWrong_211 : decode cX10_isWrong 211 = .ok (.aload_n 0, 1) := by decide +kernel
theorem dX10_isWrong_212 : decode cX10_isWrong 212 = .ok (.getfield 80, 3) := by decide +kernel
theorem dX10_isWrong_215 : decode cX10_isWrong 215 = .ok (.aload_n 0, 1) := by decide +kernel
theorem dX10_isWrong_216 : decode cX10_isWrong 216 = .ok (.iload_n 1, 1) := by decide +kernel
theorem dX10_isWrong_217 : decode cX10_isWrong 217 = .ok (.invokevirtual 171, 3) := by decide +kernel
theorem dX10_isWrong_220 : decode cX10_isWrong 220 = .ok (.laload, 1) := by decide +kernel
theorem dX10_isWrong_221 : decode cX10_isWrong 221 = .ok (.lcmp, 1) := by decide +kernel
theorem dX10_isWrong_222 : decode cX10_isWrong 222 = .ok (.ifCond .eq 7, 3) := by decide +kernel
theorem dX10_isWrong_225 : decode cX10_isWrong 225 = .ok (.iconst 1, 1) := by decide +kernel
theorem dX10_isWrong_226 : decode cX10_isWrong 226 = .ok (.goto 4, 3) := by decide +kernel
theorem dX10_isWrong_229 : decode cX10_isWrong 229 = .ok (.iconst 0, 1) := by decide +kernel
theorem dX10_isWrong_230 : decode cX10_isWrong 230 = .ok (.ireturn, 1) := by decide +kernel
def VX10_isWrong_195 (g : jg) (a0 : Nat) (x1 : Int32) (h : jh) (k n : Nat) (Q : jq) : Prop := (jt h a0 = 9) ∧ (¬ (jr h 530 a0) = none) ∧ (jt h (jd (jr h 530 a0)) = 20) ∧ (vp_in (x1) (jn h (jd (jr h 530 a0)))) ∧ (((jI h (jd (jr h 530 a0)) (x1 : Int32).toNatClampNeg) = ((-1)) → Q (.inl (some (.inl (0)))) h) ∧ (¬ (jI h (jd (jr h 530 a0)) (x1 : Int32).toNatClampNeg) = ((-1)) → (¬ (jr h 540 a0) = none) ∧ (jt h (jd (jr h 540 a0)) = 22) ∧ (vp_in (x1) (jn h (jd (jr h 540 a0)))) ∧ jM g mX10_firstOf [.inr (.inr (some a0)), .inl (x1)] h 0 0 (jki (fun (r9 : Int32) (h10 : jh) => (jt h10 (jd (jr h 540 a0)) = 22) ∧ (vp_in (r9) (jn h10 (jd (jr h 540 a0)))) ∧ (((jL h (jd (jr h 540 a0)) (x1 : Int32).toNatClampNeg) = (jL h10 (jd (jr h 540 a0)) (r9 : Int32).toNatClampNeg) → Q (.inl (some (.inl (0)))) h10) ∧ (¬ (jL h (jd (jr h 540 a0)) (x1 : Int32).toNatClampNeg) = (jL h10 (jd (jr h 540 a0)) (r9 : Int32).toNatClampNeg) → Q (.inl (some (.inl (1)))) h10))) (fun e h9 => Q (.inr e) h9))))
set_option maxRecDepth 20000 in
theorem vX10_isWrong_195 {g : jg} {a0 : Nat} {x1 : Int32} {h : jh} {k n : Nat} {Q : jq} (hv : VX10_isWrong_195 g a0 x1 h k n Q) : jG g mX10_isWrong 195 [(0, .inr (.inr (some (a0)))), (1, .inl (x1))] [] h k n Q := by
  unfold VX10_isWrong_195 at hv
  refine jg_aload_n dX10_isWrong_195 rfl (List.Mem.head _) ?_
  obtain ⟨f1, hv⟩ := hv
  refine jg_getr dX10_isWrong_196 fl_RX10_59 rfl jsn f1 ?_
  refine jg_iload_n dX10_isWrong_199 rfl (List.Mem.tail _ (List.Mem.head _)) ?_
  obtain ⟨f2, hv⟩ := hv
  obtain ⟨f3, hv⟩ := hv
  obtain ⟨f4, hv⟩ := hv
  refine jg_iald dX10_isWrong_200 f2 f3 f4 ?_
  refine jg_iconst (v := (-1)) dX10_isWrong_201 (by decide) ?_
  refine jg_icmp_eq (tgt := 229) dX10_isWrong_202 (by decide) (fun c5 => ?_) (fun c5 => ?_)
  · replace hv := hv.1 c5
    refine jg_iconst (v := 0) dX10_isWrong_229 (by decide) ?_
    exact jg_bret dX10_isWrong_230 rfl (by decide) hv
  · replace hv := hv.2 c5
    refine jg_aload_n dX10_isWrong_205 rfl (List.Mem.head _) ?_
    refine jg_getr dX10_isWrong_206 fl_RX10_80 rfl jsn f1 ?_
    refine jg_iload_n dX10_isWrong_209 rfl (List.Mem.tail _ (List.Mem.head _)) ?_
    obtain ⟨f6, hv⟩ := hv
    obtain ⟨f7, hv⟩ := hv
    obtain ⟨f8, hv⟩ := hv
    refine jg_lald dX10_isWrong_210 f6 f7 f8 ?_
    refine jg_aload_n dX10_isWrong_211 rfl (List.Mem.head _) ?_
    refine jg_getr dX10_isWrong_212 fl_RX10_80 rfl jsn f1 ?_
    refine jg_aload_n dX10_isWrong_215 rfl (List.Mem.head _) ?_
    refine jg_iload_n dX10_isWrong_216 rfl (List.Mem.tail _ (List.Mem.head _)) ?_
    refine jp_callV mX10_firstOf [.inl (x1)] [.inr (.inr (jr h 540 a0)), .inr (.inl (jL h (jd (jr h 540 a0)) (x1 : Int32).toNatClampNeg))] dX10_isWrong_217 rfl cl_RX10_171 ⟨⟨by decide, by decide⟩, jcat_le _ (Nat.le_of_ble_eq_true rfl)⟩ jsn f1 (Nat.zero_le _) (Nat.zero_le _) (jM.mono (jki_k (fun r9 h10 hv => ?_)) hv)
    obtain ⟨f11, hv⟩ := hv
    obtain ⟨f12, hv⟩ := hv
    refine jg_lald dX10_isWrong_220 f6 f11 f12 ?_
    refine jg_lcmp_eq (tgt := 229) dX10_isWrong_221 dX10_isWrong_222 (by decide) (fun c13 => ?_) (fun c13 => ?_)
    · replace hv := hv.1 c13
      refine jg_iconst (v := 0) dX10_isWrong_229 (by decide) ?_
      exact jg_bret dX10_isWrong_230 rfl (by decide) hv
    · replace hv := hv.2 c13
      refine jg_iconst (v := 1) dX10_isWrong_225 (by decide) ?_
      refine jg_goto (tgt := 230) dX10_isWrong_226 (by decide) ?_
      exact jg_bret dX10_isWrong_230 rfl (by decide) hv
def VX10_isWrong_160 (g : jg) (a0 : Nat) (x1 : Int32) (h : jh) (k n : Nat) (Q : jq) : Prop := (jt h a0 = 9) ∧ (¬ (jr h 529 a0) = none) ∧ (jt h (jd (jr h 529 a0)) = 20) ∧ (vp_in (x1) (jn h (jd (jr h 529 a0)))) ∧ (((jI h (jd (jr h 529 a0)) (x1 : Int32).toNatClampNeg) ≤ 0 → VX10_isWrong_195 g (a0) (x1) h k n Q) ∧ (¬ (jI h (jd (jr h 529 a0)) (x1 : Int32).toNatClampNeg) ≤ 0 → (¬ (jr h 539 a0) = none) ∧ (jt h (jd (jr h 539 a0)) = 22) ∧ (vp_in (x1) (jn h (jd (jr h 539 a0)))) ∧ jM g mX10_alignment [.inr (.inr (some a0)), .inl (x1)] h 0 0 (jki (fun (r22 : Int32) (h23 : jh) => jM g mX10_up [.inr (.inl (jL h (jd (jr h 539 a0)) (x1 : Int32).toNatClampNeg)), .inl (r22)] h23 0 0 (jkl (fun (r24 : Int64) (h25 : jh) => (jt h25 a0 = 9) ∧ (¬ (jr h25 539 a0) = none) ∧ (jt h25 (jd (jr h25 539 a0)) = 22) ∧ (vp_in (x1) (jn h25 (jd (jr h25 539 a0)))) ∧ (((r24) = (jL h25 (jd (jr h25 539 a0)) (x1 : Int32).toNatClampNeg) → VX10_isWrong_195 g (a0) (x1) h25 k n Q) ∧ (¬ (r24) = (jL h25 (jd (jr h25 539 a0)) (x1 : Int32).toNatClampNeg) → Q (.inl (some (.inl (1)))) h25))) (fun e h9 => Q (.inr e) h9))) (fun e h9 => Q (.inr e) h9))))
set_option maxRecDepth 20000 in
theorem vX10_isWrong_160 {g : jg} {a0 : Nat} {x1 : Int32} {h : jh} {k n : Nat} {Q : jq} (hv : VX10_isWrong_160 g a0 x1 h k n Q) : jG g mX10_isWrong 160 [(0, .inr (.inr (some (a0)))), (1, .inl (x1))] [] h k n Q := by
  unfold VX10_isWrong_160 at hv
  refine jg_aload_n dX10_isWrong_160 rfl (List.Mem.head _) ?_
  obtain ⟨f14, hv⟩ := hv
  refine jg_getr dX10_isWrong_161 fl_RX10_56 rfl jsn f14 ?_
  refine jg_iload_n dX10_isWrong_164 rfl (List.Mem.tail _ (List.Mem.head _)) ?_
  obtain ⟨f15, hv⟩ := hv
  obtain ⟨f16, hv⟩ := hv
  obtain ⟨f17, hv⟩ := hv
  refine jg_iald dX10_isWrong_165 f15 f16 f17 ?_
  refine jg_if_le (tgt := 195) dX10_isWrong_166 (by decide) (fun c18 => ?_) (fun c18 => ?_)
  · replace hv := hv.1 c18
    exact vX10_isWrong_195 hv
  · replace hv := hv.2 c18
    refine jg_aload_n dX10_isWrong_169 rfl (List.Mem.head _) ?_
    refine jg_getr dX10_isWrong_170 fl_RX10_76 rfl jsn f14 ?_
    refine jg_iload_n dX10_isWrong_173 rfl (List.Mem.tail _ (List.Mem.head _)) ?_
    obtain ⟨f19, hv⟩ := hv
    obtain ⟨f20, hv⟩ := hv
    obtain ⟨f21, hv⟩ := hv
    refine jg_lald dX10_isWrong_174 f19 f20 f21 ?_
    refine jg_aload_n dX10_isWrong_175 rfl (List.Mem.head _) ?_
    refine jg_iload_n dX10_isWrong_176 rfl (List.Mem.tail _ (List.Mem.head _)) ?_
    refine jp_callV mX10_alignment [.inl (x1)] [.inr (.inl (jL h (jd (jr h 539 a0)) (x1 : Int32).toNatClampNeg))] dX10_isWrong_177 rfl cl_RX10_174 ⟨⟨by decide, by decide⟩, jcat_le _ (Nat.le_of_ble_eq_true rfl)⟩ jsn f14 (Nat.zero_le _) (Nat.zero_le _) (jM.mono (jki_k (fun r22 h23 hv => ?_)) hv)
    refine jg_callS mX10_up [.inr (.inl (jL h (jd (jr h 539 a0)) (x1 : Int32).toNatClampNeg)), .inl (r22)] [] dX10_isWrong_180 rfl cl_RX10_156 ⟨⟨by decide, by decide⟩, by decide⟩ (Nat.zero_le _) (Nat.zero_le _) (jM.mono (jkl_k (fun r24 h25 hv => ?_)) hv)
    refine jg_aload_n dX10_isWrong_183 rfl (List.Mem.head _) ?_
    obtain ⟨f26, hv⟩ := hv
    refine jg_getr dX10_isWrong_184 fl_RX10_76 rfl jsn f26 ?_
    refine jg_iload_n dX10_isWrong_187 rfl (List.Mem.tail _ (List.Mem.head _)) ?_
    obtain ⟨f27, hv⟩ := hv
    obtain ⟨f28, hv⟩ := hv
    obtain ⟨f29, hv⟩ := hv
    refine jg_lald dX10_isWrong_188 f27 f28 f29 ?_
    refine jg_lcmp_eq (tgt := 195) dX10_isWrong_189 dX10_isWrong_190 (by decide) (fun c30 => ?_) (fun c30 => ?_)
    · replace hv := hv.1 c30
      exact vX10_isWrong_195 hv
    · replace hv := hv.2 c30
      refine jg_iconst (v := 1) dX10_isWrong_193 (by decide) ?_
      exact jg_bret dX10_isWrong_194 rfl (by decide) hv
def VX10_isWrong_99 (g : jg) (a0 : Nat) (x1 : Int32) (h : jh) (k n : Nat) (Q : jq) : Prop := (jt h a0 = 9) ∧ (¬ (jr h 529 a0) = none) ∧ (jt h (jd (jr h 529 a0)) = 20) ∧ (vp_in (x1) (jn h (jd (jr h 529 a0)))) ∧ (((jI h (jd (jr h 529 a0)) (x1 : Int32).toNatClampNeg) ≤ 0 → VX10_isWrong_160 g (a0) (x1) h k n Q) ∧ (¬ (jI h (jd (jr h 529 a0)) (x1 : Int32).toNatClampNeg) ≤ 0 → (¬ (jr h 514 a0) = none) ∧ (jt h (jd (jr h 514 a0)) = 20) ∧ (vp_in (x1) (jn h (jd (jr h 514 a0)))) ∧ (((jI h (jd (jr h 514 a0)) (x1 : Int32).toNatClampNeg) = (1) → VX10_isWrong_160 g (a0) (x1) h k n Q) ∧ (¬ (jI h (jd (jr h 514 a0)) (x1 : Int32).toNatClampNeg) = (1) → (¬ (jr h 542 a0) = none) ∧ (jt h (jd (jr h 542 a0)) = 22) ∧ (vp_in (x1) (jn h (jd (jr h 542 a0)))) ∧ (¬ (jr h 539 a0) = none) ∧ (jt h (jd (jr h 539 a0)) = 22) ∧ (vp_in (x1) (jn h (jd (jr h 539 a0)))) ∧ (vp_in (jI h (jd (jr h 529 a0)) (x1 : Int32).toNatClampNeg) (jn h (jd (jr h 542 a0)))) ∧ (vp_in (jI h (jd (jr h 529 a0)) (x1 : Int32).toNatClampNeg) (jn h (jd (jr h 539 a0)))) ∧ ((((jL h (jd (jr h 542 a0)) (x1 : Int32).toNatClampNeg) - (jL h (jd (jr h 539 a0)) (x1 : Int32).toNatClampNeg)) ≤ ((jL h (jd (jr h 542 a0)) (jI h (jd (jr h 529 a0)) (x1 : Int32).toNatClampNeg : Int32).toNatClampNeg) - (jL h (jd (jr h 539 a0)) (jI h (jd (jr h 529 a0)) (x1 : Int32).toNatClampNeg : Int32).toNatClampNeg)) → VX10_isWrong_160 g (a0) (x1) h k n Q) ∧ (¬ ((jL h (jd (jr h 542 a0)) (x1 : Int32).toNatClampNeg) - (jL h (jd (jr h 539 a0)) (x1 : Int32).toNatClampNeg)) ≤ ((jL h (jd (jr h 542 a0)) (jI h (jd (jr h 529 a0)) (x1 : Int32).toNatClampNeg : Int32).toNatClampNeg) - (jL h (jd (jr h 539 a0)) (jI h (jd (jr h 529 a0)) (x1 : Int32).toNatClampNeg : Int32).toNatClampNeg)) → Q (.inl (some (.inl (1)))) h))))))
set_option maxRecDepth 20000 in
theorem vX10_isWrong_99 {g : jg} {a0 : Nat} {x1 : Int32} {h : jh} {k n : Nat} {Q : jq} (hv : VX10_isWrong_99 g a0 x1 h k n Q) : jG g mX10_isWrong 99 [(0, .inr (.inr (some (a0)))), (1, .inl (x1))] [] h k n Q := by
  unfold VX10_isWrong_99 at hv
  refine jg_aload_n dX10_isWrong_99 rfl (List.Mem.head _) ?_
  obtain ⟨f31, hv⟩ := hv
  refine jg_getr dX10_isWrong_100 fl_RX10_56 rfl jsn f31 ?_
  refine jg_iload_n dX10_isWrong_103 rfl (List.Mem.tail _ (List.Mem.head _)) ?_
  obtain ⟨f32, hv⟩ := hv
  obtain ⟨f33, hv⟩ := hv
  obtain ⟨f34, hv⟩ := hv
  refine jg_iald dX10_isWrong_104 f32 f33 f34 ?_
  refine jg_if_le (tgt := 160) dX10_isWrong_105 (by decide) (fun c35 => ?_) (fun c35 => ?_)
  · replace hv := hv.1 c35
    exact vX10_isWrong_160 hv
  · replace hv := hv.2 c35
    refine jg_aload_n dX10_isWrong_108 rfl (List.Mem.head _) ?_
    refine jg_getr dX10_isWrong_109 fl_RX10_7 rfl jsn f31 ?_
    refine jg_iload_n dX10_isWrong_112 rfl (List.Mem.tail _ (List.Mem.head _)) ?_
    obtain ⟨f36, hv⟩ := hv
    obtain ⟨f37, hv⟩ := hv
    obtain ⟨f38, hv⟩ := hv
    refine jg_iald dX10_isWrong_113 f36 f37 f38 ?_
    refine jg_iconst (v := 1) dX10_isWrong_114 (by decide) ?_
    refine jg_icmp_eq (tgt := 160) dX10_isWrong_115 (by decide) (fun c39 => ?_) (fun c39 => ?_)
    · replace hv := hv.1 c39
      exact vX10_isWrong_160 hv
    · replace hv := hv.2 c39
      refine jg_aload_n dX10_isWrong_118 rfl (List.Mem.head _) ?_
      refine jg_getr dX10_isWrong_119 fl_RX10_86 rfl jsn f31 ?_
      refine jg_iload_n dX10_isWrong_122 rfl (List.Mem.tail _ (List.Mem.head _)) ?_
      obtain ⟨f40, hv⟩ := hv
      obtain ⟨f41, hv⟩ := hv
      obtain ⟨f42, hv⟩ := hv
      refine jg_lald dX10_isWrong_123 f40 f41 f42 ?_
      refine jg_aload_n dX10_isWrong_124 rfl (List.Mem.head _) ?_
      refine jg_getr dX10_isWrong_125 fl_RX10_76 rfl jsn f31 ?_
      refine jg_iload_n dX10_isWrong_128 rfl (List.Mem.tail _ (List.Mem.head _)) ?_
      obtain ⟨f43, hv⟩ := hv
      obtain ⟨f44, hv⟩ := hv
      obtain ⟨f45, hv⟩ := hv
      refine jg_lald dX10_isWrong_129 f43 f44 f45 ?_
      refine jg_lsub dX10_isWrong_130 ?_
      refine jg_aload_n dX10_isWrong_131 rfl (List.Mem.head _) ?_
      refine jg_getr dX10_isWrong_132 fl_RX10_86 rfl jsn f31 ?_
      refine jg_aload_n dX10_isWrong_135 rfl (List.Mem.head _) ?_
      refine jg_getr dX10_isWrong_136 fl_RX10_56 rfl jsn f31 ?_
      refine jg_iload_n dX10_isWrong_139 rfl (List.Mem.tail _ (List.Mem.head _)) ?_
      refine jg_iald dX10_isWrong_140 f32 f33 f34 ?_
      obtain ⟨f46, hv⟩ := hv
      refine jg_lald dX10_isWrong_141 f40 f41 f46 ?_
      refine jg_aload_n dX10_isWrong_142 rfl (List.Mem.head _) ?_
      refine jg_getr dX10_isWrong_143 fl_RX10_76 rfl jsn f31 ?_
      refine jg_aload_n dX10_isWrong_146 rfl (List.Mem.head _) ?_
      refine jg_getr dX10_isWrong_147 fl_RX10_56 rfl jsn f31 ?_
      refine jg_iload_n dX10_isWrong_150 rfl (List.Mem.tail _ (List.Mem.head _)) ?_
      refine jg_iald dX10_isWrong_151 f32 f33 f34 ?_
      obtain ⟨f47, hv⟩ := hv
      refine jg_lald dX10_isWrong_152 f43 f44 f47 ?_
      refine jg_lsub dX10_isWrong_153 ?_
      refine jg_lcmp_le (tgt := 160) dX10_isWrong_154 dX10_isWrong_155 (by decide) (fun c48 => ?_) (fun c48 => ?_)
      · replace hv := hv.1 c48
        exact vX10_isWrong_160 hv
      · replace hv := hv.2 c48
        refine jg_iconst (v := 1) dX10_isWrong_158 (by decide) ?_
        exact jg_bret dX10_isWrong_159 rfl (by decide) hv
def VX10_isWrong_79 (g : jg) (a0 : Nat) (x1 : Int32) (h : jh) (k n : Nat) (Q : jq) : Prop := (jt h a0 = 9) ∧ (¬ (jr h 519 a0) = none) ∧ (jt h (jd (jr h 519 a0)) = 20) ∧ (vp_in (x1) (jn h (jd (jr h 519 a0)))) ∧ ((¬ (jI h (jd (jr h 519 a0)) (x1 : Int32).toNatClampNeg) = (2) → VX10_isWrong_99 g (a0) (x1) h k n Q) ∧ ((jI h (jd (jr h 519 a0)) (x1 : Int32).toNatClampNeg) = (2) → jM g mX10_isLast [.inr (.inr (some a0)), .inl (x1)] h 0 0 (jki (fun (r54 : Int32) (h55 : jh) => ((¬ (r54) = 0 → VX10_isWrong_99 g (a0) (x1) h55 k n Q) ∧ ((r54) = 0 → Q (.inl (some (.inl (1)))) h55))) (fun e h9 => Q (.inr e) h9))))
set_option maxRecDepth 20000 in
theorem vX10_isWrong_79 {g : jg} {a0 : Nat} {x1 : Int32} {h : jh} {k n : Nat} {Q : jq} (hv : VX10_isWrong_79 g a0 x1 h k n Q) : jG g mX10_isWrong 79 [(0, .inr (.inr (some (a0)))), (1, .inl (x1))] [] h k n Q := by
  unfold VX10_isWrong_79 at hv
  refine jg_aload_n dX10_isWrong_79 rfl (List.Mem.head _) ?_
  obtain ⟨f49, hv⟩ := hv
  refine jg_getr dX10_isWrong_80 fl_RX10_25 rfl jsn f49 ?_
  refine jg_iload_n dX10_isWrong_83 rfl (List.Mem.tail _ (List.Mem.head _)) ?_
  obtain ⟨f50, hv⟩ := hv
  obtain ⟨f51, hv⟩ := hv
  obtain ⟨f52, hv⟩ := hv
  refine jg_iald dX10_isWrong_84 f50 f51 f52 ?_
  refine jg_iconst (v := 2) dX10_isWrong_85 (by decide) ?_
  refine jg_icmp_ne (tgt := 99) dX10_isWrong_86 (by decide) (fun c53 => ?_) (fun c53 => ?_)
  · replace hv := hv.1 c53
    exact vX10_isWrong_99 hv
  · replace hv := hv.2 c53
    refine jg_aload_n dX10_isWrong_89 rfl (List.Mem.head _) ?_
    refine jg_iload_n dX10_isWrong_90 rfl (List.Mem.tail _ (List.Mem.head _)) ?_
    refine jp_callV mX10_isLast [.inl (x1)] [] dX10_isWrong_91 rfl cl_RX10_183 ⟨⟨by decide, by decide⟩, by decide⟩ jsn f49 (Nat.zero_le _) (Nat.zero_le _) (jM.mono (jki_k (fun r54 h55 hv => ?_)) hv)
    refine jg_if_ne (tgt := 99) dX10_isWrong_94 (by decide) (fun c56 => ?_) (fun c56 => ?_)
    · replace hv := hv.1 c56
      exact vX10_isWrong_99 hv
    · replace hv := hv.2 c56
      refine jg_iconst (v := 1) dX10_isWrong_97 (by decide) ?_
      exact jg_bret dX10_isWrong_98 rfl (by decide) hv
def VX10_isWrong_0 (g : jg) (a0 : Nat) (x1 : Int32) (h : jh) (k n : Nat) (Q : jq) : Prop := (jt h a0 = 9) ∧ (¬ (jr h 514 a0) = none) ∧ (jt h (jd (jr h 514 a0)) = 20) ∧ (vp_in (x1) (jn h (jd (jr h 514 a0)))) ∧ ((¬ (jI h (jd (jr h 514 a0)) (x1 : Int32).toNatClampNeg) = (88) → ((¬ (jI h (jd (jr h 514 a0)) (x1 : Int32).toNatClampNeg) = (66) → (¬ (jr h 515 a0) = none) ∧ (jt h (jd (jr h 515 a0)) = 20) ∧ (vp_in (x1) (jn h (jd (jr h 515 a0)))) ∧ ((¬ (jI h (jd (jr h 515 a0)) (x1 : Int32).toNatClampNeg) = 0 → VX10_isWrong_79 g (a0) (x1) h k n Q) ∧ ((jI h (jd (jr h 515 a0)) (x1 : Int32).toNatClampNeg) = 0 → jM g mX10_hasBelow [.inr (.inr (some a0)), .inl (x1)] h 0 0 (jki (fun (r67 : Int32) (h68 : jh) => ((¬ (r67) = 0 → VX10_isWrong_79 g (a0) (x1) h68 k n Q) ∧ ((r67) = 0 → Q (.inl (some (.inl (1)))) h68))) (fun e h9 => Q (.inr e) h9))))) ∧ ((jI h (jd (jr h 514 a0)) (x1 : Int32).toNatClampNeg) = (66) → (¬ (jr h 527 a0) = none) ∧ (jt h (jd (jr h 527 a0)) = 20) ∧ (vp_in (x1) (jn h (jd (jr h 527 a0)))) ∧ (((jI h (jd (jr h 527 a0)) (x1 : Int32).toNatClampNeg) = 0 → Q (.inl (some (.inl (1)))) h) ∧ (¬ (jI h (jd (jr h 527 a0)) (x1 : Int32).toNatClampNeg) = 0 → jM g mX10_isBadPart [.inr (.inr (some a0)), .inl (x1)] h 0 0 (jki (fun (r74 : Int32) (h75 : jh) => (((r74) = 0 → Q (.inl (some (.inl (0)))) h75) ∧ (¬ (r74) = 0 → Q (.inl (some (.inl (1)))) h75))) (fun e h9 => Q (.inr e) h9))))))) ∧ ((jI h (jd (jr h 514 a0)) (x1 : Int32).toNatClampNeg) = (88) → (¬ (jr h 526 a0) = none) ∧ (jt h (jd (jr h 526 a0)) = 20) ∧ (vp_in (x1) (jn h (jd (jr h 526 a0)))) ∧ ((¬ (jI h (jd (jr h 526 a0)) (x1 : Int32).toNatClampNeg) = 0 → Q (.inl (some (.inl (0)))) h) ∧ ((jI h (jd (jr h 526 a0)) (x1 : Int32).toNatClampNeg) = 0 → Q (.inl (some (.inl (1)))) h))))
set_option maxRecDepth 20000 in
theorem vX10_isWrong_0 {g : jg} {a0 : Nat} {x1 : Int32} {h : jh} {k n : Nat} {Q : jq} (hv : VX10_isWrong_0 g a0 x1 h k n Q) : jG g mX10_isWrong 0 [(0, .inr (.inr (some (a0)))), (1, .inl (x1))] [] h k n Q := by
  unfold VX10_isWrong_0 at hv
  refine jg_aload_n dX10_isWrong_0 rfl (List.Mem.head _) ?_
  obtain ⟨f57, hv⟩ := hv
  refine jg_getr dX10_isWrong_1 fl_RX10_7 rfl jsn f57 ?_
  refine jg_iload_n dX10_isWrong_4 rfl (List.Mem.tail _ (List.Mem.head _)) ?_
  obtain ⟨f58, hv⟩ := hv
  obtain ⟨f59, hv⟩ := hv
  obtain ⟨f60, hv⟩ := hv
  refine jg_iald dX10_isWrong_5 f58 f59 f60 ?_
  refine jg_bipush (v := 88) dX10_isWrong_6 (by decide) ?_
  refine jg_icmp_ne (tgt := 26) dX10_isWrong_8 (by decide) (fun c61 => ?_) (fun c61 => ?_)
  · replace hv := hv.1 c61
    refine jg_aload_n dX10_isWrong_26 rfl (List.Mem.head _) ?_
    refine jg_getr dX10_isWrong_27 fl_RX10_7 rfl jsn f57 ?_
    refine jg_iload_n dX10_isWrong_30 rfl (List.Mem.tail _ (List.Mem.head _)) ?_
    refine jg_iald dX10_isWrong_31 f58 f59 f60 ?_
    refine jg_bipush (v := 66) dX10_isWrong_32 (by decide) ?_
    refine jg_icmp_ne (tgt := 60) dX10_isWrong_34 (by decide) (fun c62 => ?_) (fun c62 => ?_)
    · replace hv := hv.1 c62
      refine jg_aload_n dX10_isWrong_60 rfl (List.Mem.head _) ?_
      refine jg_getr dX10_isWrong_61 fl_RX10_13 rfl jsn f57 ?_
      refine jg_iload_n dX10_isWrong_64 rfl (List.Mem.tail _ (List.Mem.head _)) ?_
      obtain ⟨f63, hv⟩ := hv
      obtain ⟨f64, hv⟩ := hv
      obtain ⟨f65, hv⟩ := hv
      refine jg_iald dX10_isWrong_65 f63 f64 f65 ?_
      refine jg_if_ne (tgt := 79) dX10_isWrong_66 (by decide) (fun c66 => ?_) (fun c66 => ?_)
      · replace hv := hv.1 c66
        exact vX10_isWrong_79 hv
      · replace hv := hv.2 c66
        refine jg_aload_n dX10_isWrong_69 rfl (List.Mem.head _) ?_
        refine jg_iload_n dX10_isWrong_70 rfl (List.Mem.tail _ (List.Mem.head _)) ?_
        refine jp_callV mX10_hasBelow [.inl (x1)] [] dX10_isWrong_71 rfl cl_RX10_180 ⟨⟨by decide, by decide⟩, by decide⟩ jsn f57 (Nat.zero_le _) (Nat.zero_le _) (jM.mono (jki_k (fun r67 h68 hv => ?_)) hv)
        refine jg_if_ne (tgt := 79) dX10_isWrong_74 (by decide) (fun c69 => ?_) (fun c69 => ?_)
        · replace hv := hv.1 c69
          exact vX10_isWrong_79 hv
        · replace hv := hv.2 c69
          refine jg_iconst (v := 1) dX10_isWrong_77 (by decide) ?_
          exact jg_bret dX10_isWrong_78 rfl (by decide) hv
    · replace hv := hv.2 c62
      refine jg_aload_n dX10_isWrong_37 rfl (List.Mem.head _) ?_
      refine jg_getr dX10_isWrong_38 fl_RX10_50 rfl jsn f57 ?_
      refine jg_iload_n dX10_isWrong_41 rfl (List.Mem.tail _ (List.Mem.head _)) ?_
      obtain ⟨f70, hv⟩ := hv
      obtain ⟨f71, hv⟩ := hv
      obtain ⟨f72, hv⟩ := hv
      refine jg_iald dX10_isWrong_42 f70 f71 f72 ?_
      refine jg_if_eq (tgt := 54) dX10_isWrong_43 (by decide) (fun c73 => ?_) (fun c73 => ?_)
      · replace hv := hv.1 c73
        refine jg_iconst (v := 1) dX10_isWrong_54 (by decide) ?_
        refine jg_goto (tgt := 59) dX10_isWrong_55 (by decide) ?_
        exact jg_bret dX10_isWrong_59 rfl (by decide) hv
      · replace hv := hv.2 c73
        refine jg_aload_n dX10_isWrong_46 rfl (List.Mem.head _) ?_
        refine jg_iload_n dX10_isWrong_47 rfl (List.Mem.tail _ (List.Mem.head _)) ?_
        refine jp_callV mX10_isBadPart [.inl (x1)] [] dX10_isWrong_48 rfl cl_RX10_177 ⟨⟨by decide, by decide⟩, by decide⟩ jsn f57 (Nat.zero_le _) (Nat.zero_le _) (jM.mono (jki_k (fun r74 h75 hv => ?_)) hv)
        refine jg_if_eq (tgt := 58) dX10_isWrong_51 (by decide) (fun c76 => ?_) (fun c76 => ?_)
        · replace hv := hv.1 c76
          refine jg_iconst (v := 0) dX10_isWrong_58 (by decide) ?_
          exact jg_bret dX10_isWrong_59 rfl (by decide) hv
        · replace hv := hv.2 c76
          refine jg_iconst (v := 1) dX10_isWrong_54 (by decide) ?_
          refine jg_goto (tgt := 59) dX10_isWrong_55 (by decide) ?_
          exact jg_bret dX10_isWrong_59 rfl (by decide) hv
  · replace hv := hv.2 c61
    refine jg_aload_n dX10_isWrong_11 rfl (List.Mem.head _) ?_
    refine jg_getr dX10_isWrong_12 fl_RX10_47 rfl jsn f57 ?_
    refine jg_iload_n dX10_isWrong_15 rfl (List.Mem.tail _ (List.Mem.head _)) ?_
    obtain ⟨f77, hv⟩ := hv
    obtain ⟨f78, hv⟩ := hv
    obtain ⟨f79, hv⟩ := hv
    refine jg_iald dX10_isWrong_16 f77 f78 f79 ?_
    refine jg_if_ne (tgt := 24) dX10_isWrong_17 (by decide) (fun c80 => ?_) (fun c80 => ?_)
    · replace hv := hv.1 c80
      refine jg_iconst (v := 0) dX10_isWrong_24 (by decide) ?_
      exact jg_bret dX10_isWrong_25 rfl (by decide) hv
    · replace hv := hv.2 c80
      refine jg_iconst (v := 1) dX10_isWrong_20 (by decide) ?_
      refine jg_goto (tgt := 25) dX10_isWrong_21 (by decide) ?_
      exact jg_bret dX10_isWrong_25 rfl (by decide) hv
theorem eX10_isWrong {g : jg} {a0 : Nat} {x1 : Int32} {h : jh} {mc ms : Nat} {Q : jq} (hv : VX10_isWrong_0 g a0 x1 h mc ms Q) : jM g mX10_isWrong [.inr (.inr (some (a0))), .inl (x1)] h mc ms Q := jM.of (by decide) (Nat.le_of_ble_eq_true rfl) (lv := [(0, .inr (.inr (some (a0)))), (1, .inl (x1))]) rfl (vX10_isWrong_0 hv)
theorem dX10_lay_0 : decode cX10_lay 0 = .ok (.aload_n 0, 1) := by decide +kernel
theorem dX10_lay_1 : decode cX10_lay 1 = .ok (.iconst 0, 1) := by decide +kernel
theorem dX10_lay_2 : decode cX10_lay 2 = .ok (.putfield 98, 3) := by decide +kernel
theorem dX10_lay_5 : decode cX10_lay 5 = .ok (.aload_n 0, 1) := by decide +kernel
theorem dX10_lay_6 : decode cX10_lay 6 = .ok (.invokevirtual 186, 3) := by decide +kernel
theorem dX10_lay_9 : decode cX10_lay 9 = .ok (.iconst 1, 1) := by decide +kernel
theorem dX10_lay_10 : decode cX10_lay 10 = .ok (.istore_n 1, 1) := by decide +kernel
theorem dX10_lay_11 : decode cX10_lay 11 = .ok (.iload_n 1, 1) := by decide +kernel
theorem dX10_lay_12 : decode cX10_lay 12 = .ok (.aload_n 0, 1) := by decide +kernel
theorem dX10_lay_13 : decode cX10_lay 13 = .ok (.getfield 102, 3) := by decide +kernel
theorem dX10_lay_16 : decode cX10_lay 16 = .ok (.if_icmp .gt 22, 3) := by decide +kernel
theorem dX10_lay_19 : decode cX10_lay 19 = .ok (.aload_n 0, 1) := by decide +kernel
theorem dX10_lay_20 : decode cX10_lay 20 = .ok (.iload_n 1, 1) := by decide +kernel
theorem dX10_lay_21 : decode cX10_lay 21 = .ok (.invokevirtual 189, 3) := by decide +kernel
theorem dX10_lay_24 : decode cX10_lay 24 = .ok (.ifCond .eq 8, 3) := by decide +kernel
theorem dX10_lay_27 : decode cX10_lay 27 = .ok (.bipush (-10), 2) := by decide +kernel
theorem dX10_lay_29 : decode cX10_lay 29 = .ok (.iload_n 1, 1) := by decide +kernel
theorem dX10_lay_30 : decode cX10_lay 30 = .ok (.isub, 1) := by decide +kernel
theorem dX10_lay_31 : decode cX10_lay 31 = .ok (.ireturn, 1) := by decide +kernel
theorem dX10_lay_32 : decode cX10_lay 32 = .ok (.iinc 1 1, 3) := by decide +kernel
theorem dX10_lay_35 : decode cX10_lay 35 = .ok (.goto (-24), 3) := by decide +kernel
theorem dX10_lay_38 : decode cX10_lay 38 = .ok (.aload_n 0, 1) := by decide +kernel
theorem dX10_lay_39 : decode cX10_lay 39 = .ok (.getfield 76, 3) := by decide +kernel
theorem dX10_lay_42 : decode cX10_lay 42 = .ok (.iconst 0, 1) := by decide +kernel
theorem dX10_lay_43 : decode cX10_lay 43 = .ok (.laload, 1) := by decide +kernel
theorem dX10_lay_44 : decode cX10_lay 44 = .ok (.ldc2_w 192, 3) := by decide +kernel
theorem dX10_lay_47 : decode cX10_lay 47 = .ok (.lcmp, 1) := by decide +kernel
theorem dX10_lay_48 : decode cX10_lay 48 = .ok (.ifCond .le 6, 3) := by decide +kernel
theorem dX10_lay_51 : decode cX10_lay 51 = .ok (.bipush (-9), 2) := by decide +kernel
theorem dX10_lay_53 : decode cX10_lay 53 = .ok (.ireturn, 1) := by decide +kernel
theorem dX10_lay_54 : decode cX10_lay 54 = .ok (.aload_n 0, 1) := by decide +kernel
theorem dX10_lay_55 : decode cX10_lay 55 = .ok (.iconst 1, 1) := by decide +kernel
theorem dX10_lay_56 : decode cX10_lay 56 = .ok (.putfield 121, 3) := by decide +kernel
theorem dX10_lay_59 : decode cX10_lay 59 = .ok (.aload_n 0, 1) := by decide +kernel
theorem dX10_lay_60 : decode cX10_lay 60 = .ok (.aload_n 0, 1) := by decide +kernel
theorem dX10_lay_61 : decode cX10_lay 61 = .ok (.getfield 76, 3) := by decide +kernel
theorem dX10_lay_64 : decode cX10_lay 64 = .ok (.iconst 0, 1) := by decide +kernel
theorem dX10_lay_65 : decode cX10_lay 65 = .ok (.laload, 1) := by decide +kernel
theorem dX10_lay_66 : decode cX10_lay 66 = .ok (.l2i, 1) := by decide +kernel
theorem dX10_lay_67 : decode cX10_lay 67 = .ok (.putfield 194, 3) := by decide +kernel
theorem dX10_lay_70 : decode cX10_lay 70 = .ok (.aload_n 0, 1) := by decide +kernel
theorem dX10_lay_71 : decode cX10_lay 71 = .ok (.iconst 0, 1) := by decide +kernel
theorem dX10_lay_72 : decode cX10_lay 72 = .ok (.putfield 197, 3) := by decide +kernel
theorem dX10_lay_75 : decode cX10_lay 75 = .ok (.iconst 0, 1) := by decide +kernel
theorem dX10_lay_76 : decode cX10_lay 76 = .ok (.istore_n 1, 1) := by decide +kernel
theorem dX10_lay_77 : decode cX10_lay 77 = .ok (.iload_n 1, 1) := by decide +kernel
theorem dX10_lay_78 : decode cX10_lay 78 = .ok (.sipush 20000, 3) := by decide +kernel
theorem dX10_lay_81 : decode cX10_lay 81 = .ok (.if_icmp .ge 16, 3) := by decide +kernel
theorem dX10_lay_84 : decode cX10_lay 84 = .ok (.aload_n 0, 1) := by decide +kernel
theorem dX10_lay_85 : decode cX10_lay 85 = .ok (.getfield 72, 3) := by decide +kernel
theorem dX10_lay_88 : decode cX10_lay 88 = .ok (.iload_n 1, 1) := by decide +kernel
theorem dX10_lay_89 : decode cX10_lay 89 = .ok (.iconst 0, 1) := by decide +kernel
theorem dX10_lay_90 : decode cX10_lay 90 = .ok (.bastore, 1) := by decide +kernel
theorem dX10_lay_91 : decode cX10_lay 91 = .ok (.iinc 1 1, 3) := by decide +kernel
theorem dX10_lay_94 : decode cX10_lay 94 = .ok (.goto (-17), 3) := by decide +kernel
theorem dX10_lay_97 : decode cX10_lay 97 = .ok (.iconst 1, 1) := by decide +kernel
theorem dX10_lay_98 : decode cX10_lay 98 = .ok (.istore_n 1, 1) := by decide +kernel
theorem dX10_lay_99 : decode cX10_lay 99 = .ok (.iload_n 1, 1) := by decide +kernel
theorem dX10_lay_100 : decode cX10_lay 100 = .ok (.aload_n 0, 1) := by decide +kernel
theorem dX10_lay_101 : decode cX10_lay 101 = .ok (.getfield 102, 3) := by decide +kernel
theorem dX10_lay_104 : decode cX10_lay 104 = .ok (.if_icmp .gt 102, 3) := by decide +kernel
theorem dX10_lay_107 : decode cX10_lay 107 = .ok (.aload_n 0, 1) := by decide +kernel
theorem dX10_lay_108 : decode cX10_lay 108 = .ok (.iload_n 1, 1) := by decide +kernel
theorem dX10_lay_109 : decode cX10_lay 109 = .ok (.invokevirtual 105, 3) := by decide +kernel
theorem dX10_lay_112 : decode cX10_lay 112 = .ok (.ifCond .ne 6, 3) := by decide +kernel
theorem dX10_lay_115 : decode cX10_lay 115 = .ok (.goto 85, 3) := by decide +kernel
theorem dX10_lay_118 : decode cX10_lay 118 = .ok (.aload_n 0, 1) := by decide +kernel
theorem dX10_lay_119 : decode cX10_lay 119 = .ok (.dup, 1) := by decide +kernel
theorem dX10_lay_120 : decode cX10_lay 120 = .ok (.getfield 197, 3) := by decide +kernel
theorem dX10_lay_123 : decode cX10_lay 123 = .ok (.aload_n 0, 1) := by decide +kernel
theorem dX10_lay_124 : decode cX10_lay 124 = .ok (.getfield 89, 3) := by decide +kernel
theorem dX10_lay_127 : decode cX10_lay 127 = .ok (.iload_n 1, 1) := by decide +kernel
theorem dX10_lay_128 : decode cX10_lay 128 = .ok (.laload, 1) := by decide +kernel
theorem dX10_lay_129 : decode cX10_lay 129 = .ok (.l2i, 1) := by decide +kernel
theorem dX10_lay_130 : decode cX10_lay 130 = .ok (.iadd, 1) := by decide +kernel
theorem dX10_lay_131 : decode cX10_lay 131 = .ok (.putfield 197, 3) := by decide +kernel
theorem dX10_lay_134 : decode cX10_lay 134 = .ok (.aload_n 0, 1) := by decide +kernel
theorem dX10_lay_135 : decode cX10_lay 135 = .ok (.iload_n 1, 1) := by decide +kernel
theorem dX10_lay_136 : decode cX10_lay 136 = .ok (.invokevirtual 150, 3) := by decide +kernel
theorem dX10_lay_139 : decode cX10_lay 139 = .ok (.ifCond .ne 41, 3) := by decide +kernel
theorem dX10_lay_142 : decode cX10_lay 142 = .ok (.aload_n 0, 1) := by decide +kernel
theorem dX10_lay_143 : decode cX10_lay 143 = .ok (.getfield 59, 3) := by decide +kernel
theorem dX10_lay_146 : decode cX10_lay 146 = .ok (.aload_n 0, 1) := by decide +kernel
theorem dX10_lay_147 : decode cX10_lay 147 = .ok (.getfield 22, 3) := by decide +kernel
theorem dX10_lay_150 : decode cX10_lay 150 = .ok (.iload_n 1, 1) := by decide +kernel
theorem dX10_lay_151 : decode cX10_lay 151 = .ok (.iaload, 1) := by decide +kernel
theorem dX10_lay_152 : decode cX10_lay 152 = .ok (.iaload, 1) := by decide +kernel
theorem dX10_lay_153 : decode cX10_lay 153 = .ok (.iconst (-1), 1) := by decide +kernel
theorem dX10_lay_154 : decode cX10_lay 154 = .ok (.if_icmp .eq 22, 3) := by decide +kernel
theorem dX10_lay_157 : decode cX10_lay 157 = .ok (.aload_n 0, 1) := by decide +kernel
theorem dX10_lay_158 : decode cX10_lay 158 = .ok (.aload_n 0, 1) := by decide +kernel
theorem dX10_lay_159 : decode cX10_lay 159 = .ok (.getfield 22, 3) := by decide +kernel
theorem dX10_lay_162 : decode cX10_lay 162 = .ok (.iload_n 1, 1) := by decide +kernel
theorem dX10_lay_163 : decode cX10_lay 163 = .ok (.iaload, 1) := by decide +kernel
theorem dX10_lay_164 : decode cX10_lay 164 = .ok (.invokevirtual 171, 3) := by decide +kernel
theorem dX10_lay_167 : decode cX10_lay 167 = .ok (.aload_n 0, 1) := by decide +kernel
theorem dX10_lay_168 : decode cX10_lay 168 = .ok (.getfield 22, 3) := by decide +kernel
theorem dX10_lay_171 : decode cX10_lay 171 = .ok (.iload_n 1, 1) := by decide +kernel
theorem dX10_lay_172 : decode cX10_lay 172 = .ok (.iaload, 1) := by decide +kernel
theorem dX10_lay_173 : decode cX10_lay 173 = .ok (.if_icmp .ne 7, 3) := by decide +kernel
theorem dX10_lay_176 : decode cX10_lay 176 = .ok (.iconst 1, 1) := by decide +kernel
theorem dX10_lay_177 : decode cX10_lay 177 = .ok (.goto 4, 3) := by decide +kernel
theorem dX10_lay_180 : decode cX10_lay 180 = .ok (.iconst 0, 1) := by decide +kernel
theorem dX10_lay_181 : decode cX10_lay 181 = .ok (.istore_n 2, 1) := by decide +kernel
theorem dX10_lay_182 : decode cX10_lay 182 = .ok (.iload_n 2, 1) := by decide +kernel
theorem dX10_lay_183 : decode cX10_lay 183 = .ok (.ifCond .eq 17, 3) := by decide +kernel
theorem dX10_lay_186 : decode cX10_lay 186 = .ok (.aload_n 0, 1) := by decide +kernel
theorem dX10_lay_187 : decode cX10_lay 187 = .ok (.getfield 13, 3) := by decide +kernel
theorem dX10_lay_190 : decode cX10_lay 190 = .ok (.iload_n 1, 1) := by decide +kernel
theorem dX10_lay_191 : decode cX10_lay 191 = .ok (.iaload, 1) := by decide +kernel
theorem dX10_lay_192 : decode cX10_lay 192 = .ok (.ifCond .le 8, 3) := by decide +kernel
theorem dX10_lay_195 : decode cX10_lay 195 = .ok (.aload_n 0, 1) := by decide +kernel
theorem dX10_lay_196 : decode cX10_lay 196 = .ok (.iload_n 1, 1) := by decide +kernel
theorem dX10_lay_197 : decode cX10_lay 197 = .ok (.invokevirtual 200, 3) := by decide +kernel
theorem dX10_lay_200 : decode cX10_lay 200 = .ok (.iinc 1 1, 3) := by decide +kernel
theorem dX10_lay_203 : decode cX10_lay 203 = .ok (.goto (-104), 3) := by decide +kernel
theorem dX10_lay_206 : decode cX10_lay 206 = .ok (.aload_n 0, 1) := by decide +kernel
theorem dX10_lay_207 : decode cX10_lay 207 = .ok (.getfield 194, 3) := by decide +kernel
theorem dX10_lay_210 : decode cX10_lay 210 = .ok (.ireturn, 1) := by decide +kernel
def VX10_lay_181 (g : jg) (a0 : Nat) (x1 : Int32) (s0 : Int32) (h : jh) (k n : Nat) (Q : jq) : Prop := (((s0) = 0 → jG g mX10_lay 99 [(0, .inr (.inr (some (a0)))), (1, .inl ((x1) + 1))] [] h k n Q) ∧ (¬ (s0) = 0 → (jt h a0 = 9) ∧ (¬ (jr h 515 a0) = none) ∧ (jt h (jd (jr h 515 a0)) = 20) ∧ (vp_in (x1) (jn h (jd (jr h 515 a0)))) ∧ (((jI h (jd (jr h 515 a0)) (x1 : Int32).toNatClampNeg) ≤ 0 → jG g mX10_lay 99 [(0, .inr (.inr (some (a0)))), (1, .inl ((x1) + 1))] [] h k n Q) ∧ (¬ (jI h (jd (jr h 515 a0)) (x1 : Int32).toNatClampNeg) ≤ 0 → jM g mX10_fillAll [.inr (.inr (some a0)), .inl (x1)] h 0 0 (jkv (fun (h8 : jh) => jG g mX10_lay 99 [(0, .inr (.inr (some (a0)))), (1, .inl ((x1) + 1))] [] h8 k n Q) (fun e h9 => Q (.inr e) h9))))))
set_option maxRecDepth 20000 in
theorem vX10_lay_181 {g : jg} {a0 : Nat} {x1 : Int32} {s0 : Int32} {h : jh} {k n : Nat} {Q : jq} (hv : VX10_lay_181 g a0 x1 s0 h k n Q) : jG g mX10_lay 181 [(0, .inr (.inr (some (a0)))), (1, .inl (x1))] [.inl (s0)] h k n Q := by
  unfold VX10_lay_181 at hv
  refine jg_istore_n (lv' := [(2, .inl (s0)), (0, .inr (.inr (some (a0)))), (1, .inl (x1))]) dX10_lay_181 rfl (by decide) rfl ?_
  refine jg_iload_n dX10_lay_182 rfl (List.Mem.head _) ?_
  refine jg_if_eq (tgt := 200) dX10_lay_183 (by decide) (fun c1 => ?_) (fun c1 => ?_)
  · replace hv := hv.1 c1
    refine jg_iinc (v := (x1) + 1) (lv' := [(1, .inl ((x1) + 1)), (2, .inl (s0)), (0, .inr (.inr (some (a0))))]) dX10_lay_200 (List.Mem.tail _ (List.Mem.tail _ (List.Mem.head _))) rfl (by decide) rfl ?_
    refine jg_goto (tgt := 99) dX10_lay_203 (by decide) ?_
    refine jG.sub (lv' := [(0, .inr (.inr (some (a0)))), (1, .inl ((x1) + 1))]) (by simp) ?_
    exact hv
  · replace hv := hv.2 c1
    refine jg_aload_n dX10_lay_186 rfl (List.Mem.tail _ (List.Mem.head _)) ?_
    obtain ⟨f2, hv⟩ := hv
    refine jg_getr dX10_lay_187 fl_RX10_13 rfl jsn f2 ?_
    refine jg_iload_n dX10_lay_190 rfl (List.Mem.tail _ (List.Mem.tail _ (List.Mem.head _))) ?_
    obtain ⟨f3, hv⟩ := hv
    obtain ⟨f4, hv⟩ := hv
    obtain ⟨f5, hv⟩ := hv
    refine jg_iald dX10_lay_191 f3 f4 f5 ?_
    refine jg_if_le (tgt := 200) dX10_lay_192 (by decide) (fun c6 => ?_) (fun c6 => ?_)
    · replace hv := hv.1 c6
      refine jg_iinc (v := (x1) + 1) (lv' := [(1, .inl ((x1) + 1)), (2, .inl (s0)), (0, .inr (.inr (some (a0))))]) dX10_lay_200 (List.Mem.tail _ (List.Mem.tail _ (List.Mem.head _))) rfl (by decide) rfl ?_
      refine jg_goto (tgt := 99) dX10_lay_203 (by decide) ?_
      refine jG.sub (lv' := [(0, .inr (.inr (some (a0)))), (1, .inl ((x1) + 1))]) (by simp) ?_
      exact hv
    · replace hv := hv.2 c6
      refine jg_aload_n dX10_lay_195 rfl (List.Mem.tail _ (List.Mem.head _)) ?_
      refine jg_iload_n dX10_lay_196 rfl (List.Mem.tail _ (List.Mem.tail _ (List.Mem.head _))) ?_
      refine jp_callV mX10_fillAll [.inl (x1)] [] dX10_lay_197 rfl cl_RX10_200 ⟨⟨by decide, by decide⟩, by decide⟩ jsn f2 (Nat.zero_le _) (Nat.zero_le _) (jM.mono (jkv_k (fun h8 hv => ?_)) hv)
      refine jg_iinc (v := (x1) + 1) (lv' := [(1, .inl ((x1) + 1)), (2, .inl (s0)), (0, .inr (.inr (some (a0))))]) dX10_lay_200 (List.Mem.tail _ (List.Mem.tail _ (List.Mem.head _))) rfl (by decide) rfl ?_
      refine jg_goto (tgt := 99) dX10_lay_203 (by decide) ?_
      refine jG.sub (lv' := [(0, .inr (.inr (some (a0)))), (1, .inl ((x1) + 1))]) (by simp) ?_
      exact hv
def VX10_lay_99 (g : jg) (a0 : Nat) (x1 : Int32) (h : jh) (k n : Nat) (Q : jq) : Prop := (jt h a0 = 9) ∧ (((ji h 513 a0) < (x1) → Q (.inl (some (.inl (ji h 536 a0)))) h) ∧ (¬ (ji h 513 a0) < (x1) → jM g mX10_lies [.inr (.inr (some a0)), .inl (x1)] h 0 0 (jki (fun (r11 : Int32) (h12 : jh) => ((¬ (r11) = 0 → (jt h12 a0 = 9) ∧ (¬ (jr h12 543 a0) = none) ∧ (jt h12 (jd (jr h12 543 a0)) = 22) ∧ (vp_in (x1) (jn h12 (jd (jr h12 543 a0)))) ∧ ∀ h18 : jh, h18 = jsi h12 537 a0 ((ji h12 537 a0) + ((jL h12 (jd (jr h12 543 a0)) (x1 : Int32).toNatClampNeg : Int64).toInt32)) → jM g mX10_isAside [.inr (.inr (some a0)), .inl (x1)] h18 0 0 (jki (fun (r20 : Int32) (h21 : jh) => ((¬ (r20) = 0 → VX10_lay_181 g (a0) (x1) (0) h21 k n Q) ∧ ((r20) = 0 → (jt h21 a0 = 9) ∧ (¬ (jr h21 518 a0) = none) ∧ (jt h21 (jd (jr h21 518 a0)) = 20) ∧ (vp_in (x1) (jn h21 (jd (jr h21 518 a0)))) ∧ (¬ (jr h21 530 a0) = none) ∧ (jt h21 (jd (jr h21 530 a0)) = 20) ∧ (vp_in (jI h21 (jd (jr h21 518 a0)) (x1 : Int32).toNatClampNeg) (jn h21 (jd (jr h21 530 a0)))) ∧ (((jI h21 (jd (jr h21 530 a0)) (jI h21 (jd (jr h21 518 a0)) (x1 : Int32).toNatClampNeg : Int32).toNatClampNeg) = ((-1)) → VX10_lay_181 g (a0) (x1) (1) h21 k n Q) ∧ (¬ (jI h21 (jd (jr h21 530 a0)) (jI h21 (jd (jr h21 518 a0)) (x1 : Int32).toNatClampNeg : Int32).toNatClampNeg) = ((-1)) → jM g mX10_firstOf [.inr (.inr (some a0)), .inl (jI h21 (jd (jr h21 518 a0)) (x1 : Int32).toNatClampNeg)] h21 0 0 (jki (fun (r31 : Int32) (h32 : jh) => (jt h32 a0 = 9) ∧ (¬ (jr h32 518 a0) = none) ∧ (jt h32 (jd (jr h32 518 a0)) = 20) ∧ (vp_in (x1) (jn h32 (jd (jr h32 518 a0)))) ∧ ((¬ (r31) = (jI h32 (jd (jr h32 518 a0)) (x1 : Int32).toNatClampNeg) → VX10_lay_181 g (a0) (x1) (0) h32 k n Q) ∧ ((r31) = (jI h32 (jd (jr h32 518 a0)) (x1 : Int32).toNatClampNeg) → VX10_lay_181 g (a0) (x1) (1) h32 k n Q))) (fun e h9 => Q (.inr e) h9))))))) (fun e h9 => Q (.inr e) h9))) ∧ ((r11) = 0 → jG g mX10_lay 99 [(0, .inr (.inr (some (a0)))), (1, .inl ((x1) + 1))] [] h12 k n Q))) (fun e h9 => Q (.inr e) h9))))
set_option maxRecDepth 20000 in
theorem vX10_lay_99 {g : jg} {a0 : Nat} {x1 : Int32} {h : jh} {k n : Nat} {Q : jq} (hv : VX10_lay_99 g a0 x1 h k n Q) : jG g mX10_lay 99 [(0, .inr (.inr (some (a0)))), (1, .inl (x1))] [] h k n Q := by
  unfold VX10_lay_99 at hv
  refine jg_iload_n dX10_lay_99 rfl (List.Mem.tail _ (List.Mem.head _)) ?_
  refine jg_aload_n dX10_lay_100 rfl (List.Mem.head _) ?_
  obtain ⟨f9, hv⟩ := hv
  refine jg_geti dX10_lay_101 fl_RX10_102 rfl jsn f9 ?_
  refine jg_icmp_gt (tgt := 206) dX10_lay_104 (by decide) (fun c10 => ?_) (fun c10 => ?_)
  · replace hv := hv.1 c10
    refine jg_aload_n dX10_lay_206 rfl (List.Mem.head _) ?_
    refine jg_geti dX10_lay_207 fl_RX10_194 rfl jsn f9 ?_
    exact jg_iret dX10_lay_210 rfl hv
  · replace hv := hv.2 c10
    refine jg_aload_n dX10_lay_107 rfl (List.Mem.head _) ?_
    refine jg_iload_n dX10_lay_108 rfl (List.Mem.tail _ (List.Mem.head _)) ?_
    refine jp_callV mX10_lies [.inl (x1)] [] dX10_lay_109 rfl cl_RX10_105 ⟨⟨by decide, by decide⟩, by decide⟩ jsn f9 (Nat.zero_le _) (Nat.zero_le _) (jM.mono (jki_k (fun r11 h12 hv => ?_)) hv)
    refine jg_if_ne (tgt := 118) dX10_lay_112 (by decide) (fun c13 => ?_) (fun c13 => ?_)
    · replace hv := hv.1 c13
      refine jg_aload_n dX10_lay_118 rfl (List.Mem.head _) ?_
      refine jg_dup dX10_lay_119 rfl ?_
      obtain ⟨f14, hv⟩ := hv
      refine jg_geti dX10_lay_120 fl_RX10_197 rfl jsn f14 ?_
      refine jg_aload_n dX10_lay_123 rfl (List.Mem.head _) ?_
      refine jg_getr dX10_lay_124 fl_RX10_89 rfl jsn f14 ?_
      refine jg_iload_n dX10_lay_127 rfl (List.Mem.tail _ (List.Mem.head _)) ?_
      obtain ⟨f15, hv⟩ := hv
      obtain ⟨f16, hv⟩ := hv
      obtain ⟨f17, hv⟩ := hv
      refine jg_lald dX10_lay_128 f15 f16 f17 ?_
      refine jg_l2i dX10_lay_129 ?_
      refine jg_iadd dX10_lay_130 ?_
      obtain ⟨h18, e19⟩ : ∃ z : jh, z = jsi h12 537 a0 ((ji h12 537 a0) + ((jL h12 (jd (jr h12 543 a0)) (x1 : Int32).toNatClampNeg : Int64).toInt32)) := ⟨_, rfl⟩
      replace hv := hv h18 e19
      refine jp_puti dX10_lay_131 (jfp.nf fl_RX10_197 (fun q hq => by cases hq; rfl)) rfl jsn f14 e19 ?_
      refine jg_aload_n dX10_lay_134 rfl (List.Mem.head _) ?_
      refine jg_iload_n dX10_lay_135 rfl (List.Mem.tail _ (List.Mem.head _)) ?_
      refine jp_callV mX10_isAside [.inl (x1)] [] dX10_lay_136 rfl cl_RX10_150 ⟨⟨by decide, by decide⟩, by decide⟩ jsn ((congrArg (fun z => jt z a0) e19).trans f14) (Nat.zero_le _) (Nat.zero_le _) (jM.mono (jki_k (fun r20 h21 hv => ?_)) hv)
      refine jg_if_ne (tgt := 180) dX10_lay_139 (by decide) (fun c22 => ?_) (fun c22 => ?_)
      · replace hv := hv.1 c22
        refine jg_iconst (v := 0) dX10_lay_180 (by decide) ?_
        exact vX10_lay_181 hv
      · replace hv := hv.2 c22
        refine jg_aload_n dX10_lay_142 rfl (List.Mem.head _) ?_
        obtain ⟨f23, hv⟩ := hv
        refine jg_getr dX10_lay_143 fl_RX10_59 rfl jsn f23 ?_
        refine jg_aload_n dX10_lay_146 rfl (List.Mem.head _) ?_
        refine jg_getr dX10_lay_147 fl_RX10_22 rfl jsn f23 ?_
        refine jg_iload_n dX10_lay_150 rfl (List.Mem.tail _ (List.Mem.head _)) ?_
        obtain ⟨f24, hv⟩ := hv
        obtain ⟨f25, hv⟩ := hv
        obtain ⟨f26, hv⟩ := hv
        refine jg_iald dX10_lay_151 f24 f25 f26 ?_
        obtain ⟨f27, hv⟩ := hv
        obtain ⟨f28, hv⟩ := hv
        obtain ⟨f29, hv⟩ := hv
        refine jg_iald dX10_lay_152 f27 f28 f29 ?_
        refine jg_iconst (v := (-1)) dX10_lay_153 (by decide) ?_
        refine jg_icmp_eq (tgt := 176) dX10_lay_154 (by decide) (fun c30 => ?_) (fun c30 => ?_)
        · replace hv := hv.1 c30
          refine jg_iconst (v := 1) dX10_lay_176 (by decide) ?_
          refine jg_goto (tgt := 181) dX10_lay_177 (by decide) ?_
          exact vX10_lay_181 hv
        · replace hv := hv.2 c30
          refine jg_aload_n dX10_lay_157 rfl (List.Mem.head _) ?_
          refine jg_aload_n dX10_lay_158 rfl (List.Mem.head _) ?_
          refine jg_getr dX10_lay_159 fl_RX10_22 rfl jsn f23 ?_
          refine jg_iload_n dX10_lay_162 rfl (List.Mem.tail _ (List.Mem.head _)) ?_
          refine jg_iald dX10_lay_163 f24 f25 f26 ?_
          refine jp_callV mX10_firstOf [.inl (jI h21 (jd (jr h21 518 a0)) (x1 : Int32).toNatClampNeg)] [] dX10_lay_164 rfl cl_RX10_171 ⟨⟨by decide, by decide⟩, by decide⟩ jsn f23 (Nat.zero_le _) (Nat.zero_le _) (jM.mono (jki_k (fun r31 h32 hv => ?_)) hv)
          refine jg_aload_n dX10_lay_167 rfl (List.Mem.head _) ?_
          obtain ⟨f33, hv⟩ := hv
          refine jg_getr dX10_lay_168 fl_RX10_22 rfl jsn f33 ?_
          refine jg_iload_n dX10_lay_171 rfl (List.Mem.tail _ (List.Mem.head _)) ?_
          obtain ⟨f34, hv⟩ := hv
          obtain ⟨f35, hv⟩ := hv
          obtain ⟨f36, hv⟩ := hv
          refine jg_iald dX10_lay_172 f34 f35 f36 ?_
          refine jg_icmp_ne (tgt := 180) dX10_lay_173 (by decide) (fun c37 => ?_) (fun c37 => ?_)
          · replace hv := hv.1 c37
            refine jg_iconst (v := 0) dX10_lay_180 (by decide) ?_
            exact vX10_lay_181 hv
          · replace hv := hv.2 c37
            refine jg_iconst (v := 1) dX10_lay_176 (by decide) ?_
            refine jg_goto (tgt := 181) dX10_lay_177 (by decide) ?_
            exact vX10_lay_181 hv
    · replace hv := hv.2 c13
      refine jg_goto (tgt := 200) dX10_lay_115 (by decide) ?_
      refine jg_iinc (v := (x1) + 1) (lv' := [(1, .inl ((x1) + 1)), (0, .inr (.inr (some (a0))))]) dX10_lay_200 (List.Mem.tail _ (List.Mem.head _)) rfl (by decide) rfl ?_
      refine jg_goto (tgt := 99) dX10_lay_203 (by decide) ?_
      refine jG.sub (lv' := [(0, .inr (.inr (some (a0)))), (1, .inl ((x1) + 1))]) (by simp) ?_
      exact hv
def VX10_lay_77 (g : jg) (a0 : Nat) (x1 : Int32) (h : jh) (k n : Nat) (Q : jq) : Prop := (((20000 : Int32) ≤ (x1) → jG g mX10_lay 99 [(0, .inr (.inr (some (a0)))), (1, .inl (1))] [] h k n Q) ∧ (¬ (20000 : Int32) ≤ (x1) → (jt h a0 = 9) ∧ (¬ (jr h 538 a0) = none) ∧ (jt h (jd (jr h 538 a0)) = 21) ∧ (vp_in (x1) (jn h (jd (jr h 538 a0)))) ∧ ∀ h43 : jh, h43 = jsI h (jd (jr h 538 a0)) (x1 : Int32).toNatClampNeg (0 : Int32).toInt8.toInt32 → jG g mX10_lay 77 [(0, .inr (.inr (some (a0)))), (1, .inl ((x1) + 1))] [] h43 k n Q))
set_option maxRecDepth 20000 in
theorem vX10_lay_77 {g : jg} {a0 : Nat} {x1 : Int32} {h : jh} {k n : Nat} {Q : jq} (hv : VX10_lay_77 g a0 x1 h k n Q) : jG g mX10_lay 77 [(0, .inr (.inr (some (a0)))), (1, .inl (x1))] [] h k n Q := by
  unfold VX10_lay_77 at hv
  refine jg_iload_n dX10_lay_77 rfl (List.Mem.tail _ (List.Mem.head _)) ?_
  refine jg_sipush (v := 20000) dX10_lay_78 (by decide) ?_
  refine jg_icmp_ge (tgt := 97) dX10_lay_81 (by decide) (fun c38 => ?_) (fun c38 => ?_)
  · replace hv := hv.1 c38
    refine jg_iconst (v := 1) dX10_lay_97 (by decide) ?_
    refine jg_istore_n (lv' := [(1, .inl (1)), (0, .inr (.inr (some (a0))))]) dX10_lay_98 rfl (by decide) rfl ?_
    refine jG.sub (lv' := [(0, .inr (.inr (some (a0)))), (1, .inl (1))]) (by simp) ?_
    exact hv
  · replace hv := hv.2 c38
    refine jg_aload_n dX10_lay_84 rfl (List.Mem.head _) ?_
    obtain ⟨f39, hv⟩ := hv
    refine jg_getr dX10_lay_85 fl_RX10_72 rfl jsn f39 ?_
    refine jg_iload_n dX10_lay_88 rfl (List.Mem.tail _ (List.Mem.head _)) ?_
    refine jg_iconst (v := 0) dX10_lay_89 (by decide) ?_
    obtain ⟨f40, hv⟩ := hv
    obtain ⟨f41, hv⟩ := hv
    obtain ⟨f42, hv⟩ := hv
    obtain ⟨h43, e44⟩ : ∃ z : jh, z = jsI h (jd (jr h 538 a0)) (x1 : Int32).toNatClampNeg (0 : Int32).toInt8.toInt32 := ⟨_, rfl⟩
    replace hv := hv h43 e44
    refine jp_bast dX10_lay_90 f40 f41 f42 e44 ?_
    refine jg_iinc (v := (x1) + 1) (lv' := [(1, .inl ((x1) + 1)), (0, .inr (.inr (some (a0))))]) dX10_lay_91 (List.Mem.tail _ (List.Mem.head _)) rfl (by decide) rfl ?_
    refine jg_goto (tgt := 77) dX10_lay_94 (by decide) ?_
    refine jG.sub (lv' := [(0, .inr (.inr (some (a0)))), (1, .inl ((x1) + 1))]) (by simp) ?_
    exact hv
def VX10_lay_11 (g : jg) (a0 : Nat) (x1 : Int32) (h : jh) (k n : Nat) (Q : jq) : Prop := (jt h a0 = 9) ∧ (((ji h 513 a0) < (x1) → (¬ (jr h 539 a0) = none) ∧ (jt h (jd (jr h 539 a0)) = 22) ∧ (vp_in (0) (jn h (jd (jr h 539 a0)))) ∧ (((jL h (jd (jr h 539 a0)) (0 : Int32).toNatClampNeg) ≤ (20000) → ∀ h51 : jh, h51 = jsi h 533 a0 (1) → (¬ (jr h51 539 a0) = none) ∧ (jt h51 (jd (jr h51 539 a0)) = 22) ∧ (vp_in (0) (jn h51 (jd (jr h51 539 a0)))) ∧ ∀ h56 : jh, h56 = jsi h51 536 a0 ((jL h51 (jd (jr h51 539 a0)) (0 : Int32).toNatClampNeg : Int64).toInt32) → ∀ h58 : jh, h58 = jsi h56 537 a0 (0) → jG g mX10_lay 77 [(0, .inr (.inr (some (a0)))), (1, .inl (0))] [] h58 k n Q) ∧ (¬ (jL h (jd (jr h 539 a0)) (0 : Int32).toNatClampNeg) ≤ (20000) → Q (.inl (some (.inl ((-9))))) h))) ∧ (¬ (ji h 513 a0) < (x1) → jM g mX10_isWrong [.inr (.inr (some a0)), .inl (x1)] h 0 0 (jki (fun (r60 : Int32) (h61 : jh) => (((r60) = 0 → jG g mX10_lay 11 [(0, .inr (.inr (some (a0)))), (1, .inl ((x1) + 1))] [] h61 k n Q) ∧ (¬ (r60) = 0 → Q (.inl (some (.inl (((-10)) - (x1))))) h61))) (fun e h9 => Q (.inr e) h9))))
set_option maxRecDepth 20000 in
theorem vX10_lay_11 {g : jg} {a0 : Nat} {x1 : Int32} {h : jh} {k n : Nat} {Q : jq} (hv : VX10_lay_11 g a0 x1 h k n Q) : jG g mX10_lay 11 [(0, .inr (.inr (some (a0)))), (1, .inl (x1))] [] h k n Q := by
  unfold VX10_lay_11 at hv
  refine jg_iload_n dX10_lay_11 rfl (List.Mem.tail _ (List.Mem.head _)) ?_
  refine jg_aload_n dX10_lay_12 rfl (List.Mem.head _) ?_
  obtain ⟨f45, hv⟩ := hv
  refine jg_geti dX10_lay_13 fl_RX10_102 rfl jsn f45 ?_
  refine jg_icmp_gt (tgt := 38) dX10_lay_16 (by decide) (fun c46 => ?_) (fun c46 => ?_)
  · replace hv := hv.1 c46
    refine jg_aload_n dX10_lay_38 rfl (List.Mem.head _) ?_
    refine jg_getr dX10_lay_39 fl_RX10_76 rfl jsn f45 ?_
    refine jg_iconst (v := 0) dX10_lay_42 (by decide) ?_
    obtain ⟨f47, hv⟩ := hv
    obtain ⟨f48, hv⟩ := hv
    obtain ⟨f49, hv⟩ := hv
    refine jg_lald dX10_lay_43 f47 f48 f49 ?_
    refine jg_ldc2 (v := 20000) dX10_lay_44 kl_RX10_192 ?_
    refine jg_lcmp_le (tgt := 54) dX10_lay_47 dX10_lay_48 (by decide) (fun c50 => ?_) (fun c50 => ?_)
    · replace hv := hv.1 c50
      refine jg_aload_n dX10_lay_54 rfl (List.Mem.head _) ?_
      refine jg_iconst (v := 1) dX10_lay_55 (by decide) ?_
      obtain ⟨h51, e52⟩ : ∃ z : jh, z = jsi h 533 a0 (1) := ⟨_, rfl⟩
      replace hv := hv h51 e52
      refine jp_putz dX10_lay_56 (jfp.nf fl_RX10_121 (fun q hq => by cases hq; rfl)) rfl jsn f45 (by decide) e52 ?_
      refine jg_aload_n dX10_lay_59 rfl (List.Mem.head _) ?_
      refine jg_aload_n dX10_lay_60 rfl (List.Mem.head _) ?_
      refine jg_getr dX10_lay_61 fl_RX10_76 rfl jsn ((congrArg (fun z => jt z a0) e52).trans f45) ?_
      refine jg_iconst (v := 0) dX10_lay_64 (by decide) ?_
      obtain ⟨f53, hv⟩ := hv
      obtain ⟨f54, hv⟩ := hv
      obtain ⟨f55, hv⟩ := hv
      refine jg_lald dX10_lay_65 f53 f54 f55 ?_
      refine jg_l2i dX10_lay_66 ?_
      obtain ⟨h56, e57⟩ : ∃ z : jh, z = jsi h51 536 a0 ((jL h51 (jd (jr h51 539 a0)) (0 : Int32).toNatClampNeg : Int64).toInt32) := ⟨_, rfl⟩
      replace hv := hv h56 e57
      refine jp_puti dX10_lay_67 (jfp.nf fl_RX10_194 (fun q hq => by cases hq; rfl)) rfl jsn ((congrArg (fun z => jt z a0) e52).trans f45) e57 ?_
      refine jg_aload_n dX10_lay_70 rfl (List.Mem.head _) ?_
      refine jg_iconst (v := 0) dX10_lay_71 (by decide) ?_
      obtain ⟨h58, e59⟩ : ∃ z : jh, z = jsi h56 537 a0 (0) := ⟨_, rfl⟩
      replace hv := hv h58 e59
      refine jp_puti dX10_lay_72 (jfp.nf fl_RX10_197 (fun q hq => by cases hq; rfl)) rfl jsn ((congrArg (fun z => jt z a0) e57).trans ((congrArg (fun z => jt z a0) e52).trans f45)) e59 ?_
      refine jg_iconst (v := 0) dX10_lay_75 (by decide) ?_
      refine jg_istore_n (lv' := [(1, .inl (0)), (0, .inr (.inr (some (a0))))]) dX10_lay_76 rfl (by decide) rfl ?_
      refine jG.sub (lv' := [(0, .inr (.inr (some (a0)))), (1, .inl (0))]) (by simp) ?_
      exact hv
    · replace hv := hv.2 c50
      refine jg_bipush (v := (-9)) dX10_lay_51 (by decide) ?_
      exact jg_iret dX10_lay_53 rfl hv
  · replace hv := hv.2 c46
    refine jg_aload_n dX10_lay_19 rfl (List.Mem.head _) ?_
    refine jg_iload_n dX10_lay_20 rfl (List.Mem.tail _ (List.Mem.head _)) ?_
    refine jp_callV mX10_isWrong [.inl (x1)] [] dX10_lay_21 rfl cl_RX10_189 ⟨⟨by decide, by decide⟩, by decide⟩ jsn f45 (Nat.zero_le _) (Nat.zero_le _) (jM.mono (jki_k (fun r60 h61 hv => ?_)) hv)
    refine jg_if_eq (tgt := 32) dX10_lay_24 (by decide) (fun c62 => ?_) (fun c62 => ?_)
    · replace hv := hv.1 c62
      refine jg_iinc (v := (x1) + 1) (lv' := [(1, .inl ((x1) + 1)), (0, .inr (.inr (some (a0))))]) dX10_lay_32 (List.Mem.tail _ (List.Mem.head _)) rfl (by decide) rfl ?_
      refine jg_goto (tgt := 11) dX10_lay_35 (by decide) ?_
      refine jG.sub (lv' := [(0, .inr (.inr (some (a0)))), (1, .inl ((x1) + 1))]) (by simp) ?_
      exact hv
    · replace hv := hv.2 c62
      refine jg_bipush (v := (-10)) dX10_lay_27 (by decide) ?_
      refine jg_iload_n dX10_lay_29 rfl (List.Mem.tail _ (List.Mem.head _)) ?_
      refine jg_isub dX10_lay_30 ?_
      exact jg_iret dX10_lay_31 rfl hv
def VX10_lay_0 (g : jg) (a0 : Nat) (h : jh) (k n : Nat) (Q : jq) : Prop := (jt h a0 = 9) ∧ ∀ h64 : jh, h64 = jsi h 512 a0 (0) → jM g mX10_layAll [.inr (.inr (some a0))] h64 0 0 (jkv (fun (h67 : jh) => jG g mX10_lay 11 [(0, .inr (.inr (some (a0)))), (1, .inl (1))] [] h67 k n Q) (fun e h9 => Q (.inr e) h9))
set_option maxRecDepth 20000 in
theorem vX10_lay_0 {g : jg} {a0 : Nat} {h : jh} {k n : Nat} {Q : jq} (hv : VX10_lay_0 g a0 h k n Q) : jG g mX10_lay 0 [(0, .inr (.inr (some (a0))))] [] h k n Q := by
  unfold VX10_lay_0 at hv
  refine jg_aload_n dX10_lay_0 rfl (List.Mem.head _) ?_
  refine jg_iconst (v := 0) dX10_lay_1 (by decide) ?_
  obtain ⟨f63, hv⟩ := hv
  obtain ⟨h64, e65⟩ : ∃ z : jh, z = jsi h 512 a0 (0) := ⟨_, rfl⟩
  replace hv := hv h64 e65
  refine jp_puti dX10_lay_2 (jfp.nf fl_RX10_98 (fun q hq => by cases hq; rfl)) rfl jsn f63 e65 ?_
  refine jg_aload_n dX10_lay_5 rfl (List.Mem.head _) ?_
  refine jp_callV mX10_layAll [] [] dX10_lay_6 rfl cl_RX10_186 ⟨⟨by decide, by decide⟩, by decide⟩ jsn ((congrArg (fun z => jt z a0) e65).trans f63) (Nat.zero_le _) (Nat.zero_le _) (jM.mono (jkv_k (fun h67 hv => ?_)) hv)
  refine jg_iconst (v := 1) dX10_lay_9 (by decide) ?_
  refine jg_istore_n (lv' := [(1, .inl (1)), (0, .inr (.inr (some (a0))))]) dX10_lay_10 rfl (by decide) rfl ?_
  refine jG.sub (lv' := [(0, .inr (.inr (some (a0)))), (1, .inl (1))]) (by simp) ?_
  exact hv
theorem eX10_lay {g : jg} {a0 : Nat} {h : jh} {mc ms : Nat} {Q : jq} (hv : VX10_lay_0 g a0 h mc ms Q) : jM g mX10_lay [.inr (.inr (some (a0)))] h mc ms Q := jM.of (by decide) (Nat.le_of_ble_eq_true rfl) (lv := [(0, .inr (.inr (some (a0))))]) rfl (vX10_lay_0 hv)
theorem dX10_findAround_0 : decode cX10_findAround 0 = .ok (.aload_n 0, 1) := by decide +kernel
theorem dX10_findAround_1 : decode cX10_findAround 1 = .ok (.aload_n 0, 1) := by decide +kernel
theorem dX10_findAround_2 : decode cX10_findAround 2 = .ok (.iload_n 1, 1) := by decide +kernel
theorem dX10_findAround_3 : decode cX10_findAround 3 = .ok (.iconst 0, 1) := by decide +kernel
theorem dX10_findAround_4 : decode cX10_findAround 4 = .ok (.invokevirtual 127, 3) := by decide +kernel
theorem dX10_findAround_7 : decode cX10_findAround 7 = .ok (.putfield 203, 3) := by decide +kernel
theorem dX10_findAround_10 : decode cX10_findAround 10 = .ok (.aload_n 0, 1) := by decide +kernel
theorem dX10_findAround_11 : decode cX10_findAround 11 = .ok (.getfield 203, 3) := by decide +kernel
theorem dX10_findAround_14 : decode cX10_findAround 14 = .ok (.istore_n 2, 1) := by decide +kernel
theorem dX10_findAround_15 : decode cX10_findAround 15 = .ok (.iload_n 1, 1) := by decide +kernel
theorem dX10_findAround_16 : decode cX10_findAround 16 = .ok (.istore_n 3, 1) := by decide +kernel
theorem dX10_findAround_17 : decode cX10_findAround 17 = .ok (.iload_n 3, 1) := by decide +kernel
theorem dX10_findAround_18 : decode cX10_findAround 18 = .ok (.ifCond .le 35, 3) := by decide +kernel
theorem dX10_findAround_21 : decode cX10_findAround 21 = .ok (.aload_n 0, 1) := by decide +kernel
theorem dX10_findAround_22 : decode cX10_findAround 22 = .ok (.getfield 25, 3) := by decide +kernel
theorem dX10_findAround_25 : decode cX10_findAround 25 = .ok (.iload_n 3, 1) := by decide +kernel
theorem dX10_findAround_26 : decode cX10_findAround 26 = .ok (.iaload, 1) := by decide +kernel
theorem dX10_findAround_27 : decode cX10_findAround 27 = .ok (.ifCond .ne 6, 3) := by decide +kernel
theorem dX10_findAround_30 : decode cX10_findAround 30 = .ok (.goto 13, 3) := by decide +kernel
theorem dX10_findAround_33 : decode cX10_findAround 33 = .ok (.iinc 2 (-1), 3) := by decide +kernel
theorem dX10_findAround_36 : decode cX10_findAround 36 = .ok (.aload_n 0, 1) := by decide +kernel
theorem dX10_findAround_37 : decode cX10_findAround 37 = .ok (.getfield 95, 3) := by decide +kernel
theorem dX10_findAround_40 : decode cX10_findAround 40 = .ok (.iload_n 2, 1) := by decide +kernel
theorem dX10_findAround_41 : decode cX10_findAround 41 = .ok (.iload_n 3, 1) := by decide +kernel
theorem dX10_findAround_42 : decode cX10_findAround 42 = .ok (.iastore, 1) := by decide +kernel
theorem dX10_findAround_43 : decode cX10_findAround 43 = .ok (.aload_n 0, 1) := by decide +kernel
theorem dX10_findAround_44 : decode cX10_findAround 44 = .ok (.getfield 19, 3) := by decide +kernel
theorem dX10_findAround_47 : decode cX10_findAround 47 = .ok (.iload_n 3, 1) := by decide +kernel
theorem dX10_findAround_48 : decode cX10_findAround 48 = .ok (.iaload, 1) := by decide +kernel
theorem dX10_findAround_49 : decode cX10_findAround 49 = .ok (.istore_n 3, 1) := by decide +kernel
theorem dX10_findAround_50 : decode cX10_findAround 50 = .ok (.goto (-33), 3) := by decide +kernel
theorem dX10_findAround_53 : decode cX10_findAround 53 = .ok (.return_, 1) := by decide +kernel
def VX10_findAround_17 (g : jg) (a0 : Nat) (x2 : Int32) (x3 : Int32) (h : jh) (k n : Nat) (Q : jq) : Prop := (((x3) ≤ 0 → Q (.inl none) h) ∧ (¬ (x3) ≤ 0 → (jt h a0 = 9) ∧ (¬ (jr h 519 a0) = none) ∧ (jt h (jd (jr h 519 a0)) = 20) ∧ (vp_in (x3) (jn h (jd (jr h 519 a0)))) ∧ ((¬ (jI h (jd (jr h 519 a0)) (x3 : Int32).toNatClampNeg) = 0 → (¬ (jr h 545 a0) = none) ∧ (jt h (jd (jr h 545 a0)) = 20) ∧ (vp_in ((x2) + (-1)) (jn h (jd (jr h 545 a0)))) ∧ ∀ h10 : jh, h10 = jsI h (jd (jr h 545 a0)) ((x2) + (-1) : Int32).toNatClampNeg (x3) → (¬ (jr h10 517 a0) = none) ∧ (jt h10 (jd (jr h10 517 a0)) = 20) ∧ (vp_in (x3) (jn h10 (jd (jr h10 517 a0)))) ∧ jG g mX10_findAround 17 [(0, .inr (.inr (some (a0)))), (2, .inl ((x2) + (-1))), (3, .inl (jI h10 (jd (jr h10 517 a0)) (x3 : Int32).toNatClampNeg))] [] h10 k n Q) ∧ ((jI h (jd (jr h 519 a0)) (x3 : Int32).toNatClampNeg) = 0 → (¬ (jr h 517 a0) = none) ∧ (jt h (jd (jr h 517 a0)) = 20) ∧ (vp_in (x3) (jn h (jd (jr h 517 a0)))) ∧ jG g mX10_findAround 17 [(0, .inr (.inr (some (a0)))), (2, .inl (x2)), (3, .inl (jI h (jd (jr h 517 a0)) (x3 : Int32).toNatClampNeg))] [] h k n Q))))
set_option maxRecDepth 20000 in
theorem vX10_findAround_17 {g : jg} {a0 : Nat} {x2 : Int32} {x3 : Int32} {h : jh} {k n : Nat} {Q : jq} (hv : VX10_findAround_17 g a0 x2 x3 h k n Q) : jG g mX10_findAround 17 [(0, .inr (.inr (some (a0)))), (2, .inl (x2)), (3, .inl (x3))] [] h k n Q := by
  unfold VX10_findAround_17 at hv
  refine jg_iload_n dX10_findAround_17 rfl (List.Mem.tail _ (List.Mem.tail _ (List.Mem.head _))) ?_
  refine jg_if_le (tgt := 53) dX10_findAround_18 (by decide) (fun c1 => ?_) (fun c1 => ?_)
  · replace hv := hv.1 c1
    exact jg_vret dX10_findAround_53 rfl hv
  · replace hv := hv.2 c1
    refine jg_aload_n dX10_findAround_21 rfl (List.Mem.head _) ?_
    obtain ⟨f2, hv⟩ := hv
    refine jg_getr dX10_findAround_22 fl_RX10_25 rfl jsn f2 ?_
    refine jg_iload_n dX10_findAround_25 rfl (List.Mem.tail _ (List.Mem.tail _ (List.Mem.head _))) ?_
    obtain ⟨f3, hv⟩ := hv
    obtain ⟨f4, hv⟩ := hv
    obtain ⟨f5, hv⟩ := hv
    refine jg_iald dX10_findAround_26 f3 f4 f5 ?_
    refine jg_if_ne (tgt := 33) dX10_findAround_27 (by decide) (fun c6 => ?_) (fun c6 => ?_)
    · replace hv := hv.1 c6
      refine jg_iinc (v := (x2) + (-1)) (lv' := [(2, .inl ((x2) + (-1))), (0, .inr (.inr (some (a0)))), (3, .inl (x3))]) dX10_findAround_33 (List.Mem.tail _ (List.Mem.head _)) rfl (by decide) rfl ?_
      refine jg_aload_n dX10_findAround_36 rfl (List.Mem.tail _ (List.Mem.head _)) ?_
      refine jg_getr dX10_findAround_37 fl_RX10_95 rfl jsn f2 ?_
      refine jg_iload_n dX10_findAround_40 rfl (List.Mem.head _) ?_
      refine jg_iload_n dX10_findAround_41 rfl (List.Mem.tail _ (List.Mem.tail _ (List.Mem.head _))) ?_
      obtain ⟨f7, hv⟩ := hv
      obtain ⟨f8, hv⟩ := hv
      obtain ⟨f9, hv⟩ := hv
      obtain ⟨h10, e11⟩ : ∃ z : jh, z = jsI h (jd (jr h 545 a0)) ((x2) + (-1) : Int32).toNatClampNeg (x3) := ⟨_, rfl⟩
      replace hv := hv h10 e11
      refine jp_iast dX10_findAround_42 f7 f8 f9 e11 ?_
      refine jg_aload_n dX10_findAround_43 rfl (List.Mem.tail _ (List.Mem.head _)) ?_
      refine jg_getr dX10_findAround_44 fl_RX10_19 rfl jsn ((congrArg (fun z => jt z a0) e11).trans f2) ?_
      refine jg_iload_n dX10_findAround_47 rfl (List.Mem.tail _ (List.Mem.tail _ (List.Mem.head _))) ?_
      obtain ⟨f12, hv⟩ := hv
      obtain ⟨f13, hv⟩ := hv
      obtain ⟨f14, hv⟩ := hv
      refine jg_iald dX10_findAround_48 f12 f13 f14 ?_
      refine jg_istore_n (lv' := [(3, .inl (jI h10 (jd (jr h10 517 a0)) (x3 : Int32).toNatClampNeg)), (2, .inl ((x2) + (-1))), (0, .inr (.inr (some (a0))))]) dX10_findAround_49 rfl (by decide) rfl ?_
      refine jg_goto (tgt := 17) dX10_findAround_50 (by decide) ?_
      refine jG.sub (lv' := [(0, .inr (.inr (some (a0)))), (2, .inl ((x2) + (-1))), (3, .inl (jI h10 (jd (jr h10 517 a0)) (x3 : Int32).toNatClampNeg))]) (by simp) ?_
      exact hv
    · replace hv := hv.2 c6
      refine jg_goto (tgt := 43) dX10_findAround_30 (by decide) ?_
      refine jg_aload_n dX10_findAround_43 rfl (List.Mem.head _) ?_
      refine jg_getr dX10_findAround_44 fl_RX10_19 rfl jsn f2 ?_
      refine jg_iload_n dX10_findAround_47 rfl (List.Mem.tail _ (List.Mem.tail _ (List.Mem.head _))) ?_
      obtain ⟨f15, hv⟩ := hv
      obtain ⟨f16, hv⟩ := hv
      obtain ⟨f17, hv⟩ := hv
      refine jg_iald dX10_findAround_48 f15 f16 f17 ?_
      refine jg_istore_n (lv' := [(3, .inl (jI h (jd (jr h 517 a0)) (x3 : Int32).toNatClampNeg)), (0, .inr (.inr (some (a0)))), (2, .inl (x2))]) dX10_findAround_49 rfl (by decide) rfl ?_
      refine jg_goto (tgt := 17) dX10_findAround_50 (by decide) ?_
      refine jG.sub (lv' := [(0, .inr (.inr (some (a0)))), (2, .inl (x2)), (3, .inl (jI h (jd (jr h 517 a0)) (x3 : Int32).toNatClampNeg))]) (by simp) ?_
      exact hv
def VX10_findAround_0 (g : jg) (a0 : Nat) (x1 : Int32) (h : jh) (k n : Nat) (Q : jq) : Prop := (jt h a0 = 9) ∧ jM g mX10_tablesUp [.inr (.inr (some a0)), .inl (x1), .inl (0)] h 0 0 (jki (fun (r19 : Int32) (h20 : jh) => (jt h20 a0 = 9) ∧ ∀ h22 : jh, h22 = jsi h20 546 a0 (r19) → jG g mX10_findAround 17 [(0, .inr (.inr (some (a0)))), (2, .inl (ji h22 546 a0)), (3, .inl (x1))] [] h22 k n Q) (fun e h9 => Q (.inr e) h9))
set_option maxRecDepth 20000 in
theorem vX10_findAround_0 {g : jg} {a0 : Nat} {x1 : Int32} {h : jh} {k n : Nat} {Q : jq} (hv : VX10_findAround_0 g a0 x1 h k n Q) : jG g mX10_findAround 0 [(0, .inr (.inr (some (a0)))), (1, .inl (x1))] [] h k n Q := by
  unfold VX10_findAround_0 at hv
  refine jg_aload_n dX10_findAround_0 rfl (List.Mem.head _) ?_
  refine jg_aload_n dX10_findAround_1 rfl (List.Mem.head _) ?_
  refine jg_iload_n dX10_findAround_2 rfl (List.Mem.tail _ (List.Mem.head _)) ?_
  refine jg_iconst (v := 0) dX10_findAround_3 (by decide) ?_
  obtain ⟨f18, hv⟩ := hv
  refine jp_callV mX10_tablesUp [.inl (x1), .inl (0)] [.inr (.inr (some (a0)))] dX10_findAround_4 rfl cl_RX10_127 ⟨⟨by decide, by decide⟩, jcat_le _ (Nat.le_of_ble_eq_true rfl)⟩ jsn f18 (Nat.zero_le _) (Nat.zero_le _) (jM.mono (jki_k (fun r19 h20 hv => ?_)) hv)
  obtain ⟨f21, hv⟩ := hv
  obtain ⟨h22, e23⟩ : ∃ z : jh, z = jsi h20 546 a0 (r19) := ⟨_, rfl⟩
  replace hv := hv h22 e23
  refine jp_puti dX10_findAround_7 (jfp.nf fl_RX10_203 (fun q hq => by cases hq; rfl)) rfl jsn f21 e23 ?_
  refine jg_aload_n dX10_findAround_10 rfl (List.Mem.head _) ?_
  refine jg_geti dX10_findAround_11 fl_RX10_203 rfl jsn ((congrArg (fun z => jt z a0) e23).trans f21) ?_
  refine jg_istore_n (lv' := [(2, .inl (ji h22 546 a0)), (0, .inr (.inr (some (a0)))), (1, .inl (x1))]) dX10_findAround_14 rfl (by decide) rfl ?_
  refine jg_iload_n dX10_findAround_15 rfl (List.Mem.tail _ (List.Mem.tail _ (List.Mem.head _))) ?_
  refine jg_istore_n (lv' := [(3, .inl (x1)), (2, .inl (ji h22 546 a0)), (0, .inr (.inr (some (a0)))), (1, .inl (x1))]) dX10_findAround_16 rfl (by decide) rfl ?_
  refine jG.sub (lv' := [(0, .inr (.inr (some (a0)))), (2, .inl (ji h22 546 a0)), (3, .inl (x1))]) (by simp) ?_
  exact hv
theorem eX10_findAround {g : jg} {a0 : Nat} {x1 : Int32} {h : jh} {mc ms : Nat} {Q : jq} (hv : VX10_findAround_0 g a0 x1 h mc ms Q) : jM g mX10_findAround [.inr (.inr (some (a0))), .inl (x1)] h mc ms Q := jM.of (by decide) (Nat.le_of_ble_eq_true rfl) (lv := [(0, .inr (.inr (some (a0)))), (1, .inl (x1))]) rfl (vX10_findAround_0 hv)
theorem dX10_fillAll_0 : decode cX10_fillAll 0 = .ok (.aload_n 0, 1) := by decide +kernel
theorem dX10_fillAll_1 : decode cX10_fillAll 1 = .ok (.iload_n 1, 1) := by decide +kernel
theorem dX10_fillAll_2 : decode cX10_fillAll 2 = .ok (.invokevirtual 206, 3) := by decide +kernel
theorem dX10_fillAll_5 : decode cX10_fillAll 5 = .ok (.aload_n 0, 1) := by decide +kernel
theorem dX10_fillAll_6 : decode cX10_fillAll 6 = .ok (.getfield 203, 3) := by decide +kernel
theorem dX10_fillAll_9 : decode cX10_fillAll 9 = .ok (.ifCond .le 17, 3) := by decide +kernel
theorem dX10_fillAll_12 : decode cX10_fillAll 12 = .ok (.aload_n 0, 1) := by decide +kernel
theorem dX10_fillAll_13 : decode cX10_fillAll 13 = .ok (.getfield 31, 3) := by decide +kernel
theorem dX10_fillAll_16 : decode cX10_fillAll 16 = .ok (.aload_n 0, 1) := by decide +kernel
theorem dX10_fillAll_17 : decode cX10_fillAll 17 = .ok (.getfield 95, 3) := by decide +kernel
theorem dX10_fillAll_20 : decode cX10_fillAll 20 = .ok (.iconst 0, 1) := by decide +kernel
theorem dX10_fillAll_21 : decode cX10_fillAll 21 = .ok (.iaload, 1) := by decide +kernel
theorem dX10_fillAll_22 : decode cX10_fillAll 22 = .ok (.iaload, 1) := by decide +kernel
theorem dX10_fillAll_23 : decode cX10_fillAll 23 = .ok (.goto 4, 3) := by decide +kernel
theorem dX10_fillAll_26 : decode cX10_fillAll 26 = .ok (.iconst 1, 1) := by decide +kernel
theorem dX10_fillAll_27 : decode cX10_fillAll 27 = .ok (.istore_n 2, 1) := by decide +kernel
theorem dX10_fillAll_28 : decode cX10_fillAll 28 = .ok (.aload_n 0, 1) := by decide +kernel
theorem dX10_fillAll_29 : decode cX10_fillAll 29 = .ok (.getfield 203, 3) := by decide +kernel
theorem dX10_fillAll_32 : decode cX10_fillAll 32 = .ok (.iconst 1, 1) := by decide +kernel
theorem dX10_fillAll_33 : decode cX10_fillAll 33 = .ok (.if_icmp .le 17, 3) := by decide +kernel
theorem dX10_fillAll_36 : decode cX10_fillAll 36 = .ok (.aload_n 0, 1) := by decide +kernel
theorem dX10_fillAll_37 : decode cX10_fillAll 37 = .ok (.getfield 31, 3) := by decide +kernel
theorem dX10_fillAll_40 : decode cX10_fillAll 40 = .ok (.aload_n 0, 1) := by decide +kernel
theorem dX10_fillAll_41 : decode cX10_fillAll 41 = .ok (.getfield 95, 3) := by decide +kernel
theorem dX10_fillAll_44 : decode cX10_fillAll 44 = .ok (.iconst 1, 1) := by decide +kernel
theorem dX10_fillAll_45 : decode cX10_fillAll 45 = .ok (.iaload, 1) := by decide +kernel
theorem dX10_fillAll_46 : decode cX10_fillAll 46 = .ok (.iaload, 1) := by decide +kernel
theorem dX10_fillAll_47 : decode cX10_fillAll 47 = .ok (.goto 4, 3) := by decide +kernel
theorem dX10_fillAll_50 : decode cX10_fillAll 50 = .ok (.iconst 1, 1) := by decide +kernel
theorem dX10_fillAll_51 : decode cX10_fillAll 51 = .ok (.istore_n 3, 1) := by decide +kernel
theorem dX10_fillAll_52 : decode cX10_fillAll 52 = .ok (.aload_n 0, 1) := by decide +kernel
theorem dX10_fillAll_53 : decode cX10_fillAll 53 = .ok (.getfield 203, 3) := by decide +kernel
theorem dX10_fillAll_56 : decode cX10_fillAll 56 = .ok (.iconst 2, 1) := by decide +kernel
theorem dX10_fillAll_57 : decode cX10_fillAll 57 = .ok (.if_icmp .le 17, 3) := by decide +kernel
theorem dX10_fillAll_60 : decode cX10_fillAll 60 = .ok (.aload_n 0, 1) := by decide +kernel
theorem dX10_fillAll_61 : decode cX10_fillAll 61 = .ok (.getfield 31, 3) := by decide +kernel
theorem dX10_fillAll_64 : decode cX10_fillAll 64 = .ok (.aload_n 0, 1) := by decide +kernel
theorem dX10_fillAll_65 : decode cX10_fillAll 65 = .ok (.getfield 95, 3) := by decide +kernel
theorem dX10_fillAll_68 : decode cX10_fillAll 68 = .ok (.iconst 2, 1) := by decide +kernel
theorem dX10_fillAll_69 : decode cX10_fillAll 69 = .ok (.iaload, 1) := by decide +kernel
theorem dX10_fillAll_70 : decode cX10_fillAll 70 = .ok (.iaload, 1) := by decide +kernel
theorem dX10_fillAll_71 : decode cX10_fillAll 71 = .ok (.goto 4, 3) := by decide +kernel
theorem dX10_fillAll_74 : decode cX10_fillAll 74 = .ok (.iconst 1, 1) := by decide +kernel
theorem dX10_fillAll_75 : decode cX10_fillAll 75 = .ok (.istore 4, 2) := by decide +kernel
theorem dX10_fillAll_77 : decode cX10_fillAll 77 = .ok (.iconst 0, 1) := by decide +kernel
theorem dX10_fillAll_78 : decode cX10_fillAll 78 = .ok (.istore 5, 2) := by decide +kernel
theorem dX10_fillAll_80 : decode cX10_fillAll 80 = .ok (.iload 5, 2) := by decide +kernel
theorem dX10_fillAll_82 : decode cX10_fillAll 82 = .ok (.iload_n 2, 1) := by decide +kernel
theorem dX10_fillAll_83 : decode cX10_fillAll 83 = .ok (.if_icmp .ge 139, 3) := by decide +kernel
theorem dX10_fillAll_86 : decode cX10_fillAll 86 = .ok (.iconst 0, 1) := by decide +kernel
theorem dX10_fillAll_87 : decode cX10_fillAll 87 = .ok (.istore 6, 2) := by decide +kernel
theorem dX10_fillAll_89 : decode cX10_fillAll 89 = .ok (.iload 6, 2) := by decide +kernel
theorem dX10_fillAll_91 : decode cX10_fillAll 91 = .ok (.iload_n 3, 1) := by decide +kernel
theorem dX10_fillAll_92 : decode cX10_fillAll 92 = .ok (.if_icmp .ge 124, 3) := by decide +kernel
theorem dX10_fillAll_95 : decode cX10_fillAll 95 = .ok (.iconst 0, 1) := by decide +kernel
theorem dX10_fillAll_96 : decode cX10_fillAll 96 = .ok (.istore 7, 2) := by decide +kernel
theorem dX10_fillAll_98 : decode cX10_fillAll 98 = .ok (.iload 7, 2) := by decide +kernel
theorem dX10_fillAll_100 : decode cX10_fillAll 100 = .ok (.iload 4, 2) := by decide +kernel
theorem dX10_fillAll_102 : decode cX10_fillAll 102 = .ok (.if_icmp .ge 108, 3) := by decide +kernel
theorem dX10_fillAll_105 : decode cX10_fillAll 105 = .ok (.aload_n 0, 1) := by decide +kernel
theorem dX10_fillAll_106 : decode cX10_fillAll 106 = .ok (.getfield 76, 3) := by decide +kernel
theorem dX10_fillAll_109 : decode cX10_fillAll 109 = .ok (.iload_n 1, 1) := by decide +kernel
theorem dX10_fillAll_110 : decode cX10_fillAll 110 = .ok (.laload, 1) := by decide +kernel
theorem dX10_fillAll_111 : decode cX10_fillAll 111 = .ok (.aload_n 0, 1) := by decide +kernel
theorem dX10_fillAll_112 : decode cX10_fillAll 112 = .ok (.getfield 203, 3) := by decide +kernel
theorem dX10_fillAll_115 : decode cX10_fillAll 115 = .ok (.ifCond .le 21, 3) := by decide +kernel
theorem dX10_fillAll_118 : decode cX10_fillAll 118 = .ok (.iload 5, 2) := by decide +kernel
theorem dX10_fillAll_120 : decode cX10_fillAll 120 = .ok (.i2l, 1) := by decide +kernel
theorem dX10_fillAll_121 : decode cX10_fillAll 121 = .ok (.aload_n 0, 1) := by decide +kernel
theorem dX10_fillAll_122 : decode cX10_fillAll 122 = .ok (.getfield 83, 3) := by decide +kernel
theorem dX10_fillAll_125 : decode cX10_fillAll 125 = .ok (.aload_n 0, 1) := by decide +kernel
theorem dX10_fillAll_126 : decode cX10_fillAll 126 = .ok (.getfield 95, 3) := by decide +kernel
theorem dX10_fillAll_129 : decode cX10_fillAll 129 = .ok (.iconst 0, 1) := by decide +kernel
theorem dX10_fillAll_130 : decode cX10_fillAll 130 = .ok (.iaload, 1) := by decide +kernel
theorem dX10_fillAll_131 : decode cX10_fillAll 131 = .ok (.laload, 1) := by decide +kernel
theorem dX10_fillAll_132 : decode cX10_fillAll 132 = .ok (.lmul, 1) := by decide +kernel
theorem dX10_fillAll_133 : decode cX10_fillAll 133 = .ok (.goto 4, 3) := by decide +kernel
theorem dX10_fillAll_136 : decode cX10_fillAll 136 = .ok (.lconst 0, 1) := by decide +kernel
theorem dX10_fillAll_137 : decode cX10_fillAll 137 = .ok (.ladd, 1) := by decide +kernel
theorem dX10_fillAll_138 : decode cX10_fillAll 138 = .ok (.aload_n 0, 1) := by decide +kernel
theorem dX10_fillAll_139 : decode cX10_fillAll 139 = .ok (.getfield 203, 3) := by decide +kernel
theorem dX10_fillAll_142 : decode cX10_fillAll 142 = .ok (.iconst 1, 1) := by decide +kernel
theorem dX10_fillAll_143 : decode cX10_fillAll 143 = .ok (.if_icmp .le 21, 3) := by decide +kernel
theorem dX10_fillAll_146 : decode cX10_fillAll 146 = .ok (.iload 6, 2) := by decide +kernel
theorem dX10_fillAll_148 : decode cX10_fillAll 148 = .ok (.i2l, 1) := by decide +kernel
theorem dX10_fillAll_149 : decode cX10_fillAll 149 = .ok (.aload_n 0, 1) := by decide +kernel
theorem dX10_fillAll_150 : decode cX10_fillAll 150 = .ok (.getfield 83, 3) := by decide +kernel
theorem dX10_fillAll_153 : decode cX10_fillAll 153 = .ok (.aload_n 0, 1) := by decide +kernel
theorem dX10_fillAll_154 : decode cX10_fillAll 154 = .ok (.getfield 95, 3) := by decide +kernel
theorem dX10_fillAll_157 : decode cX10_fillAll 157 = .ok (.iconst 1, 1) := by decide +kernel
theorem dX10_fillAll_158 : decode cX10_fillAll 158 = .ok (.iaload, 1) := by decide +kernel
theorem dX10_fillAll_159 : decode cX10_fillAll 159 = .ok (.laload, 1) := by decide +kernel
theorem dX10_fillAll_160 : decode cX10_fillAll 160 = .ok (.lmul, 1) := by decide +kernel
theorem dX10_fillAll_161 : decode cX10_fillAll 161 = .ok (.goto 4, 3) := by decide +kernel
theorem dX10_fillAll_164 : decode cX10_fillAll 164 = .ok (.lconst 0, 1) := by decide +kernel
theorem dX10_fillAll_165 : decode cX10_fillAll 165 = .ok (.ladd, 1) := by decide +kernel
theorem dX10_fillAll_166 : decode cX10_fillAll 166 = .ok (.aload_n 0, 1) := by decide +kernel
theorem dX10_fillAll_167 : decode cX10_fillAll 167 = .ok (.getfield 203, 3) := by decide +kernel
theorem dX10_fillAll_170 : decode cX10_fillAll 170 = .ok (.iconst 2, 1) := by decide +kernel
theorem dX10_fillAll_171 : decode cX10_fillAll 171 = .ok (.if_icmp .le 21, 3) := by decide +kernel
theorem dX10_fillAll_174 : decode cX10_fillAll 174 = .ok (.iload 7, 2) := by decide +kernel
theorem dX10_fillAll_176 : decode cX10_fillAll 176 = .ok (.i2l, 1) := by decide +kernel
theorem dX10_fillAll_177 : decode cX10_fillAll 177 = .ok (.aload_n 0, 1) := by decide +kernel
theorem dX10_fillAll_178 : decode cX10_fillAll 178 = .ok (.getfield 83, 3) := by decide +kernel
theorem dX10_fillAll_181 : decode cX10_fillAll 181 = .ok (.aload_n 0, 1) := by decide +kernel
theorem dX10_fillAll_182 : decode cX10_fillAll 182 = .ok (.getfield 95, 3) := by decide +kernel
theorem dX10_fillAll_185 : decode cX10_fillAll 185 = .ok (.iconst 2, 1) := by decide +kernel
theorem dX10_fillAll_186 : decode cX10_fillAll 186 = .ok (.iaload, 1) := by decide +kernel
theorem dX10_fillAll_187 : decode cX10_fillAll 187 = .ok (.laload, 1) := by decide +kernel
theorem dX10_fillAll_188 : decode cX10_fillAll 188 = .ok (.lmul, 1) := by decide +kernel
theorem dX10_fillAll_189 : decode cX10_fillAll 189 = .ok (.goto 4, 3) := by decide +kernel
theorem dX10_fillAll_192 : decode cX10_fillAll 192 = .ok (.lconst 0, 1) := by decide +kernel
theorem dX10_fillAll_193 : decode cX10_fillAll 193 = .ok (.ladd, 1) := by decide +kernel
theorem dX10_fillAll_194 : decode cX10_fillAll 194 = .ok (.lstore 8, 2) := by decide +kernel
theorem dX10_fillAll_196 : decode cX10_fillAll 196 = .ok (.aload_n 0, 1) := by decide +kernel
theorem dX10_fillAll_197 : decode cX10_fillAll 197 = .ok (.iload_n 1, 1) := by decide +kernel
theorem dX10_fillAll_198 : decode cX10_fillAll 198 = .ok (.lload 8, 2) := by decide +kernel
theorem dX10_fillAll_200 : decode cX10_fillAll 200 = .ok (.l2i, 1) := by decide +kernel
theorem dX10_fillAll_201 : decode cX10_fillAll 201 = .ok (.invokevirtual 209, 3) := by decide +kernel
theorem dX10_fillAll_204 : decode cX10_fillAll 204 = .ok (.iinc 7 1, 3) := by decide +kernel
theorem dX10_fillAll_207 : decode cX10_fillAll 207 = .ok (.goto (-109), 3) := by decide +kernel
theorem dX10_fillAll_210 : decode cX10_fillAll 210 = .ok (.iinc 6 1, 3) := by decide +kernel
theorem dX10_fillAll_213 : decode cX10_fillAll 213 = .ok (.goto (-124), 3) := by decide +kernel
theorem dX10_fillAll_216 : decode cX10_fillAll 216 = .ok (.iinc 5 1, 3) := by decide +kernel
theorem dX10_fillAll_219 : decode cX10_fillAll 219 = .ok (.goto (-139), 3) := by decide +kernel
theorem dX10_fillAll_222 : decode cX10_fillAll 222 = .ok (.return_, 1) := by decide +kernel
def VX10_fillAll_193 (g : jg) (a0 : Nat) (x1 : Int32) (x2 : Int32) (x3 : Int32) (x4 : Int32) (x5 : Int32) (x6 : Int32) (x7 : Int32) (s0 : Int64) (s1 : Int64) (h : jh) (k n : Nat) (Q : jq) : Prop := (jt h a0 = 9) ∧ jM g mX10_fill [.inr (.inr (some a0)), .inl (x1), .inl (((s0) + (s1) : Int64).toInt32)] h 0 0 (jkv (fun (h3 : jh) => jG g mX10_fillAll 98 [(0, .inr (.inr (some (a0)))), (1, .inl (x1)), (2, .inl (x2)), (3, .inl (x3)), (4, .inl (x4)), (5, .inl (x5)), (6, .inl (x6)), (7, .inl ((x7) + 1))] [] h3 k n Q) (fun e h9 => Q (.inr e) h9))
set_option maxRecDepth 20000 in
theorem vX10_fillAll_193 {g : jg} {a0 : Nat} {x1 : Int32} {x2 : Int32} {x3 : Int32} {x4 : Int32} {x5 : Int32} {x6 : Int32} {x7 : Int32} {s0 : Int64} {s1 : Int64} {h : jh} {k n : Nat} {Q : jq} (hv : VX10_fillAll_193 g a0 x1 x2 x3 x4 x5 x6 x7 s0 s1 h k n Q) : jG g mX10_fillAll 193 [(0, .inr (.inr (some (a0)))), (1, .inl (x1)), (2, .inl (x2)), (3, .inl (x3)), (4, .inl (x4)), (5, .inl (x5)), (6, .inl (x6)), (7, .inl (x7))] [.inr (.inl (s1)), .inr (.inl (s0))] h k n Q := by
  unfold VX10_fillAll_193 at hv
  refine jg_ladd dX10_fillAll_193 ?_
  refine jg_lstore (lv' := [(8, .inr (.inl ((s0) + (s1)))), (0, .inr (.inr (some (a0)))), (1, .inl (x1)), (2, .inl (x2)), (3, .inl (x3)), (4, .inl (x4)), (5, .inl (x5)), (6, .inl (x6)), (7, .inl (x7))]) dX10_fillAll_194 (by decide) rfl ?_
  refine jg_aload_n dX10_fillAll_196 rfl (List.Mem.tail _ (List.Mem.head _)) ?_
  refine jg_iload_n dX10_fillAll_197 rfl (List.Mem.tail _ (List.Mem.tail _ (List.Mem.head _))) ?_
  refine jg_lload dX10_fillAll_198 (List.Mem.head _) ?_
  refine jg_l2i dX10_fillAll_200 ?_
  obtain ⟨f1, hv⟩ := hv
  refine jp_callV mX10_fill [.inl (x1), .inl (((s0) + (s1) : Int64).toInt32)] [] dX10_fillAll_201 rfl cl_RX10_209 ⟨⟨by decide, by decide⟩, by decide⟩ jsn f1 (Nat.zero_le _) (Nat.zero_le _) (jM.mono (jkv_k (fun h3 hv => ?_)) hv)
  refine jg_iinc (v := (x7) + 1) (lv' := [(7, .inl ((x7) + 1)), (8, .inr (.inl ((s0) + (s1)))), (0, .inr (.inr (some (a0)))), (1, .inl (x1)), (2, .inl (x2)), (3, .inl (x3)), (4, .inl (x4)), (5, .inl (x5)), (6, .inl (x6))]) dX10_fillAll_204 (List.Mem.tail _ (List.Mem.tail _ (List.Mem.tail _ (List.Mem.tail _ (List.Mem.tail _ (List.Mem.tail _ (List.Mem.tail _ (List.Mem.tail _ (List.Mem.head _))))))))) rfl (by decide) rfl ?_
  refine jg_goto (tgt := 98) dX10_fillAll_207 (by decide) ?_
  refine jG.sub (lv' := [(0, .inr (.inr (some (a0)))), (1, .inl (x1)), (2, .inl (x2)), (3, .inl (x3)), (4, .inl (x4)), (5, .inl (x5)), (6, .inl (x6)), (7, .inl ((x7) + 1))]) (by simp) ?_
  exact hv
def VX10_fillAll_165 (g : jg) (a0 : Nat) (x1 : Int32) (x2 : Int32) (x3 : Int32) (x4 : Int32) (x5 : Int32) (x6 : Int32) (x7 : Int32) (s0 : Int64) (s1 : Int64) (h : jh) (k n : Nat) (Q : jq) : Prop := (jt h a0 = 9) ∧ (((ji h 546 a0) ≤ (2) → VX10_fillAll_193 g (a0) (x1) (x2) (x3) (x4) (x5) (x6) (x7) ((s0) + (s1)) (0) h k n Q) ∧ (¬ (ji h 546 a0) ≤ (2) → (¬ (jr h 545 a0) = none) ∧ (jt h (jd (jr h 545 a0)) = 20) ∧ (vp_in (2) (jn h (jd (jr h 545 a0)))) ∧ (¬ (jr h 541 a0) = none) ∧ (jt h (jd (jr h 541 a0)) = 22) ∧ (vp_in (jI h (jd (jr h 545 a0)) (2 : Int32).toNatClampNeg) (jn h (jd (jr h 541 a0)))) ∧ VX10_fillAll_193 g (a0) (x1) (x2) (x3) (x4) (x5) (x6) (x7) ((s0) + (s1)) (((x7 : Int32).toInt64) * (jL h (jd (jr h 541 a0)) (jI h (jd (jr h 545 a0)) (2 : Int32).toNatClampNeg : Int32).toNatClampNeg)) h k n Q))
set_option maxRecDepth 20000 in
theorem vX10_fillAll_165 {g : jg} {a0 : Nat} {x1 : Int32} {x2 : Int32} {x3 : Int32} {x4 : Int32} {x5 : Int32} {x6 : Int32} {x7 : Int32} {s0 : Int64} {s1 : Int64} {h : jh} {k n : Nat} {Q : jq} (hv : VX10_fillAll_165 g a0 x1 x2 x3 x4 x5 x6 x7 s0 s1 h k n Q) : jG g mX10_fillAll 165 [(0, .inr (.inr (some (a0)))), (1, .inl (x1)), (2, .inl (x2)), (3, .inl (x3)), (4, .inl (x4)), (5, .inl (x5)), (6, .inl (x6)), (7, .inl (x7))] [.inr (.inl (s1)), .inr (.inl (s0))] h k n Q := by
  unfold VX10_fillAll_165 at hv
  refine jg_ladd dX10_fillAll_165 ?_
  refine jg_aload_n dX10_fillAll_166 rfl (List.Mem.head _) ?_
  obtain ⟨f4, hv⟩ := hv
  refine jg_geti dX10_fillAll_167 fl_RX10_203 rfl jsn f4 ?_
  refine jg_iconst (v := 2) dX10_fillAll_170 (by decide) ?_
  refine jg_icmp_le (tgt := 192) dX10_fillAll_171 (by decide) (fun c5 => ?_) (fun c5 => ?_)
  · replace hv := hv.1 c5
    refine jg_lconst (v := 0) dX10_fillAll_192 (by decide) ?_
    exact vX10_fillAll_193 hv
  · replace hv := hv.2 c5
    refine jg_iload dX10_fillAll_174 (List.Mem.tail _ (List.Mem.tail _ (List.Mem.tail _ (List.Mem.tail _ (List.Mem.tail _ (List.Mem.tail _ (List.Mem.tail _ (List.Mem.head _)))))))) ?_
    refine jg_i2l dX10_fillAll_176 ?_
    refine jg_aload_n dX10_fillAll_177 rfl (List.Mem.head _) ?_
    refine jg_getr dX10_fillAll_178 fl_RX10_83 rfl jsn f4 ?_
    refine jg_aload_n dX10_fillAll_181 rfl (List.Mem.head _) ?_
    refine jg_getr dX10_fillAll_182 fl_RX10_95 rfl jsn f4 ?_
    refine jg_iconst (v := 2) dX10_fillAll_185 (by decide) ?_
    obtain ⟨f6, hv⟩ := hv
    obtain ⟨f7, hv⟩ := hv
    obtain ⟨f8, hv⟩ := hv
    refine jg_iald dX10_fillAll_186 f6 f7 f8 ?_
    obtain ⟨f9, hv⟩ := hv
    obtain ⟨f10, hv⟩ := hv
    obtain ⟨f11, hv⟩ := hv
    refine jg_lald dX10_fillAll_187 f9 f10 f11 ?_
    refine jg_lmul dX10_fillAll_188 ?_
    refine jg_goto (tgt := 193) dX10_fillAll_189 (by decide) ?_
    exact vX10_fillAll_193 hv
def VX10_fillAll_137 (g : jg) (a0 : Nat) (x1 : Int32) (x2 : Int32) (x3 : Int32) (x4 : Int32) (x5 : Int32) (x6 : Int32) (x7 : Int32) (s0 : Int64) (s1 : Int64) (h : jh) (k n : Nat) (Q : jq) : Prop := (jt h a0 = 9) ∧ (((ji h 546 a0) ≤ (1) → VX10_fillAll_165 g (a0) (x1) (x2) (x3) (x4) (x5) (x6) (x7) ((s0) + (s1)) (0) h k n Q) ∧ (¬ (ji h 546 a0) ≤ (1) → (¬ (jr h 545 a0) = none) ∧ (jt h (jd (jr h 545 a0)) = 20) ∧ (vp_in (1) (jn h (jd (jr h 545 a0)))) ∧ (¬ (jr h 541 a0) = none) ∧ (jt h (jd (jr h 541 a0)) = 22) ∧ (vp_in (jI h (jd (jr h 545 a0)) (1 : Int32).toNatClampNeg) (jn h (jd (jr h 541 a0)))) ∧ VX10_fillAll_165 g (a0) (x1) (x2) (x3) (x4) (x5) (x6) (x7) ((s0) + (s1)) (((x6 : Int32).toInt64) * (jL h (jd (jr h 541 a0)) (jI h (jd (jr h 545 a0)) (1 : Int32).toNatClampNeg : Int32).toNatClampNeg)) h k n Q))
set_option maxRecDepth 20000 in
theorem vX10_fillAll_137 {g : jg} {a0 : Nat} {x1 : Int32} {x2 : Int32} {x3 : Int32} {x4 : Int32} {x5 : Int32} {x6 : Int32} {x7 : Int32} {s0 : Int64} {s1 : Int64} {h : jh} {k n : Nat} {Q : jq} (hv : VX10_fillAll_137 g a0 x1 x2 x3 x4 x5 x6 x7 s0 s1 h k n Q) : jG g mX10_fillAll 137 [(0, .inr (.inr (some (a0)))), (1, .inl (x1)), (2, .inl (x2)), (3, .inl (x3)), (4, .inl (x4)), (5, .inl (x5)), (6, .inl (x6)), (7, .inl (x7))] [.inr (.inl (s1)), .inr (.inl (s0))] h k n Q := by
  unfold VX10_fillAll_137 at hv
  refine jg_ladd dX10_fillAll_137 ?_
  refine jg_aload_n dX10_fillAll_138 rfl (List.Mem.head _) ?_
  obtain ⟨f12, hv⟩ := hv
  refine jg_geti dX10_fillAll_139 fl_RX10_203 rfl jsn f12 ?_
  refine jg_iconst (v := 1) dX10_fillAll_142 (by decide) ?_
  refine jg_icmp_le (tgt := 164) dX10_fillAll_143 (by decide) (fun c13 => ?_) (fun c13 => ?_)
  · replace hv := hv.1 c13
    refine jg_lconst (v := 0) dX10_fillAll_164 (by decide) ?_
    exact vX10_fillAll_165 hv
  · replace hv := hv.2 c13
    refine jg_iload dX10_fillAll_146 (List.Mem.tail _ (List.Mem.tail _ (List.Mem.tail _ (List.Mem.tail _ (List.Mem.tail _ (List.Mem.tail _ (List.Mem.head _))))))) ?_
    refine jg_i2l dX10_fillAll_148 ?_
    refine jg_aload_n dX10_fillAll_149 rfl (List.Mem.head _) ?_
    refine jg_getr dX10_fillAll_150 fl_RX10_83 rfl jsn f12 ?_
    refine jg_aload_n dX10_fillAll_153 rfl (List.Mem.head _) ?_
    refine jg_getr dX10_fillAll_154 fl_RX10_95 rfl jsn f12 ?_
    refine jg_iconst (v := 1) dX10_fillAll_157 (by decide) ?_
    obtain ⟨f14, hv⟩ := hv
    obtain ⟨f15, hv⟩ := hv
    obtain ⟨f16, hv⟩ := hv
    refine jg_iald dX10_fillAll_158 f14 f15 f16 ?_
    obtain ⟨f17, hv⟩ := hv
    obtain ⟨f18, hv⟩ := hv
    obtain ⟨f19, hv⟩ := hv
    refine jg_lald dX10_fillAll_159 f17 f18 f19 ?_
    refine jg_lmul dX10_fillAll_160 ?_
    refine jg_goto (tgt := 165) dX10_fillAll_161 (by decide) ?_
    exact vX10_fillAll_165 hv
def VX10_fillAll_98 (g : jg) (a0 : Nat) (x1 : Int32) (x2 : Int32) (x3 : Int32) (x4 : Int32) (x5 : Int32) (x6 : Int32) (x7 : Int32) (h : jh) (k n : Nat) (Q : jq) : Prop := (((x4) ≤ (x7) → jG g mX10_fillAll 89 [(0, .inr (.inr (some (a0)))), (1, .inl (x1)), (2, .inl (x2)), (3, .inl (x3)), (4, .inl (x4)), (5, .inl (x5)), (6, .inl ((x6) + 1))] [] h k n Q) ∧ (¬ (x4) ≤ (x7) → (jt h a0 = 9) ∧ (¬ (jr h 539 a0) = none) ∧ (jt h (jd (jr h 539 a0)) = 22) ∧ (vp_in (x1) (jn h (jd (jr h 539 a0)))) ∧ (((ji h 546 a0) ≤ 0 → VX10_fillAll_137 g (a0) (x1) (x2) (x3) (x4) (x5) (x6) (x7) (jL h (jd (jr h 539 a0)) (x1 : Int32).toNatClampNeg) (0) h k n Q) ∧ (¬ (ji h 546 a0) ≤ 0 → (¬ (jr h 545 a0) = none) ∧ (jt h (jd (jr h 545 a0)) = 20) ∧ (vp_in (0) (jn h (jd (jr h 545 a0)))) ∧ (¬ (jr h 541 a0) = none) ∧ (jt h (jd (jr h 541 a0)) = 22) ∧ (vp_in (jI h (jd (jr h 545 a0)) (0 : Int32).toNatClampNeg) (jn h (jd (jr h 541 a0)))) ∧ VX10_fillAll_137 g (a0) (x1) (x2) (x3) (x4) (x5) (x6) (x7) (jL h (jd (jr h 539 a0)) (x1 : Int32).toNatClampNeg) (((x5 : Int32).toInt64) * (jL h (jd (jr h 541 a0)) (jI h (jd (jr h 545 a0)) (0 : Int32).toNatClampNeg : Int32).toNatClampNeg)) h k n Q))))
set_option maxRecDepth 20000 in
theorem vX10_fillAll_98 {g : jg} {a0 : Nat} {x1 : Int32} {x2 : Int32} {x3 : Int32} {x4 : Int32} {x5 : Int32} {x6 : Int32} {x7 : Int32} {h : jh} {k n : Nat} {Q : jq} (hv : VX10_fillAll_98 g a0 x1 x2 x3 x4 x5 x6 x7 h k n Q) : jG g mX10_fillAll 98 [(0, .inr (.inr (some (a0)))), (1, .inl (x1)), (2, .inl (x2)), (3, .inl (x3)), (4, .inl (x4)), (5, .inl (x5)), (6, .inl (x6)), (7, .inl (x7))] [] h k n Q := by
  unfold VX10_fillAll_98 at hv
  refine jg_iload dX10_fillAll_98 (List.Mem.tail _ (List.Mem.tail _ (List.Mem.tail _ (List.Mem.tail _ (List.Mem.tail _ (List.Mem.tail _ (List.Mem.tail _ (List.Mem.head _)))))))) ?_
  refine jg_iload dX10_fillAll_100 (List.Mem.tail _ (List.Mem.tail _ (List.Mem.tail _ (List.Mem.tail _ (List.Mem.head _))))) ?_
  refine jg_icmp_ge (tgt := 210) dX10_fillAll_102 (by decide) (fun c20 => ?_) (fun c20 => ?_)
  · replace hv := hv.1 c20
    refine jg_iinc (v := (x6) + 1) (lv' := [(6, .inl ((x6) + 1)), (0, .inr (.inr (some (a0)))), (1, .inl (x1)), (2, .inl (x2)), (3, .inl (x3)), (4, .inl (x4)), (5, .inl (x5)), (7, .inl (x7))]) dX10_fillAll_210 (List.Mem.tail _ (List.Mem.tail _ (List.Mem.tail _ (List.Mem.tail _ (List.Mem.tail _ (List.Mem.tail _ (List.Mem.head _))))))) rfl (by decide) rfl ?_
    refine jg_goto (tgt := 89) dX10_fillAll_213 (by decide) ?_
    refine jG.sub (lv' := [(0, .inr (.inr (some (a0)))), (1, .inl (x1)), (2, .inl (x2)), (3, .inl (x3)), (4, .inl (x4)), (5, .inl (x5)), (6, .inl ((x6) + 1))]) (by simp) ?_
    exact hv
  · replace hv := hv.2 c20
    refine jg_aload_n dX10_fillAll_105 rfl (List.Mem.head _) ?_
    obtain ⟨f21, hv⟩ := hv
    refine jg_getr dX10_fillAll_106 fl_RX10_76 rfl jsn f21 ?_
    refine jg_iload_n dX10_fillAll_109 rfl (List.Mem.tail _ (List.Mem.head _)) ?_
    obtain ⟨f22, hv⟩ := hv
    obtain ⟨f23, hv⟩ := hv
    obtain ⟨f24, hv⟩ := hv
    refine jg_lald dX10_fillAll_110 f22 f23 f24 ?_
    refine jg_aload_n dX10_fillAll_111 rfl (List.Mem.head _) ?_
    refine jg_geti dX10_fillAll_112 fl_RX10_203 rfl jsn f21 ?_
    refine jg_if_le (tgt := 136) dX10_fillAll_115 (by decide) (fun c25 => ?_) (fun c25 => ?_)
    · replace hv := hv.1 c25
      refine jg_lconst (v := 0) dX10_fillAll_136 (by decide) ?_
      exact vX10_fillAll_137 hv
    · replace hv := hv.2 c25
      refine jg_iload dX10_fillAll_118 (List.Mem.tail _ (List.Mem.tail _ (List.Mem.tail _ (List.Mem.tail _ (List.Mem.tail _ (List.Mem.head _)))))) ?_
      refine jg_i2l dX10_fillAll_120 ?_
      refine jg_aload_n dX10_fillAll_121 rfl (List.Mem.head _) ?_
      refine jg_getr dX10_fillAll_122 fl_RX10_83 rfl jsn f21 ?_
      refine jg_aload_n dX10_fillAll_125 rfl (List.Mem.head _) ?_
      refine jg_getr dX10_fillAll_126 fl_RX10_95 rfl jsn f21 ?_
      refine jg_iconst (v := 0) dX10_fillAll_129 (by decide) ?_
      obtain ⟨f26, hv⟩ := hv
      obtain ⟨f27, hv⟩ := hv
      obtain ⟨f28, hv⟩ := hv
      refine jg_iald dX10_fillAll_130 f26 f27 f28 ?_
      obtain ⟨f29, hv⟩ := hv
      obtain ⟨f30, hv⟩ := hv
      obtain ⟨f31, hv⟩ := hv
      refine jg_lald dX10_fillAll_131 f29 f30 f31 ?_
      refine jg_lmul dX10_fillAll_132 ?_
      refine jg_goto (tgt := 137) dX10_fillAll_133 (by decide) ?_
      exact vX10_fillAll_137 hv
def VX10_fillAll_89 (g : jg) (a0 : Nat) (x1 : Int32) (x2 : Int32) (x3 : Int32) (x4 : Int32) (x5 : Int32) (x6 : Int32) (h : jh) (k n : Nat) (Q : jq) : Prop := (((x3) ≤ (x6) → jG g mX10_fillAll 80 [(0, .inr (.inr (some (a0)))), (1, .inl (x1)), (2, .inl (x2)), (3, .inl (x3)), (4, .inl (x4)), (5, .inl ((x5) + 1))] [] h k n Q) ∧ (¬ (x3) ≤ (x6) → jG g mX10_fillAll 98 [(0, .inr (.inr (some (a0)))), (1, .inl (x1)), (2, .inl (x2)), (3, .inl (x3)), (4, .inl (x4)), (5, .inl (x5)), (6, .inl (x6)), (7, .inl (0))] [] h k n Q))
set_option maxRecDepth 20000 in
theorem vX10_fillAll_89 {g : jg} {a0 : Nat} {x1 : Int32} {x2 : Int32} {x3 : Int32} {x4 : Int32} {x5 : Int32} {x6 : Int32} {h : jh} {k n : Nat} {Q : jq} (hv : VX10_fillAll_89 g a0 x1 x2 x3 x4 x5 x6 h k n Q) : jG g mX10_fillAll 89 [(0, .inr (.inr (some (a0)))), (1, .inl (x1)), (2, .inl (x2)), (3, .inl (x3)), (4, .inl (x4)), (5, .inl (x5)), (6, .inl (x6))] [] h k n Q := by
  unfold VX10_fillAll_89 at hv
  refine jg_iload dX10_fillAll_89 (List.Mem.tail _ (List.Mem.tail _ (List.Mem.tail _ (List.Mem.tail _ (List.Mem.tail _ (List.Mem.tail _ (List.Mem.head _))))))) ?_
  refine jg_iload_n dX10_fillAll_91 rfl (List.Mem.tail _ (List.Mem.tail _ (List.Mem.tail _ (List.Mem.head _)))) ?_
  refine jg_icmp_ge (tgt := 216) dX10_fillAll_92 (by decide) (fun c32 => ?_) (fun c32 => ?_)
  · replace hv := hv.1 c32
    refine jg_iinc (v := (x5) + 1) (lv' := [(5, .inl ((x5) + 1)), (0, .inr (.inr (some (a0)))), (1, .inl (x1)), (2, .inl (x2)), (3, .inl (x3)), (4, .inl (x4)), (6, .inl (x6))]) dX10_fillAll_216 (List.Mem.tail _ (List.Mem.tail _ (List.Mem.tail _ (List.Mem.tail _ (List.Mem.tail _ (List.Mem.head _)))))) rfl (by decide) rfl ?_
    refine jg_goto (tgt := 80) dX10_fillAll_219 (by decide) ?_
    refine jG.sub (lv' := [(0, .inr (.inr (some (a0)))), (1, .inl (x1)), (2, .inl (x2)), (3, .inl (x3)), (4, .inl (x4)), (5, .inl ((x5) + 1))]) (by simp) ?_
    exact hv
  · replace hv := hv.2 c32
    refine jg_iconst (v := 0) dX10_fillAll_95 (by decide) ?_
    refine jg_istore (lv' := [(7, .inl (0)), (0, .inr (.inr (some (a0)))), (1, .inl (x1)), (2, .inl (x2)), (3, .inl (x3)), (4, .inl (x4)), (5, .inl (x5)), (6, .inl (x6))]) dX10_fillAll_96 (by decide) rfl ?_
    refine jG.sub (lv' := [(0, .inr (.inr (some (a0)))), (1, .inl (x1)), (2, .inl (x2)), (3, .inl (x3)), (4, .inl (x4)), (5, .inl (x5)), (6, .inl (x6)), (7, .inl (0))]) (by simp) ?_
    exact hv
def VX10_fillAll_80 (g : jg) (a0 : Nat) (x1 : Int32) (x2 : Int32) (x3 : Int32) (x4 : Int32) (x5 : Int32) (h : jh) (k n : Nat) (Q : jq) : Prop := (((x2) ≤ (x5) → Q (.inl none) h) ∧ (¬ (x2) ≤ (x5) → jG g mX10_fillAll 89 [(0, .inr (.inr (some (a0)))), (1, .inl (x1)), (2, .inl (x2)), (3, .inl (x3)), (4, .inl (x4)), (5, .inl (x5)), (6, .inl (0))] [] h k n Q))
set_option maxRecDepth 20000 in
theorem vX10_fillAll_80 {g : jg} {a0 : Nat} {x1 : Int32} {x2 : Int32} {x3 : Int32} {x4 : Int32} {x5 : Int32} {h : jh} {k n : Nat} {Q : jq} (hv : VX10_fillAll_80 g a0 x1 x2 x3 x4 x5 h k n Q) : jG g mX10_fillAll 80 [(0, .inr (.inr (some (a0)))), (1, .inl (x1)), (2, .inl (x2)), (3, .inl (x3)), (4, .inl (x4)), (5, .inl (x5))] [] h k n Q := by
  unfold VX10_fillAll_80 at hv
  refine jg_iload dX10_fillAll_80 (List.Mem.tail _ (List.Mem.tail _ (List.Mem.tail _ (List.Mem.tail _ (List.Mem.tail _ (List.Mem.head _)))))) ?_
  refine jg_iload_n dX10_fillAll_82 rfl (List.Mem.tail _ (List.Mem.tail _ (List.Mem.head _))) ?_
  refine jg_icmp_ge (tgt := 222) dX10_fillAll_83 (by decide) (fun c33 => ?_) (fun c33 => ?_)
  · replace hv := hv.1 c33
    exact jg_vret dX10_fillAll_222 rfl hv
  · replace hv := hv.2 c33
    refine jg_iconst (v := 0) dX10_fillAll_86 (by decide) ?_
    refine jg_istore (lv' := [(6, .inl (0)), (0, .inr (.inr (some (a0)))), (1, .inl (x1)), (2, .inl (x2)), (3, .inl (x3)), (4, .inl (x4)), (5, .inl (x5))]) dX10_fillAll_87 (by decide) rfl ?_
    refine jG.sub (lv' := [(0, .inr (.inr (some (a0)))), (1, .inl (x1)), (2, .inl (x2)), (3, .inl (x3)), (4, .inl (x4)), (5, .inl (x5)), (6, .inl (0))]) (by simp) ?_
    exact hv
def VX10_fillAll_51 (g : jg) (a0 : Nat) (x1 : Int32) (x2 : Int32) (s0 : Int32) (h : jh) (k n : Nat) (Q : jq) : Prop := (jt h a0 = 9) ∧ (((ji h 546 a0) ≤ (2) → jG g mX10_fillAll 80 [(0, .inr (.inr (some (a0)))), (1, .inl (x1)), (2, .inl (x2)), (3, .inl (s0)), (4, .inl (1)), (5, .inl (0))] [] h k n Q) ∧ (¬ (ji h 546 a0) ≤ (2) → (¬ (jr h 545 a0) = none) ∧ (jt h (jd (jr h 545 a0)) = 20) ∧ (vp_in (2) (jn h (jd (jr h 545 a0)))) ∧ (¬ (jr h 521 a0) = none) ∧ (jt h (jd (jr h 521 a0)) = 20) ∧ (vp_in (jI h (jd (jr h 545 a0)) (2 : Int32).toNatClampNeg) (jn h (jd (jr h 521 a0)))) ∧ jG g mX10_fillAll 80 [(0, .inr (.inr (some (a0)))), (1, .inl (x1)), (2, .inl (x2)), (3, .inl (s0)), (4, .inl (jI h (jd (jr h 521 a0)) (jI h (jd (jr h 545 a0)) (2 : Int32).toNatClampNeg : Int32).toNatClampNeg)), (5, .inl (0))] [] h k n Q))
set_option maxRecDepth 20000 in
theorem vX10_fillAll_51 {g : jg} {a0 : Nat} {x1 : Int32} {x2 : Int32} {s0 : Int32} {h : jh} {k n : Nat} {Q : jq} (hv : VX10_fillAll_51 g a0 x1 x2 s0 h k n Q) : jG g mX10_fillAll 51 [(0, .inr (.inr (some (a0)))), (1, .inl (x1)), (2, .inl (x2))] [.inl (s0)] h k n Q := by
  unfold VX10_fillAll_51 at hv
  refine jg_istore_n (lv' := [(3, .inl (s0)), (0, .inr (.inr (some (a0)))), (1, .inl (x1)), (2, .inl (x2))]) dX10_fillAll_51 rfl (by decide) rfl ?_
  refine jg_aload_n dX10_fillAll_52 rfl (List.Mem.tail _ (List.Mem.head _)) ?_
  obtain ⟨f34, hv⟩ := hv
  refine jg_geti dX10_fillAll_53 fl_RX10_203 rfl jsn f34 ?_
  refine jg_iconst (v := 2) dX10_fillAll_56 (by decide) ?_
  refine jg_icmp_le (tgt := 74) dX10_fillAll_57 (by decide) (fun c35 => ?_) (fun c35 => ?_)
  · replace hv := hv.1 c35
    refine jg_iconst (v := 1) dX10_fillAll_74 (by decide) ?_
    refine jg_istore (lv' := [(4, .inl (1)), (3, .inl (s0)), (0, .inr (.inr (some (a0)))), (1, .inl (x1)), (2, .inl (x2))]) dX10_fillAll_75 (by decide) rfl ?_
    refine jg_iconst (v := 0) dX10_fillAll_77 (by decide) ?_
    refine jg_istore (lv' := [(5, .inl (0)), (4, .inl (1)), (3, .inl (s0)), (0, .inr (.inr (some (a0)))), (1, .inl (x1)), (2, .inl (x2))]) dX10_fillAll_78 (by decide) rfl ?_
    refine jG.sub (lv' := [(0, .inr (.inr (some (a0)))), (1, .inl (x1)), (2, .inl (x2)), (3, .inl (s0)), (4, .inl (1)), (5, .inl (0))]) (by simp) ?_
    exact hv
  · replace hv := hv.2 c35
    refine jg_aload_n dX10_fillAll_60 rfl (List.Mem.tail _ (List.Mem.head _)) ?_
    refine jg_getr dX10_fillAll_61 fl_RX10_31 rfl jsn f34 ?_
    refine jg_aload_n dX10_fillAll_64 rfl (List.Mem.tail _ (List.Mem.head _)) ?_
    refine jg_getr dX10_fillAll_65 fl_RX10_95 rfl jsn f34 ?_
    refine jg_iconst (v := 2) dX10_fillAll_68 (by decide) ?_
    obtain ⟨f36, hv⟩ := hv
    obtain ⟨f37, hv⟩ := hv
    obtain ⟨f38, hv⟩ := hv
    refine jg_iald dX10_fillAll_69 f36 f37 f38 ?_
    obtain ⟨f39, hv⟩ := hv
    obtain ⟨f40, hv⟩ := hv
    obtain ⟨f41, hv⟩ := hv
    refine jg_iald dX10_fillAll_70 f39 f40 f41 ?_
    refine jg_goto (tgt := 75) dX10_fillAll_71 (by decide) ?_
    refine jg_istore (lv' := [(4, .inl (jI h (jd (jr h 521 a0)) (jI h (jd (jr h 545 a0)) (2 : Int32).toNatClampNeg : Int32).toNatClampNeg)), (3, .inl (s0)), (0, .inr (.inr (some (a0)))), (1, .inl (x1)), (2, .inl (x2))]) dX10_fillAll_75 (by decide) rfl ?_
    refine jg_iconst (v := 0) dX10_fillAll_77 (by decide) ?_
    refine jg_istore (lv' := [(5, .inl (0)), (4, .inl (jI h (jd (jr h 521 a0)) (jI h (jd (jr h 545 a0)) (2 : Int32).toNatClampNeg : Int32).toNatClampNeg)), (3, .inl (s0)), (0, .inr (.inr (some (a0)))), (1, .inl (x1)), (2, .inl (x2))]) dX10_fillAll_78 (by decide) rfl ?_
    refine jG.sub (lv' := [(0, .inr (.inr (some (a0)))), (1, .inl (x1)), (2, .inl (x2)), (3, .inl (s0)), (4, .inl (jI h (jd (jr h 521 a0)) (jI h (jd (jr h 545 a0)) (2 : Int32).toNatClampNeg : Int32).toNatClampNeg)), (5, .inl (0))]) (by simp) ?_
    exact hv
def VX10_fillAll_27 (g : jg) (a0 : Nat) (x1 : Int32) (s0 : Int32) (h : jh) (k n : Nat) (Q : jq) : Prop := (jt h a0 = 9) ∧ (((ji h 546 a0) ≤ (1) → VX10_fillAll_51 g (a0) (x1) (s0) (1) h k n Q) ∧ (¬ (ji h 546 a0) ≤ (1) → (¬ (jr h 545 a0) = none) ∧ (jt h (jd (jr h 545 a0)) = 20) ∧ (vp_in (1) (jn h (jd (jr h 545 a0)))) ∧ (¬ (jr h 521 a0) = none) ∧ (jt h (jd (jr h 521 a0)) = 20) ∧ (vp_in (jI h (jd (jr h 545 a0)) (1 : Int32).toNatClampNeg) (jn h (jd (jr h 521 a0)))) ∧ VX10_fillAll_51 g (a0) (x1) (s0) (jI h (jd (jr h 521 a0)) (jI h (jd (jr h 545 a0)) (1 : Int32).toNatClampNeg : Int32).toNatClampNeg) h k n Q))
set_option maxRecDepth 20000 in
theorem vX10_fillAll_27 {g : jg} {a0 : Nat} {x1 : Int32} {s0 : Int32} {h : jh} {k n : Nat} {Q : jq} (hv : VX10_fillAll_27 g a0 x1 s0 h k n Q) : jG g mX10_fillAll 27 [(0, .inr (.inr (some (a0)))), (1, .inl (x1))] [.inl (s0)] h k n Q := by
  unfold VX10_fillAll_27 at hv
  refine jg_istore_n (lv' := [(2, .inl (s0)), (0, .inr (.inr (some (a0)))), (1, .inl (x1))]) dX10_fillAll_27 rfl (by decide) rfl ?_
  refine jg_aload_n dX10_fillAll_28 rfl (List.Mem.tail _ (List.Mem.head _)) ?_
  obtain ⟨f42, hv⟩ := hv
  refine jg_geti dX10_fillAll_29 fl_RX10_203 rfl jsn f42 ?_
  refine jg_iconst (v := 1) dX10_fillAll_32 (by decide) ?_
  refine jg_icmp_le (tgt := 50) dX10_fillAll_33 (by decide) (fun c43 => ?_) (fun c43 => ?_)
  · replace hv := hv.1 c43
    refine jg_iconst (v := 1) dX10_fillAll_50 (by decide) ?_
    refine jG.sub (lv' := [(0, .inr (.inr (some (a0)))), (1, .inl (x1)), (2, .inl (s0))]) (by simp) ?_
    exact vX10_fillAll_51 hv
  · replace hv := hv.2 c43
    refine jg_aload_n dX10_fillAll_36 rfl (List.Mem.tail _ (List.Mem.head _)) ?_
    refine jg_getr dX10_fillAll_37 fl_RX10_31 rfl jsn f42 ?_
    refine jg_aload_n dX10_fillAll_40 rfl (List.Mem.tail _ (List.Mem.head _)) ?_
    refine jg_getr dX10_fillAll_41 fl_RX10_95 rfl jsn f42 ?_
    refine jg_iconst (v := 1) dX10_fillAll_44 (by decide) ?_
    obtain ⟨f44, hv⟩ := hv
    obtain ⟨f45, hv⟩ := hv
    obtain ⟨f46, hv⟩ := hv
    refine jg_iald dX10_fillAll_45 f44 f45 f46 ?_
    obtain ⟨f47, hv⟩ := hv
    obtain ⟨f48, hv⟩ := hv
    obtain ⟨f49, hv⟩ := hv
    refine jg_iald dX10_fillAll_46 f47 f48 f49 ?_
    refine jg_goto (tgt := 51) dX10_fillAll_47 (by decide) ?_
    refine jG.sub (lv' := [(0, .inr (.inr (some (a0)))), (1, .inl (x1)), (2, .inl (s0))]) (by simp) ?_
    exact vX10_fillAll_51 hv
def VX10_fillAll_0 (g : jg) (a0 : Nat) (x1 : Int32) (h : jh) (k n : Nat) (Q : jq) : Prop := (jt h a0 = 9) ∧ jM g mX10_findAround [.inr (.inr (some a0)), .inl (x1)] h 0 0 (jkv (fun (h52 : jh) => (jt h52 a0 = 9) ∧ (((ji h52 546 a0) ≤ 0 → VX10_fillAll_27 g (a0) (x1) (1) h52 k n Q) ∧ (¬ (ji h52 546 a0) ≤ 0 → (¬ (jr h52 545 a0) = none) ∧ (jt h52 (jd (jr h52 545 a0)) = 20) ∧ (vp_in (0) (jn h52 (jd (jr h52 545 a0)))) ∧ (¬ (jr h52 521 a0) = none) ∧ (jt h52 (jd (jr h52 521 a0)) = 20) ∧ (vp_in (jI h52 (jd (jr h52 545 a0)) (0 : Int32).toNatClampNeg) (jn h52 (jd (jr h52 521 a0)))) ∧ VX10_fillAll_27 g (a0) (x1) (jI h52 (jd (jr h52 521 a0)) (jI h52 (jd (jr h52 545 a0)) (0 : Int32).toNatClampNeg : Int32).toNatClampNeg) h52 k n Q))) (fun e h9 => Q (.inr e) h9))
set_option maxRecDepth 20000 in
theorem vX10_fillAll_0 {g : jg} {a0 : Nat} {x1 : Int32} {h : jh} {k n : Nat} {Q : jq} (hv : VX10_fillAll_0 g a0 x1 h k n Q) : jG g mX10_fillAll 0 [(0, .inr (.inr (some (a0)))), (1, .inl (x1))] [] h k n Q := by
  unfold VX10_fillAll_0 at hv
  refine jg_aload_n dX10_fillAll_0 rfl (List.Mem.head _) ?_
  refine jg_iload_n dX10_fillAll_1 rfl (List.Mem.tail _ (List.Mem.head _)) ?_
  obtain ⟨f50, hv⟩ := hv
  refine jp_callV mX10_findAround [.inl (x1)] [] dX10_fillAll_2 rfl cl_RX10_206 ⟨⟨by decide, by decide⟩, by decide⟩ jsn f50 (Nat.zero_le _) (Nat.zero_le _) (jM.mono (jkv_k (fun h52 hv => ?_)) hv)
  refine jg_aload_n dX10_fillAll_5 rfl (List.Mem.head _) ?_
  obtain ⟨f53, hv⟩ := hv
  refine jg_geti dX10_fillAll_6 fl_RX10_203 rfl jsn f53 ?_
  refine jg_if_le (tgt := 26) dX10_fillAll_9 (by decide) (fun c54 => ?_) (fun c54 => ?_)
  · replace hv := hv.1 c54
    refine jg_iconst (v := 1) dX10_fillAll_26 (by decide) ?_
    exact vX10_fillAll_27 hv
  · replace hv := hv.2 c54
    refine jg_aload_n dX10_fillAll_12 rfl (List.Mem.head _) ?_
    refine jg_getr dX10_fillAll_13 fl_RX10_31 rfl jsn f53 ?_
    refine jg_aload_n dX10_fillAll_16 rfl (List.Mem.head _) ?_
    refine jg_getr dX10_fillAll_17 fl_RX10_95 rfl jsn f53 ?_
    refine jg_iconst (v := 0) dX10_fillAll_20 (by decide) ?_
    obtain ⟨f55, hv⟩ := hv
    obtain ⟨f56, hv⟩ := hv
    obtain ⟨f57, hv⟩ := hv
    refine jg_iald dX10_fillAll_21 f55 f56 f57 ?_
    obtain ⟨f58, hv⟩ := hv
    obtain ⟨f59, hv⟩ := hv
    obtain ⟨f60, hv⟩ := hv
    refine jg_iald dX10_fillAll_22 f58 f59 f60 ?_
    refine jg_goto (tgt := 27) dX10_fillAll_23 (by decide) ?_
    exact vX10_fillAll_27 hv
theorem eX10_fillAll {g : jg} {a0 : Nat} {x1 : Int32} {h : jh} {mc ms : Nat} {Q : jq} (hv : VX10_fillAll_0 g a0 x1 h mc ms Q) : jM g mX10_fillAll [.inr (.inr (some (a0))), .inl (x1)] h mc ms Q := jM.of (by decide) (Nat.le_of_ble_eq_true rfl) (lv := [(0, .inr (.inr (some (a0)))), (1, .inl (x1))]) rfl (vX10_fillAll_0 hv)
