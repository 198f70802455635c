theorem tl_RX2_91_93 : jtw RX2 91 93 95 2 ["java/lang/RuntimeException", "java/lang/Exception"] "a half byte is no digit" := by
  refine ⟨by decide +kernel, by decide +kernel, jtb_at 825 (by decide +kernel) rfl, jtb_at 73 (by decide +kernel) rfl, List.mem_of_getElem? (i := 826) (by decide +kernel), ?_, by decide +kernel, by decide +kernel⟩
  have h : ∀ w ∈ (vx_atS RX2 95 (jxn 2) ["java/lang/RuntimeException", "java/lang/Exception"]).filter goodWord, w ∈ jtb := jtb_r [67, 710, 719, 723, 726, 728, 711, 712, 80, 81, 713, 718, 724, 747, 700, 748, 702, 749, 704, 714, 716, 706, 743, 744, 746, 706, 806, 807, 808, 737, 737, 738, 739, 740, 740, 741, 742, 743, 827, 796, 798, 722, 799, 800, 801, 802, 709, 708, 803] (by decide +kernel) (by decide +kernel)
  have h2 : ∀ w ∈ (vx_atS RX2 95 (jxn 2) ["java/lang/RuntimeException", "java/lang/Exception"]).filter (fun w => !goodWord w), w = Cond.castable (jxn 2) (jxn 2) ∨ ∃ x ∈ jdcl, w = Cond.declares x := by decide +kernel
  intro w hw
  by_cases hg : goodWord w = true
  · exact Or.inl (h w (List.mem_filter.mpr ⟨hw, hg⟩))
  · exact Or.inr (h2 w (List.mem_filter.mpr ⟨hw, by simp [hg]⟩))
theorem tl_RX2_91_98 : jtw RX2 91 98 95 2 ["java/lang/RuntimeException", "java/lang/Exception"] "the last half byte is no sign" := by
  refine ⟨by decide +kernel, by decide +kernel, jtb_at 825 (by decide +kernel) rfl, jtb_at 73 (by decide +kernel) rfl, List.mem_of_getElem? (i := 828) (by decide +kernel), ?_, by decide +kernel, by decide +kernel⟩
  have h : ∀ w ∈ (vx_atS RX2 95 (jxn 2) ["java/lang/RuntimeException", "java/lang/Exception"]).filter goodWord, w ∈ jtb := jtb_r [67, 710, 719, 723, 726, 728, 711, 712, 80, 81, 713, 718, 724, 747, 700, 748, 702, 749, 704, 714, 716, 706, 743, 744, 746, 706, 806, 807, 808, 737, 737, 738, 739, 740, 740, 741, 742, 743, 827, 796, 798, 722, 799, 800, 801, 802, 709, 708, 803] (by decide +kernel) (by decide +kernel)
  have h2 : ∀ w ∈ (vx_atS RX2 95 (jxn 2) ["java/lang/RuntimeException", "java/lang/Exception"]).filter (fun w => !goodWord w), w = Cond.castable (jxn 2) (jxn 2) ∨ ∃ x ∈ jdcl, w = Cond.declares x := by decide +kernel
  intro w hw
  by_cases hg : goodWord w = true
  · exact Or.inl (h w (List.mem_filter.mpr ⟨hw, hg⟩))
  · exact Or.inr (h2 w (List.mem_filter.mpr ⟨hw, by simp [hg]⟩))
theorem tl_RX2_91_104 : jtw RX2 91 104 95 2 ["java/lang/RuntimeException", "java/lang/Exception"] "a byte is no digit" := by
  refine ⟨by decide +kernel, by decide +kernel, jtb_at 825 (by decide +kernel) rfl, jtb_at 73 (by decide +kernel) rfl, List.mem_of_getElem? (i := 836) (by decide +kernel), ?_, by decide +kernel, by decide +kernel⟩
  have h : ∀ w ∈ (vx_atS RX2 95 (jxn 2) ["java/lang/RuntimeException", "java/lang/Exception"]).filter goodWord, w ∈ jtb := jtb_r [67, 710, 719, 723, 726, 728, 711, 712, 80, 81, 713, 718, 724, 747, 700, 748, 702, 749, 704, 714, 716, 706, 743, 744, 746, 706, 806, 807, 808, 737, 737, 738, 739, 740, 740, 741, 742, 743, 827, 796, 798, 722, 799, 800, 801, 802, 709, 708, 803] (by decide +kernel) (by decide +kernel)
  have h2 : ∀ w ∈ (vx_atS RX2 95 (jxn 2) ["java/lang/RuntimeException", "java/lang/Exception"]).filter (fun w => !goodWord w), w = Cond.castable (jxn 2) (jxn 2) ∨ ∃ x ∈ jdcl, w = Cond.declares x := by decide +kernel
  intro w hw
  by_cases hg : goodWord w = true
  · exact Or.inl (h w (List.mem_filter.mpr ⟨hw, hg⟩))
  · exact Or.inr (h2 w (List.mem_filter.mpr ⟨hw, by simp [hg]⟩))
theorem tl_RX2_91_108 : jtw RX2 91 108 95 2 ["java/lang/RuntimeException", "java/lang/Exception"] "a byte is no sign" := by
  refine ⟨by decide +kernel, by decide +kernel, jtb_at 825 (by decide +kernel) rfl, jtb_at 73 (by decide +kernel) rfl, List.mem_of_getElem? (i := 835) (by decide +kernel), ?_, by decide +kernel, by decide +kernel⟩
  have h : ∀ w ∈ (vx_atS RX2 95 (jxn 2) ["java/lang/RuntimeException", "java/lang/Exception"]).filter goodWord, w ∈ jtb := jtb_r [67, 710, 719, 723, 726, 728, 711, 712, 80, 81, 713, 718, 724, 747, 700, 748, 702, 749, 704, 714, 716, 706, 743, 744, 746, 706, 806, 807, 808, 737, 737, 738, 739, 740, 740, 741, 742, 743, 827, 796, 798, 722, 799, 800, 801, 802, 709, 708, 803] (by decide +kernel) (by decide +kernel)
  have h2 : ∀ w ∈ (vx_atS RX2 95 (jxn 2) ["java/lang/RuntimeException", "java/lang/Exception"]).filter (fun w => !goodWord w), w = Cond.castable (jxn 2) (jxn 2) ∨ ∃ x ∈ jdcl, w = Cond.declares x := by decide +kernel
  intro w hw
  by_cases hg : goodWord w = true
  · exact Or.inl (h w (List.mem_filter.mpr ⟨hw, hg⟩))
  · exact Or.inr (h2 w (List.mem_filter.mpr ⟨hw, by simp [hg]⟩))
theorem tl_RX9_137_139 : jtw RX9 137 139 141 0 ["java/lang/IndexOutOfBoundsException", "java/lang/RuntimeException", "java/lang/Exception"] "the subscripts lead out of all bytes" := by
  refine ⟨by decide +kernel, by decide +kernel, jtb_at 686 (by decide +kernel) rfl, jtb_at 71 (by decide +kernel) rfl, List.mem_of_getElem? (i := 729) (by decide +kernel), ?_, by decide +kernel, by decide +kernel⟩
  have h : ∀ w ∈ (vx_atS RX9 141 (jxn 0) ["java/lang/IndexOutOfBoundsException", "java/lang/RuntimeException", "java/lang/Exception"]).filter goodWord, w ∈ jtb := jtb_r [67, 710, 719, 723, 726, 728, 711, 712, 80, 81, 713, 718, 724, 747, 700, 748, 702, 749, 704, 714, 716, 706, 743, 744, 746, 706, 731, 732, 733, 734, 734, 735, 736, 737, 737, 738, 739, 740, 740, 741, 742, 743, 730, 687, 697, 698, 699, 701, 703, 705, 709, 708, 707] (by decide +kernel) (by decide +kernel)
  have h2 : ∀ w ∈ (vx_atS RX9 141 (jxn 0) ["java/lang/IndexOutOfBoundsException", "java/lang/RuntimeException", "java/lang/Exception"]).filter (fun w => !goodWord w), w = Cond.castable (jxn 0) (jxn 0) ∨ ∃ x ∈ jdcl, w = Cond.declares x := by decide +kernel
  intro w hw
  by_cases hg : goodWord w = true
  · exact Or.inl (h w (List.mem_filter.mpr ⟨hw, hg⟩))
  · exact Or.inr (h2 w (List.mem_filter.mpr ⟨hw, by simp [hg]⟩))
theorem tl_RX9_137_180 : jtw RX9 137 180 141 0 ["java/lang/IndexOutOfBoundsException", "java/lang/RuntimeException", "java/lang/Exception"] "there is no such byte" := by
  refine ⟨by decide +kernel, by decide +kernel, jtb_at 686 (by decide +kernel) rfl, jtb_at 71 (by decide +kernel) rfl, List.mem_of_getElem? (i := 765) (by decide +kernel), ?_, by decide +kernel, by decide +kernel⟩
  have h : ∀ w ∈ (vx_atS RX9 141 (jxn 0) ["java/lang/IndexOutOfBoundsException", "java/lang/RuntimeException", "java/lang/Exception"]).filter goodWord, w ∈ jtb := jtb_r [67, 710, 719, 723, 726, 728, 711, 712, 80, 81, 713, 718, 724, 747, 700, 748, 702, 749, 704, 714, 716, 706, 743, 744, 746, 706, 731, 732, 733, 734, 734, 735, 736, 737, 737, 738, 739, 740, 740, 741, 742, 743, 730, 687, 697, 698, 699, 701, 703, 705, 709, 708, 707] (by decide +kernel) (by decide +kernel)
  have h2 : ∀ w ∈ (vx_atS RX9 141 (jxn 0) ["java/lang/IndexOutOfBoundsException", "java/lang/RuntimeException", "java/lang/Exception"]).filter (fun w => !goodWord w), w = Cond.castable (jxn 0) (jxn 0) ∨ ∃ x ∈ jdcl, w = Cond.declares x := by decide +kernel
  intro w hw
  by_cases hg : goodWord w = true
  · exact Or.inl (h w (List.mem_filter.mpr ⟨hw, hg⟩))
  · exact Or.inr (h2 w (List.mem_filter.mpr ⟨hw, by simp [hg]⟩))
theorem tl_RX9_193_195 : jtw RX9 193 195 197 1 ["java/lang/RuntimeException", "java/lang/Exception"] "there is no such name of values" := by
  refine ⟨by decide +kernel, by decide +kernel, jtb_at 779 (by decide +kernel) rfl, jtb_at 72 (by decide +kernel) rfl, List.mem_of_getElem? (i := 788) (by decide +kernel), ?_, by decide +kernel, by decide +kernel⟩
  have h : ∀ w ∈ (vx_atS RX9 197 (jxn 1) ["java/lang/RuntimeException", "java/lang/Exception"]).filter goodWord, w ∈ jtb := jtb_r [67, 710, 719, 723, 726, 728, 711, 712, 80, 81, 713, 718, 724, 747, 700, 748, 702, 749, 704, 714, 716, 706, 743, 744, 746, 706, 790, 791, 792, 737, 737, 738, 739, 740, 740, 741, 742, 743, 789, 780, 782, 721, 783, 784, 785, 786, 709, 708, 787] (by decide +kernel) (by decide +kernel)
  have h2 : ∀ w ∈ (vx_atS RX9 197 (jxn 1) ["java/lang/RuntimeException", "java/lang/Exception"]).filter (fun w => !goodWord w), w = Cond.castable (jxn 1) (jxn 1) ∨ ∃ x ∈ jdcl, w = Cond.declares x := by decide +kernel
  intro w hw
  by_cases hg : goodWord w = true
  · exact Or.inl (h w (List.mem_filter.mpr ⟨hw, hg⟩))
  · exact Or.inr (h2 w (List.mem_filter.mpr ⟨hw, by simp [hg]⟩))
theorem tl_RX9_198_200 : jtw RX9 198 200 202 2 ["java/lang/RuntimeException", "java/lang/Exception"] "it is not laid out" := by
  refine ⟨by decide +kernel, by decide +kernel, jtb_at 795 (by decide +kernel) rfl, jtb_at 73 (by decide +kernel) rfl, List.mem_of_getElem? (i := 804) (by decide +kernel), ?_, by decide +kernel, by decide +kernel⟩
  have h : ∀ w ∈ (vx_atS RX9 202 (jxn 2) ["java/lang/RuntimeException", "java/lang/Exception"]).filter goodWord, w ∈ jtb := jtb_r [67, 710, 719, 723, 726, 728, 711, 712, 80, 81, 713, 718, 724, 747, 700, 748, 702, 749, 704, 714, 716, 706, 743, 744, 746, 706, 806, 807, 808, 737, 737, 738, 739, 740, 740, 741, 742, 743, 805, 796, 798, 722, 799, 800, 801, 802, 709, 708, 803] (by decide +kernel) (by decide +kernel)
  have h2 : ∀ w ∈ (vx_atS RX9 202 (jxn 2) ["java/lang/RuntimeException", "java/lang/Exception"]).filter (fun w => !goodWord w), w = Cond.castable (jxn 2) (jxn 2) ∨ ∃ x ∈ jdcl, w = Cond.declares x := by decide +kernel
  intro w hw
  by_cases hg : goodWord w = true
  · exact Or.inl (h w (List.mem_filter.mpr ⟨hw, hg⟩))
  · exact Or.inr (h2 w (List.mem_filter.mpr ⟨hw, by simp [hg]⟩))
