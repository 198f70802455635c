section
-- ===== PART A: goes FIRST, ahead of the names: the tables' words, and 'selects' of the private methods out of them =====
/-- a private method of a class that the tables say can be made, by its rows of tables_1 -/
def lw_okq (q : MethodName × Nat) : Prop := (q.1.cls ≠ "java/lang/invoke/MethodHandle" ∧ q.1.cls ≠ "java/lang/invoke/VarHandle") ∧ Cond.instantiable q.1.cls q.2 ∈ tables_1 ∧ Cond.privateMethod q.1 ∈ tables_1 ∧ Cond.instanceMethod q.1 ∈ tables_1
theorem lw_p0 : lw_okq (⟨"DataLayout$Tree", "around", "(I)LDataLayout$Item;"⟩, 2) := ⟨⟨by decide +kernel, by decide +kernel⟩, List.mem_of_getElem? (i := 29) (by decide +kernel), List.mem_of_getElem? (i := 113) (by decide +kernel), List.mem_of_getElem? (i := 114) (by decide +kernel)⟩
theorem lw_p1 : lw_okq (⟨"DataLayout$Tree", "latestTopRecord", "()LDataLayout$Item;"⟩, 2) := ⟨⟨by decide +kernel, by decide +kernel⟩, List.mem_of_getElem? (i := 29) (by decide +kernel), List.mem_of_getElem? (i := 117) (by decide +kernel), List.mem_of_getElem? (i := 118) (by decide +kernel)⟩
theorem lw_p2 : lw_okq (⟨"DataLayout$Tree", "latestNotNaming", "()LDataLayout$Item;"⟩, 2) := ⟨⟨by decide +kernel, by decide +kernel⟩, List.mem_of_getElem? (i := 29) (by decide +kernel), List.mem_of_getElem? (i := 125) (by decide +kernel), List.mem_of_getElem? (i := 126) (by decide +kernel)⟩
theorem lw_p3 : lw_okq (⟨"DataLayout$Tree", "latestOfLesserLevel", "(I)LDataLayout$Item;"⟩, 2) := ⟨⟨by decide +kernel, by decide +kernel⟩, List.mem_of_getElem? (i := 29) (by decide +kernel), List.mem_of_getElem? (i := 129) (by decide +kernel), List.mem_of_getElem? (i := 130) (by decide +kernel)⟩
theorem lw_p4 : lw_okq (⟨"DataLayout", "tellClause", "(LDataLayout$Item;III)Z"⟩, 6) := ⟨⟨by decide +kernel, by decide +kernel⟩, List.mem_of_getElem? (i := 21) (by decide +kernel), List.mem_of_getElem? (i := 293) (by decide +kernel), List.mem_of_getElem? (i := 294) (by decide +kernel)⟩
theorem lw_p5 : lw_okq (⟨"DataLayout", "tellTable", "(LDataLayout$Item;LDataLayout$Table;)Z"⟩, 6) := ⟨⟨by decide +kernel, by decide +kernel⟩, List.mem_of_getElem? (i := 21) (by decide +kernel), List.mem_of_getElem? (i := 330) (by decide +kernel), List.mem_of_getElem? (i := 331) (by decide +kernel)⟩
theorem lw_p6 : lw_okq (⟨"DataLayout$Plan", "gatherUnits", "()V"⟩, 2) := ⟨⟨by decide +kernel, by decide +kernel⟩, List.mem_of_getElem? (i := 48) (by decide +kernel), List.mem_of_getElem? (i := 402) (by decide +kernel), List.mem_of_getElem? (i := 403) (by decide +kernel)⟩
theorem lw_p7 : lw_okq (⟨"DataLayout$Plan", "finishUpTo", "(LDataLayout$Item;LDataLayout$Item;)V"⟩, 2) := ⟨⟨by decide +kernel, by decide +kernel⟩, List.mem_of_getElem? (i := 48) (by decide +kernel), List.mem_of_getElem? (i := 413) (by decide +kernel), List.mem_of_getElem? (i := 414) (by decide +kernel)⟩
theorem lw_p8 : lw_okq (⟨"DataLayout$Plan", "finish", "(LDataLayout$Item;)V"⟩, 2) := ⟨⟨by decide +kernel, by decide +kernel⟩, List.mem_of_getElem? (i := 48) (by decide +kernel), List.mem_of_getElem? (i := 417) (by decide +kernel), List.mem_of_getElem? (i := 418) (by decide +kernel)⟩
theorem lw_p9 : lw_okq (⟨"DataLayout$Plan", "begin", "(LDataLayout$Item;)V"⟩, 2) := ⟨⟨by decide +kernel, by decide +kernel⟩, List.mem_of_getElem? (i := 48) (by decide +kernel), List.mem_of_getElem? (i := 436) (by decide +kernel), List.mem_of_getElem? (i := 437) (by decide +kernel)⟩
theorem lw_p10 : lw_okq (⟨"DataLayout$Plan", "beginOfRecord", "(LDataLayout$Item;)J"⟩, 2) := ⟨⟨by decide +kernel, by decide +kernel⟩, List.mem_of_getElem? (i := 48) (by decide +kernel), List.mem_of_getElem? (i := 440) (by decide +kernel), List.mem_of_getElem? (i := 441) (by decide +kernel)⟩
theorem lw_p11 : lw_okq (⟨"DataLayout$Plan", "isLaterExternal", "(LDataLayout$Item;)Z"⟩, 2) := ⟨⟨by decide +kernel, by decide +kernel⟩, List.mem_of_getElem? (i := 48) (by decide +kernel), List.mem_of_getElem? (i := 451) (by decide +kernel), List.mem_of_getElem? (i := 452) (by decide +kernel)⟩
theorem lw_p12 : lw_okq (⟨"DataLayout$Plan", "placeParts", "()V"⟩, 2) := ⟨⟨by decide +kernel, by decide +kernel⟩, List.mem_of_getElem? (i := 48) (by decide +kernel), List.mem_of_getElem? (i := 455) (by decide +kernel), List.mem_of_getElem? (i := 456) (by decide +kernel)⟩
theorem lw_p13 : lw_okq (⟨"DataLayout$Plan", "markMoving", "()V"⟩, 2) := ⟨⟨by decide +kernel, by decide +kernel⟩, List.mem_of_getElem? (i := 48) (by decide +kernel), List.mem_of_getElem? (i := 459) (by decide +kernel), List.mem_of_getElem? (i := 460) (by decide +kernel)⟩
theorem lw_p14 : lw_okq (⟨"DataLayout$Plan", "isRight", "(LDataLayout$Item;)Z"⟩, 2) := ⟨⟨by decide +kernel, by decide +kernel⟩, List.mem_of_getElem? (i := 48) (by decide +kernel), List.mem_of_getElem? (i := 467) (by decide +kernel), List.mem_of_getElem? (i := 468) (by decide +kernel)⟩
theorem lw_p15 : lw_okq (⟨"DataLayout$Plan", "isRightPart", "(LDataLayout$Item;LDataLayout$Item;)Z"⟩, 2) := ⟨⟨by decide +kernel, by decide +kernel⟩, List.mem_of_getElem? (i := 48) (by decide +kernel), List.mem_of_getElem? (i := 471) (by decide +kernel), List.mem_of_getElem? (i := 472) (by decide +kernel)⟩
def lw_privs_1 : List (MethodName × Nat) := [(⟨"DataLayout$Tree", "around", "(I)LDataLayout$Item;"⟩, 2), (⟨"DataLayout$Tree", "latestTopRecord", "()LDataLayout$Item;"⟩, 2), (⟨"DataLayout$Tree", "latestNotNaming", "()LDataLayout$Item;"⟩, 2), (⟨"DataLayout$Tree", "latestOfLesserLevel", "(I)LDataLayout$Item;"⟩, 2), (⟨"DataLayout", "tellClause", "(LDataLayout$Item;III)Z"⟩, 6), (⟨"DataLayout", "tellTable", "(LDataLayout$Item;LDataLayout$Table;)Z"⟩, 6), (⟨"DataLayout$Plan", "gatherUnits", "()V"⟩, 2), (⟨"DataLayout$Plan", "finishUpTo", "(LDataLayout$Item;LDataLayout$Item;)V"⟩, 2), (⟨"DataLayout$Plan", "finish", "(LDataLayout$Item;)V"⟩, 2), (⟨"DataLayout$Plan", "begin", "(LDataLayout$Item;)V"⟩, 2), (⟨"DataLayout$Plan", "beginOfRecord", "(LDataLayout$Item;)J"⟩, 2), (⟨"DataLayout$Plan", "isLaterExternal", "(LDataLayout$Item;)Z"⟩, 2), (⟨"DataLayout$Plan", "placeParts", "()V"⟩, 2), (⟨"DataLayout$Plan", "markMoving", "()V"⟩, 2), (⟨"DataLayout$Plan", "isRight", "(LDataLayout$Item;)Z"⟩, 2), (⟨"DataLayout$Plan", "isRightPart", "(LDataLayout$Item;LDataLayout$Item;)Z"⟩, 2)]
theorem lw_r1 : ∀ q ∈ lw_privs_1, lw_okq q := List.forall_mem_cons.mpr ⟨lw_p0, List.forall_mem_cons.mpr ⟨lw_p1, List.forall_mem_cons.mpr ⟨lw_p2, List.forall_mem_cons.mpr ⟨lw_p3, List.forall_mem_cons.mpr ⟨lw_p4, List.forall_mem_cons.mpr ⟨lw_p5, List.forall_mem_cons.mpr ⟨lw_p6, List.forall_mem_cons.mpr ⟨lw_p7, List.forall_mem_cons.mpr ⟨lw_p8, List.forall_mem_cons.mpr ⟨lw_p9, List.forall_mem_cons.mpr ⟨lw_p10, List.forall_mem_cons.mpr ⟨lw_p11, List.forall_mem_cons.mpr ⟨lw_p12, List.forall_mem_cons.mpr ⟨lw_p13, List.forall_mem_cons.mpr ⟨lw_p14, List.forall_mem_cons.mpr ⟨lw_p15, fun _ h => absurd h List.not_mem_nil⟩⟩⟩⟩⟩⟩⟩⟩⟩⟩⟩⟩⟩⟩⟩⟩
theorem lw_p16 : lw_okq (⟨"DataLayout$Plan", "isLastOfRecord", "(LDataLayout$Item;)Z"⟩, 2) := ⟨⟨by decide +kernel, by decide +kernel⟩, List.mem_of_getElem? (i := 48) (by decide +kernel), List.mem_of_getElem? (i := 478) (by decide +kernel), List.mem_of_getElem? (i := 479) (by decide +kernel)⟩
theorem lw_p17 : lw_okq (⟨"DataLayout$Plan", "fitsFirstOfName", "(LDataLayout$Item;)Z"⟩, 2) := ⟨⟨by decide +kernel, by decide +kernel⟩, List.mem_of_getElem? (i := 48) (by decide +kernel), List.mem_of_getElem? (i := 485) (by decide +kernel), List.mem_of_getElem? (i := 486) (by decide +kernel)⟩
theorem lw_p18 : lw_okq (⟨"DataLayout", "fillFirstEntries", "()V"⟩, 6) := ⟨⟨by decide +kernel, by decide +kernel⟩, List.mem_of_getElem? (i := 21) (by decide +kernel), List.mem_of_getElem? (i := 498) (by decide +kernel), List.mem_of_getElem? (i := 499) (by decide +kernel)⟩
theorem lw_p19 : lw_okq (⟨"DataLayout", "fillText", "(III)V"⟩, 6) := ⟨⟨by decide +kernel, by decide +kernel⟩, List.mem_of_getElem? (i := 21) (by decide +kernel), List.mem_of_getElem? (i := 503) (by decide +kernel), List.mem_of_getElem? (i := 504) (by decide +kernel)⟩
theorem lw_p20 : lw_okq (⟨"DataLayout", "fillOtherEntries", "()V"⟩, 6) := ⟨⟨by decide +kernel, by decide +kernel⟩, List.mem_of_getElem? (i := 21) (by decide +kernel), List.mem_of_getElem? (i := 538) (by decide +kernel), List.mem_of_getElem? (i := 539) (by decide +kernel)⟩
theorem lw_p21 : lw_okq (⟨"DataLayout", "refusalFor", "(LDataLayout$Item;Z)I"⟩, 6) := ⟨⟨by decide +kernel, by decide +kernel⟩, List.mem_of_getElem? (i := 21) (by decide +kernel), List.mem_of_getElem? (i := 550) (by decide +kernel), List.mem_of_getElem? (i := 551) (by decide +kernel)⟩
theorem lw_p22 : lw_okq (⟨"DataLayout$Tree", "allBetweenRedefine", "(LDataLayout$Item;LDataLayout$Item;)Z"⟩, 2) := ⟨⟨by decide +kernel, by decide +kernel⟩, List.mem_of_getElem? (i := 29) (by decide +kernel), List.mem_of_getElem? (i := 578) (by decide +kernel), List.mem_of_getElem? (i := 579) (by decide +kernel)⟩
theorem lw_p23 : lw_okq (⟨"DataLayout$Tree", "hasValues", "(LDataLayout$Item;)Z"⟩, 2) := ⟨⟨by decide +kernel, by decide +kernel⟩, List.mem_of_getElem? (i := 29) (by decide +kernel), List.mem_of_getElem? (i := 582) (by decide +kernel), List.mem_of_getElem? (i := 583) (by decide +kernel)⟩
theorem lw_p24 : lw_okq (⟨"java/lang/Throwable", "fillInStackTrace", "(I)Ljava/lang/Throwable;"⟩, 6) := ⟨⟨by decide +kernel, by decide +kernel⟩, List.mem_of_getElem? (i := 673) (by decide +kernel), List.mem_of_getElem? (i := 671) (by decide +kernel), List.mem_of_getElem? (i := 672) (by decide +kernel)⟩
theorem lw_p25 : lw_okq (⟨"DataLayoutModel", "above", "(I)I"⟩, 36) := ⟨⟨by decide +kernel, by decide +kernel⟩, List.mem_of_getElem? (i := 789) (by decide +kernel), List.mem_of_getElem? (i := 917) (by decide +kernel), List.mem_of_getElem? (i := 918) (by decide +kernel)⟩
theorem lw_p26 : lw_okq (⟨"DataLayoutModel", "lies", "(I)Z"⟩, 36) := ⟨⟨by decide +kernel, by decide +kernel⟩, List.mem_of_getElem? (i := 789) (by decide +kernel), List.mem_of_getElem? (i := 921) (by decide +kernel), List.mem_of_getElem? (i := 922) (by decide +kernel)⟩
theorem lw_p27 : lw_okq (⟨"DataLayoutModel", "named", "()I"⟩, 36) := ⟨⟨by decide +kernel, by decide +kernel⟩, List.mem_of_getElem? (i := 789) (by decide +kernel), List.mem_of_getElem? (i := 925) (by decide +kernel), List.mem_of_getElem? (i := 926) (by decide +kernel)⟩
theorem lw_p28 : lw_okq (⟨"DataLayoutModel", "is", "(I)Z"⟩, 36) := ⟨⟨by decide +kernel, by decide +kernel⟩, List.mem_of_getElem? (i := 789) (by decide +kernel), List.mem_of_getElem? (i := 933) (by decide +kernel), List.mem_of_getElem? (i := 934) (by decide +kernel)⟩
theorem lw_p29 : lw_okq (⟨"DataLayoutModel", "mayBeTable", "(IZ)Z"⟩, 36) := ⟨⟨by decide +kernel, by decide +kernel⟩, List.mem_of_getElem? (i := 789) (by decide +kernel), List.mem_of_getElem? (i := 940) (by decide +kernel), List.mem_of_getElem? (i := 941) (by decide +kernel)⟩
theorem lw_p30 : lw_okq (⟨"DataLayoutModel", "isRedefined", "(I)Z"⟩, 36) := ⟨⟨by decide +kernel, by decide +kernel⟩, List.mem_of_getElem? (i := 789) (by decide +kernel), List.mem_of_getElem? (i := 944) (by decide +kernel), List.mem_of_getElem? (i := 945) (by decide +kernel)⟩
theorem lw_p31 : lw_okq (⟨"DataLayoutModel", "tablesUp", "(II)I"⟩, 36) := ⟨⟨by decide +kernel, by decide +kernel⟩, List.mem_of_getElem? (i := 789) (by decide +kernel), List.mem_of_getElem? (i := 948) (by decide +kernel), List.mem_of_getElem? (i := 949) (by decide +kernel)⟩
def lw_privs_2 : List (MethodName × Nat) := [(⟨"DataLayout$Plan", "isLastOfRecord", "(LDataLayout$Item;)Z"⟩, 2), (⟨"DataLayout$Plan", "fitsFirstOfName", "(LDataLayout$Item;)Z"⟩, 2), (⟨"DataLayout", "fillFirstEntries", "()V"⟩, 6), (⟨"DataLayout", "fillText", "(III)V"⟩, 6), (⟨"DataLayout", "fillOtherEntries", "()V"⟩, 6), (⟨"DataLayout", "refusalFor", "(LDataLayout$Item;Z)I"⟩, 6), (⟨"DataLayout$Tree", "allBetweenRedefine", "(LDataLayout$Item;LDataLayout$Item;)Z"⟩, 2), (⟨"DataLayout$Tree", "hasValues", "(LDataLayout$Item;)Z"⟩, 2), (⟨"java/lang/Throwable", "fillInStackTrace", "(I)Ljava/lang/Throwable;"⟩, 6), (⟨"DataLayoutModel", "above", "(I)I"⟩, 36), (⟨"DataLayoutModel", "lies", "(I)Z"⟩, 36), (⟨"DataLayoutModel", "named", "()I"⟩, 36), (⟨"DataLayoutModel", "is", "(I)Z"⟩, 36), (⟨"DataLayoutModel", "mayBeTable", "(IZ)Z"⟩, 36), (⟨"DataLayoutModel", "isRedefined", "(I)Z"⟩, 36), (⟨"DataLayoutModel", "tablesUp", "(II)I"⟩, 36)]
theorem lw_r2 : ∀ q ∈ lw_privs_2, lw_okq q := List.forall_mem_cons.mpr ⟨lw_p16, List.forall_mem_cons.mpr ⟨lw_p17, List.forall_mem_cons.mpr ⟨lw_p18, List.forall_mem_cons.mpr ⟨lw_p19, List.forall_mem_cons.mpr ⟨lw_p20, List.forall_mem_cons.mpr ⟨lw_p21, List.forall_mem_cons.mpr ⟨lw_p22, List.forall_mem_cons.mpr ⟨lw_p23, List.forall_mem_cons.mpr ⟨lw_p24, List.forall_mem_cons.mpr ⟨lw_p25, List.forall_mem_cons.mpr ⟨lw_p26, List.forall_mem_cons.mpr ⟨lw_p27, List.forall_mem_cons.mpr ⟨lw_p28, List.forall_mem_cons.mpr ⟨lw_p29, List.forall_mem_cons.mpr ⟨lw_p30, List.forall_mem_cons.mpr ⟨lw_p31, fun _ h => absurd h List.not_mem_nil⟩⟩⟩⟩⟩⟩⟩⟩⟩⟩⟩⟩⟩⟩⟩⟩
theorem lw_p32 : lw_okq (⟨"DataLayoutModel", "isBelow", "(II)Z"⟩, 36) := ⟨⟨by decide +kernel, by decide +kernel⟩, List.mem_of_getElem? (i := 789) (by decide +kernel), List.mem_of_getElem? (i := 952) (by decide +kernel), List.mem_of_getElem? (i := 953) (by decide +kernel)⟩
theorem lw_p33 : lw_okq (⟨"DataLayoutModel", "isAside", "(I)Z"⟩, 36) := ⟨⟨by decide +kernel, by decide +kernel⟩, List.mem_of_getElem? (i := 789) (by decide +kernel), List.mem_of_getElem? (i := 960) (by decide +kernel), List.mem_of_getElem? (i := 961) (by decide +kernel)⟩
theorem lw_p34 : lw_okq (⟨"DataLayoutModel", "isPart", "(II)Z"⟩, 36) := ⟨⟨by decide +kernel, by decide +kernel⟩, List.mem_of_getElem? (i := 789) (by decide +kernel), List.mem_of_getElem? (i := 964) (by decide +kernel), List.mem_of_getElem? (i := 965) (by decide +kernel)⟩
theorem lw_p35 : lw_okq (⟨"DataLayoutModel", "layAll", "()V"⟩, 36) := ⟨⟨by decide +kernel, by decide +kernel⟩, List.mem_of_getElem? (i := 789) (by decide +kernel), List.mem_of_getElem? (i := 984) (by decide +kernel), List.mem_of_getElem? (i := 985) (by decide +kernel)⟩
theorem lw_p36 : lw_okq (⟨"DataLayoutModel", "bytesOf", "(I)I"⟩, 36) := ⟨⟨by decide +kernel, by decide +kernel⟩, List.mem_of_getElem? (i := 789) (by decide +kernel), List.mem_of_getElem? (i := 988) (by decide +kernel), List.mem_of_getElem? (i := 989) (by decide +kernel)⟩
theorem lw_p37 : lw_okq (⟨"DataLayoutModel", "close", "(I)V"⟩, 36) := ⟨⟨by decide +kernel, by decide +kernel⟩, List.mem_of_getElem? (i := 789) (by decide +kernel), List.mem_of_getElem? (i := 992) (by decide +kernel), List.mem_of_getElem? (i := 993) (by decide +kernel)⟩
theorem lw_p38 : lw_okq (⟨"DataLayoutModel", "begin", "(IJ)V"⟩, 36) := ⟨⟨by decide +kernel, by decide +kernel⟩, List.mem_of_getElem? (i := 789) (by decide +kernel), List.mem_of_getElem? (i := 999) (by decide +kernel), List.mem_of_getElem? (i := 1000) (by decide +kernel)⟩
theorem lw_p39 : lw_okq (⟨"DataLayoutModel", "firstOf", "(I)I"⟩, 36) := ⟨⟨by decide +kernel, by decide +kernel⟩, List.mem_of_getElem? (i := 789) (by decide +kernel), List.mem_of_getElem? (i := 1003) (by decide +kernel), List.mem_of_getElem? (i := 1004) (by decide +kernel)⟩
theorem lw_p40 : lw_okq (⟨"DataLayoutModel", "alignment", "(I)I"⟩, 36) := ⟨⟨by decide +kernel, by decide +kernel⟩, List.mem_of_getElem? (i := 789) (by decide +kernel), List.mem_of_getElem? (i := 1007) (by decide +kernel), List.mem_of_getElem? (i := 1008) (by decide +kernel)⟩
theorem lw_p41 : lw_okq (⟨"DataLayoutModel", "isWrong", "(I)Z"⟩, 36) := ⟨⟨by decide +kernel, by decide +kernel⟩, List.mem_of_getElem? (i := 789) (by decide +kernel), List.mem_of_getElem? (i := 1011) (by decide +kernel), List.mem_of_getElem? (i := 1012) (by decide +kernel)⟩
theorem lw_p42 : lw_okq (⟨"DataLayoutModel", "isBadPart", "(I)Z"⟩, 36) := ⟨⟨by decide +kernel, by decide +kernel⟩, List.mem_of_getElem? (i := 789) (by decide +kernel), List.mem_of_getElem? (i := 1015) (by decide +kernel), List.mem_of_getElem? (i := 1016) (by decide +kernel)⟩
theorem lw_p43 : lw_okq (⟨"DataLayoutModel", "hasBelow", "(I)Z"⟩, 36) := ⟨⟨by decide +kernel, by decide +kernel⟩, List.mem_of_getElem? (i := 789) (by decide +kernel), List.mem_of_getElem? (i := 1019) (by decide +kernel), List.mem_of_getElem? (i := 1020) (by decide +kernel)⟩
theorem lw_p44 : lw_okq (⟨"DataLayoutModel", "isLast", "(I)Z"⟩, 36) := ⟨⟨by decide +kernel, by decide +kernel⟩, List.mem_of_getElem? (i := 789) (by decide +kernel), List.mem_of_getElem? (i := 1023) (by decide +kernel), List.mem_of_getElem? (i := 1024) (by decide +kernel)⟩
theorem lw_p45 : lw_okq (⟨"DataLayoutModel", "fillAll", "(I)V"⟩, 36) := ⟨⟨by decide +kernel, by decide +kernel⟩, List.mem_of_getElem? (i := 789) (by decide +kernel), List.mem_of_getElem? (i := 1028) (by decide +kernel), List.mem_of_getElem? (i := 1029) (by decide +kernel)⟩
theorem lw_p46 : lw_okq (⟨"DataLayoutModel", "findAround", "(I)V"⟩, 36) := ⟨⟨by decide +kernel, by decide +kernel⟩, List.mem_of_getElem? (i := 789) (by decide +kernel), List.mem_of_getElem? (i := 1032) (by decide +kernel), List.mem_of_getElem? (i := 1033) (by decide +kernel)⟩
theorem lw_p47 : lw_okq (⟨"DataLayoutModel", "fill", "(II)V"⟩, 36) := ⟨⟨by decide +kernel, by decide +kernel⟩, List.mem_of_getElem? (i := 789) (by decide +kernel), List.mem_of_getElem? (i := 1036) (by decide +kernel), List.mem_of_getElem? (i := 1037) (by decide +kernel)⟩
def lw_privs_3 : List (MethodName × Nat) := [(⟨"DataLayoutModel", "isBelow", "(II)Z"⟩, 36), (⟨"DataLayoutModel", "isAside", "(I)Z"⟩, 36), (⟨"DataLayoutModel", "isPart", "(II)Z"⟩, 36), (⟨"DataLayoutModel", "layAll", "()V"⟩, 36), (⟨"DataLayoutModel", "bytesOf", "(I)I"⟩, 36), (⟨"DataLayoutModel", "close", "(I)V"⟩, 36), (⟨"DataLayoutModel", "begin", "(IJ)V"⟩, 36), (⟨"DataLayoutModel", "firstOf", "(I)I"⟩, 36), (⟨"DataLayoutModel", "alignment", "(I)I"⟩, 36), (⟨"DataLayoutModel", "isWrong", "(I)Z"⟩, 36), (⟨"DataLayoutModel", "isBadPart", "(I)Z"⟩, 36), (⟨"DataLayoutModel", "hasBelow", "(I)Z"⟩, 36), (⟨"DataLayoutModel", "isLast", "(I)Z"⟩, 36), (⟨"DataLayoutModel", "fillAll", "(I)V"⟩, 36), (⟨"DataLayoutModel", "findAround", "(I)V"⟩, 36), (⟨"DataLayoutModel", "fill", "(II)V"⟩, 36)]
theorem lw_r3 : ∀ q ∈ lw_privs_3, lw_okq q := List.forall_mem_cons.mpr ⟨lw_p32, List.forall_mem_cons.mpr ⟨lw_p33, List.forall_mem_cons.mpr ⟨lw_p34, List.forall_mem_cons.mpr ⟨lw_p35, List.forall_mem_cons.mpr ⟨lw_p36, List.forall_mem_cons.mpr ⟨lw_p37, List.forall_mem_cons.mpr ⟨lw_p38, List.forall_mem_cons.mpr ⟨lw_p39, List.forall_mem_cons.mpr ⟨lw_p40, List.forall_mem_cons.mpr ⟨lw_p41, List.forall_mem_cons.mpr ⟨lw_p42, List.forall_mem_cons.mpr ⟨lw_p43, List.forall_mem_cons.mpr ⟨lw_p44, List.forall_mem_cons.mpr ⟨lw_p45, List.forall_mem_cons.mpr ⟨lw_p46, List.forall_mem_cons.mpr ⟨lw_p47, fun _ h => absurd h List.not_mem_nil⟩⟩⟩⟩⟩⟩⟩⟩⟩⟩⟩⟩⟩⟩⟩⟩
theorem lw_p48 : lw_okq (⟨"DataLayoutModel", "refused", "(IZ)I"⟩, 36) := ⟨⟨by decide +kernel, by decide +kernel⟩, List.mem_of_getElem? (i := 789) (by decide +kernel), List.mem_of_getElem? (i := 1045) (by decide +kernel), List.mem_of_getElem? (i := 1046) (by decide +kernel)⟩
theorem lw_p49 : lw_okq (⟨"DataLayoutModel", "placeOf", "(I)J"⟩, 36) := ⟨⟨by decide +kernel, by decide +kernel⟩, List.mem_of_getElem? (i := 789) (by decide +kernel), List.mem_of_getElem? (i := 1049) (by decide +kernel), List.mem_of_getElem? (i := 1050) (by decide +kernel)⟩
theorem lw_p50 : lw_okq (⟨"DataLayoutModel", "sizeOf", "(I)J"⟩, 36) := ⟨⟨by decide +kernel, by decide +kernel⟩, List.mem_of_getElem? (i := 789) (by decide +kernel), List.mem_of_getElem? (i := 1057) (by decide +kernel), List.mem_of_getElem? (i := 1058) (by decide +kernel)⟩
theorem lw_p51 : lw_okq (⟨"DataLayoutModel", "says", "(I)Z"⟩, 36) := ⟨⟨by decide +kernel, by decide +kernel⟩, List.mem_of_getElem? (i := 789) (by decide +kernel), List.mem_of_getElem? (i := 1089) (by decide +kernel), List.mem_of_getElem? (i := 1090) (by decide +kernel)⟩
theorem lw_p52 : lw_okq (⟨"DataLayoutModel", "saysPacked", "(III)Z"⟩, 36) := ⟨⟨by decide +kernel, by decide +kernel⟩, List.mem_of_getElem? (i := 789) (by decide +kernel), List.mem_of_getElem? (i := 1093) (by decide +kernel), List.mem_of_getElem? (i := 1094) (by decide +kernel)⟩
theorem lw_p53 : lw_okq (⟨"DataLayoutModel", "isDigit", "(I)Z"⟩, 36) := ⟨⟨by decide +kernel, by decide +kernel⟩, List.mem_of_getElem? (i := 789) (by decide +kernel), List.mem_of_getElem? (i := 1097) (by decide +kernel), List.mem_of_getElem? (i := 1098) (by decide +kernel)⟩
def lw_privs_4 : List (MethodName × Nat) := [(⟨"DataLayoutModel", "refused", "(IZ)I"⟩, 36), (⟨"DataLayoutModel", "placeOf", "(I)J"⟩, 36), (⟨"DataLayoutModel", "sizeOf", "(I)J"⟩, 36), (⟨"DataLayoutModel", "says", "(I)Z"⟩, 36), (⟨"DataLayoutModel", "saysPacked", "(III)Z"⟩, 36), (⟨"DataLayoutModel", "isDigit", "(I)Z"⟩, 36)]
theorem lw_r4 : ∀ q ∈ lw_privs_4, lw_okq q := List.forall_mem_cons.mpr ⟨lw_p48, List.forall_mem_cons.mpr ⟨lw_p49, List.forall_mem_cons.mpr ⟨lw_p50, List.forall_mem_cons.mpr ⟨lw_p51, List.forall_mem_cons.mpr ⟨lw_p52, List.forall_mem_cons.mpr ⟨lw_p53, fun _ h => absurd h List.not_mem_nil⟩⟩⟩⟩⟩⟩
def lw_privs : List (MethodName × Nat) := lw_privs_1 ++ (lw_privs_2 ++ (lw_privs_3 ++ (lw_privs_4)))
def lw_tbl : List Cond := k2_sels lw_privs ++ tables_1
theorem lw_privs_ok : ∀ q ∈ lw_privs, lw_okq q := by
  show ∀ q ∈ lw_privs_1 ++ (lw_privs_2 ++ (lw_privs_3 ++ (lw_privs_4))), lw_okq q
  exact List.forall_mem_append.mpr ⟨lw_r1, List.forall_mem_append.mpr ⟨lw_r2, List.forall_mem_append.mpr ⟨lw_r3, lw_r4⟩⟩⟩
end
section
/-! ===== BEGIN words of one list among another's, by their places ===== -/
theorem goodIn_r {big : List Cond} (ws : List Cond) (ps : List Nat) (hp : ws = ps.filterMap (fun i => big[i]?)) (h : ws.all goodWord = true) : GoodIn big ws := by
  intro w hw
  have h1 := List.all_eq_true.mp h w hw
  rw [hp] at hw
  obtain ⟨i, -, hi⟩ := List.mem_filterMap.mp hw
  have hm : w ∈ big := by first | exact List.mem_of_getElem? hi | exact List.getElem?_mem hi
  exact ⟨hm, good_of_word h1⟩
theorem goodIn_app {big a b : List Cond} (ha : GoodIn big a) (hb : GoodIn big b) : GoodIn big (a ++ b) := fun w h => (List.mem_append.mp h).elim (ha w) (hb w)
theorem goodIn_ca {big a b : List Cond} {c : Cond} (ha : GoodIn big (c :: a)) (hb : GoodIn big b) : GoodIn big (c :: (a ++ b)) := fun w h => (List.mem_cons.mp h).elim (fun e => ha w (List.mem_cons.mpr (Or.inl e))) (fun h => (List.mem_append.mp h).elim (fun h => ha w (List.mem_cons.mpr (Or.inr h))) (hb w))
theorem goodIn_sub {big ws : List Cond} (hm : ∀ w ∈ ws, w ∈ big) (h : ws.all goodWord = true) : GoodIn big ws := fun w hw => ⟨hm w hw, good_of_word (List.all_eq_true.mp h w hw)⟩
/-! ===== END ===== -/

/-! ===== BEGIN exceptions that leave a method, and their catching by the caller (launches without stack traces) ===== -/
section VXA
/-! The laws vx_back, vx_callV, vx_callS, vx_callSW, vx_throw0, vx_throwS follow proofs of the library, with one case more: JvmDerived/Free/Laws.lean (Back.of_free), Shelf42/LK1.lean (callV, callS), Shelf/KitTraced.lean (throwNew0V, throwNewS). -/
/-- where a method has thrown q: the class by its name, the cell, what was written, the world -/
def vx_T (XC : String → State → State → Prop) (st : State) (q : Addr) (t : State) (mc ms : Nat) (free : Addr → Prop) : Prop :=
  ∃ (E : String) (ce : Cell) (L : List Loc), XC E st t ∧ t.heap[q]? = some ce ∧ ce.vm = .none ∧ st.vm.findClass E = some ce.cls ∧ st.WarmedH t.vm ∧ st.sameButNew ({ t with vm := st.vm } : State) L mc ms ∧ ∀ z ∈ L, free z.base
def vx_Q (Qc : Array Value → State → Outcome → State → Prop) (XC : String → State → State → Prop) (mc ms : Nat) (free : Addr → Prop) : Array Value → State → Outcome → State → Prop := fun a st o t =>
  (Qc a st o t ∧ ∃ L, FrameEnd st o t L mc ms ∧ ∀ q ∈ L, free q.base) ∨ ∃ q, o = .threw q ∧ vx_T XC st q t mc ms free
/-- a callee that returns or throws -/
def vx_Met (l : Launch) (y : MethodName) (ws : List Cond) (rm : Room) (Pc : Array Value → State → Prop) (Qc : Array Value → State → Outcome → State → Prop) (XC : String → State → State → Prop) (mc ms : Nat) (free : Addr → Prop) : Prop :=
  MetFree l y (headSpec ws rm) Pc (fun _ _ _ _ _ => True) (vx_Q Qc XC mc ms free)
def vx_Post (XC : String → State → State → Prop) (mc ms : Nat) (free : Addr → Prop) : Pt → Array Value → Addr → Pt → Prop := fun A a q B =>
  ∃ (g : JFrame) (mk : MethodId) (t : State) (L : List Loc) (E : String) (ce : Cell), B.U.heap = t.heap ∧ B.U.vm = t.vm ∧ XC E (A.U.calling g mk a) t ∧ t.heap[q]? = some ce ∧ ce.vm = .none ∧ A.U.vm.findClass E = some ce.cls ∧ B.locs = A.locs ++ L ∧ (∀ z ∈ L, free z.base) ∧ B.cells = A.cells + mc ∧ B.slots = A.slots + ms
def vx_Back (l : Launch) (R : Room) (p : Program) (e : Env) (below : List Frame) (s : State) (sargs : Array Value) (y : MethodName) (len W9 : Nat)
    (Pre : Pt → Array Value → Prop) (Post : Pt → Array Value → Option Value → Pt → Prop) (PostX : Pt → Array Value → Addr → Pt → Prop) : Prop :=
  ∀ (m : MethodId) (meth : Method) (c : Code) (A : Pt) (g : JFrame) (ig : Instr) (mk : MethodId) (a : Array Value),
    Stand p l e R s m sargs below meth c A.U A.locs A.cells A.slots → g.method = m → g.locals.size = c.maxLocals → decode c.code g.pc = .ok (ig, len) →
    2 * g.monitorRoom + (g.stack.map fun v => v.category).sum ≤ W9 → A.U.methodNamed? y = some mk → Pre A a →
    (∃ (v : Option Value) (B : Pt), Stand p l e R s m sargs below meth c B.U B.locs B.cells B.slots ∧ Post A a v B ∧
      Steps p.tables e below (doInvoke e (A.U.setTop g) [] mk a).1 (B.U.setTop { g with pc := g.pc + len, stack := v.toList ++ g.stack })) ∨
    (∃ (q : Addr) (B : Pt), Stand p l e R s m sargs below meth c B.U B.locs B.cells B.slots ∧ PostX A a q B ∧
      Steps p.tables e below (doInvoke e (A.U.setTop g) [] mk a).1 ((B.U.setTop g).pushFrame (.throwing q)))
section Payer
variable {l : Launch} {R : Room} {p : Program} {e : Env} {below : List Frame} {s : State} {sargs : Array Value} {y : MethodName} {len W9 : Nat}
theorem vx_back {ws : List Cond} {rm : Room} {Pc : Array Value → State → Prop} {Qc : Array Value → State → Outcome → State → Prop} {XC : String → State → State → Prop} {mc ms : Nat} {free : Addr → Prop} {bytes : ByteArray} {maxL : Nat} {ret : Option FieldType}
    (hM : vx_Met l y ws rm Pc Qc XC mc ms free) (hblind : FrameBlind Pc) (hrc : rm.cells = mc) (hrs : rm.slots = ms)
    (hframes : rm.frames + 1 ≤ R.frames) (hlocals : W9 + (maxL + 11) + rm.locals ≤ R.locals)
    (hws : ∀ w ∈ ws, ∀ a' U, s.WarmedH U.vm → w.before a' U = true) (hcode : Cond.code y bytes maxL ret ∈ ws) (hinit : ∀ a' U, s.WarmedH U.vm → (Cond.initialized y.cls).before a' U = true) :
    vx_Back l R p e below s sargs y len W9 (PreOf R mc ms Pc) (PostOf Qc mc ms free) (vx_Post XC mc ms free) := by
  intro m meth c A g ig mk a X hg hsize hdg hW hn hp
  have h1 : (headSpec ws rm).pre.before a A.U = true := atoms_intro fun w hw => hws w hw _ _ X.warmed
  have h2 : (Cond.code y bytes maxL ret).before a A.U = true := hws _ hcode _ _ X.warmed
  have h3 : (Cond.initialized y.cls).before a A.U = true := hinit _ _ X.warmed
  have h4 : A.cells + (headSpec ws rm).room.cells ≤ R.cells := by rw [show (headSpec ws rm).room.cells = mc from hrc]; exact hp.1
  have h5 : A.slots + (headSpec ws rm).room.slots ≤ R.slots := by rw [show (headSpec ws rm).room.slots = ms from hrs]; exact hp.2.1
  have hPc : Pc a (A.U.calling g mk a) := hblind _ _ _ _ hp.2.2
  obtain ⟨U, Ls, c0, s0⟩ := A
  dsimp only [Pt.U, Pt.locs, Pt.cells, Pt.slots] at h1 h2 h3 h4 h5 X hn hPc ⊢
  obtain ⟨methY, cY, hmY, hcY, -, hlY, -, -, -, -⟩ := Cond.code_spec hn h2
  obtain ⟨kY, hkY, -⟩ := className_of_methodNamed hn
  have hinitY : kY.init = .initialized := Cond.initialized_spec (findClass_of_methodNamed hn) hkY h3
  have h : At U g.method c below := by rw [hg]; exact X.here
  have hlocals9 : W9 + (maxL + 11) + (headSpec ws rm).room.locals ≤ R.locals := hlocals
  have happ : (headSpec ws rm).appliesLoose y e.platform (U.calling g mk a) = true :=
    Spec.appliesLoose_calling (g := g) h hdg hn hkY hinitY
      (X.room_calling (g := g) (R' := (headSpec ws rm).room) hsize hmY hcY hframes (by rw [hlY]; omega) h4 h5) h1
  obtain ⟨mid, hmid⟩ := h.above
  have hfr : (U.setTop g).frames = (.java g :: mid) ++ below := by rw [State.frames_setTop' g h.top, hmid]; rfl
  obtain ⟨o, s₂, hsteps, -, hend, hq⟩ := Steps.callFree hM p X.admits X.cas X.clock (acts := []) hfr happ hPc trivial
  have hq' : vx_Q Qc XC mc ms free a (U.calling g mk a) o s₂ := hq
  rw [State.frames_setTop' g h.top] at hend
  obtain ⟨g₀, hg0⟩ := Option.isSome_iff_exists.mp h.top
  obtain ⟨r, hr⟩ := State.topJava?_eq_some.mp hg0
  have hr' : (({ U with heap := s₂.heap, slotsUsed := s₂.slotsUsed } : State).setVm s₂.vm).frames = .java g₀ :: r := hr
  rcases hq' with ⟨hqc, L, hfe, hL⟩ | ⟨q, rfl, E, ce, L, hx, hce, hcv, hcl, hW₂, hsm, hL⟩
  · obtain ⟨⟨v, rfl⟩, hW₂, e2, q2, q3, q4, q5, q6⟩ := id hfe
    have e3 : s₂ = ({ (U.calling g mk a).setFrames s₂.frames with heap := s₂.heap, slotsUsed := s₂.slotsUsed } : State).setVm s₂.vm := by
      have : s₂ = ({ s₂ with vm := (U.calling g mk a).vm } : State).setVm s₂.vm := rfl
      rw [e2] at this
      exact this
    obtain ⟨c₂, i₂, len₂, hc₂, hd₂, hf₂⟩ := hend
    have hW' : U.WarmedH s₂.vm := hW₂
    have hcc : c₂ = c := by
      have h1 : s₂.code? g.method = U.code? g.method := by
        rw [State.code?_eq, State.code?_eq, hW'.alike.method?]
      exact Option.some.inj (hc₂.symm.trans (h1.trans h.code))
    subst hcc
    have hlen : len₂ = len := by rw [hdg] at hd₂; cases hd₂; rfl
    subst hlen
    have hs₂ : s₂ = (({ U with heap := s₂.heap, slotsUsed := s₂.slotsUsed } : State).setVm s₂.vm).setTop { g with pc := g.pc + len₂, stack := v.toList ++ g.stack } := by
      refine e3.trans ?_
      rw [hf₂, State.calling_eq h.top, State.setFrames_setFrames, State.setTop_of_frames _ hr', hr]
      rfl
    have hsame : U.sameButNew ({ U with heap := s₂.heap, slotsUsed := s₂.slotsUsed } : State) L mc ms := by
      refine ⟨?_, q2, q3, q4, q5, q6⟩
      obtain ⟨t, ht, -⟩ := State.frames_cons hr
      show ({ U with heap := s₂.heap, slotsUsed := s₂.slotsUsed } : State) = { U.setFrames U.frames with heap := s₂.heap, slotsUsed := s₂.slotsUsed }
      rw [State.setFrames_self ht]
    subst hg
    refine Or.inl ⟨v, ⟨(({ U with heap := s₂.heap, slotsUsed := s₂.slotsUsed } : State).setVm s₂.vm), Ls ++ L, c0 + mc, s0 + ms⟩,
      ⟨X.admits, X.cas, X.clock, X.frames, X.room, X.hears, X.method, X.code, (X.here.setHeapUsed s₂.heap s₂.slotsUsed).setVm hW'.alike, X.tail, State.WarmedH.trans X.warmed hW', X.limits, X.bytes, X.same.trans (hsame.setVm s.vm)⟩,
      ⟨g, mk, s₂, L, rfl, rfl, hqc, rfl, hL, rfl, rfl⟩, ?_⟩
    show Steps p.tables e below _ ((({ U with heap := s₂.heap, slotsUsed := s₂.slotsUsed } : State).setVm s₂.vm).setTop { g with pc := g.pc + len₂, stack := v.toList ++ g.stack })
    rw [← hs₂]
    exact hsteps
  · obtain ⟨e2, q2, q3, q4, q5, q6⟩ := id hsm
    have e3 : s₂ = ({ (U.calling g mk a).setFrames s₂.frames with heap := s₂.heap, slotsUsed := s₂.slotsUsed } : State).setVm s₂.vm := by
      have : s₂ = ({ s₂ with vm := (U.calling g mk a).vm } : State).setVm s₂.vm := rfl
      rw [e2] at this
      exact this
    have hf₂ : s₂.frames = .throwing q :: .java g :: U.frames.tail := hend
    have hW' : U.WarmedH s₂.vm := hW₂
    have hs₂ : s₂ = ((({ U with heap := s₂.heap, slotsUsed := s₂.slotsUsed } : State).setVm s₂.vm).setTop g).pushFrame (.throwing q) := by
      refine e3.trans ?_
      rw [hf₂, State.calling_eq h.top, State.setFrames_setFrames, State.pushFrame, State.frames_setTop _ hr', State.setTop_of_frames _ hr', State.setFrames_setFrames, hr]
      rfl
    have hsame : U.sameButNew ({ U with heap := s₂.heap, slotsUsed := s₂.slotsUsed } : State) L mc ms := by
      refine ⟨?_, q2, q3, q4, q5, q6⟩
      obtain ⟨t, ht, -⟩ := State.frames_cons hr
      show ({ U with heap := s₂.heap, slotsUsed := s₂.slotsUsed } : State) = { U.setFrames U.frames with heap := s₂.heap, slotsUsed := s₂.slotsUsed }
      rw [State.setFrames_self ht]
    subst hg
    refine Or.inr ⟨q, ⟨(({ U with heap := s₂.heap, slotsUsed := s₂.slotsUsed } : State).setVm s₂.vm), Ls ++ L, c0 + mc, s0 + ms⟩,
      ⟨X.admits, X.cas, X.clock, X.frames, X.room, X.hears, X.method, X.code, (X.here.setHeapUsed s₂.heap s₂.slotsUsed).setVm hW'.alike, X.tail, State.WarmedH.trans X.warmed hW', X.limits, X.bytes, X.same.trans (hsame.setVm s.vm)⟩,
      ⟨g, mk, s₂, L, E, ce, rfl, rfl, hx, hce, hcv, hcl, rfl, hL, rfl, rfl⟩, ?_⟩
    show Steps p.tables e below _ (((({ U with heap := s₂.heap, slotsUsed := s₂.slotsUsed } : State).setVm s₂.vm).setTop g).pushFrame (.throwing q))
    rw [← hs₂]
    exact hsteps
end Payer
section Calls
variable {p : Program} {l : Launch} {e : Env} {R : Room} {s : State} {m : MethodId} {args : Array Value} {below : List Frame} {meth : Method} {c : Code} {T : State} {locs : List Loc} {cells slots : Nat}
theorem vx_callV (X : Stand p l e R s m args below meth c T locs cells slots) (hexec : p.tables.exec = Jvm.exec) {own C : String} {index : Nat} {y : MethodName} {bytes : ByteArray} {maxL : Nat} {ret : Option FieldType}
    (hown : s.vm.findClass own = some m.cls) (hlink : (Cond.methodLink own index y).before args s = true) (hinst : (Cond.instanceMethod y).before args s = true) (hsel : (Cond.selects C y y).before args s = true)
    (hcode : (Cond.code y bytes maxL ret).before args s = true) (hy : y.cls ≠ "java/lang/invoke/MethodHandle" ∧ y.cls ≠ "java/lang/invoke/VarHandle")
    {W9 : Nat} {Pre : Pt → Array Value → Prop} {Post : Pt → Array Value → Option Value → Pt → Prop} {PostX : Pt → Array Value → Addr → Pt → Prop} (hK : vx_Back l R p e below s args y 3 W9 Pre Post PostX)
    {b : Addr} {cellB : Cell} (hcell : T.heap[b]? = some cellB) (hobj : cellB.vm.isStatics = false) (hcls : s.vm.findClass C = some cellB.cls)
    {g : JFrame} (hg : g.method = m) (hsize : g.locals.size = c.maxLocals) {argsL rest : List Value} (hlen : ∀ sig, parseMethodDescriptor y.desc = some sig → argsL.length = sig.parameters.length)
    (hstack : g.stack = argsL.reverse ++ .ref b :: rest) (hW : 2 * g.monitorRoom + (rest.map fun v => v.category).sum ≤ W9) (hdg : decode c.code g.pc = .ok (.invokevirtual index, 3))
    (hpre : ∀ vm₁, s.WarmedH vm₁ → Pre ⟨T.setVm vm₁, locs, cells, slots⟩ (Value.ref b :: argsL).toArray) :
    (∃ (v : Option Value) (vm₁ : Vm) (B : Pt), s.WarmedH vm₁ ∧ Stand p l e R s m args below meth c B.U B.locs B.cells B.slots ∧ Post ⟨T.setVm vm₁, locs, cells, slots⟩ (Value.ref b :: argsL).toArray v B ∧
      ∀ target, Steps p.tables e below (B.U.setTop { g with pc := g.pc + 3, stack := v.toList ++ rest }) target → Steps p.tables e below (T.setTop g) target) ∨
    (∃ (q : Addr) (vm₁ : Vm) (B : Pt), s.WarmedH vm₁ ∧ Stand p l e R s m args below meth c B.U B.locs B.cells B.slots ∧ PostX ⟨T.setVm vm₁, locs, cells, slots⟩ (Value.ref b :: argsL).toArray q B ∧
      Steps p.tables e below (T.setTop g) ((B.U.setTop { g with stack := rest }).pushFrame (.throwing q))) := by
  obtain ⟨mk, methM, hnamed, hmethM, hstM, habM⟩ := Cond.instanceMethod_spec hinst
  obtain ⟨methM', cM, hmethM', -, -, -, -, -, -, hsigM⟩ := Cond.code_spec hnamed hcode
  cases hmethM.symm.trans hmethM'
  obtain ⟨c2, r2, m2, q1, q2, q3, q4, kP, hkP, hkPi⟩ := Cond.selects_spec hsel
  cases hcls.symm.trans q1
  cases (State.methodFound?_of_named hnamed hy).symm.trans q2
  cases hnamed.symm.trans q3
  have hselP : selectMethod e.platform s.vm cellB.cls mk = .method mk := by rw [Launch.admits_selectMethod X.admits]; exact q4
  obtain ⟨vm₁, X₁, hstep₁⟩ := X.invokevirtual hexec hown hlink hnamed hmethM hstM hkP hkPi hy (a := b) (cell := cellB) hcell
    (fun z h => by rw [h] at hobj; cases hobj) hselP hmethM habM hkP hkPi (g := g) hg (argsL := argsL) (rest := rest) (hlen _ hsigM) hstack hdg
  rcases hK m meth c ⟨T.setVm vm₁, locs, cells, slots⟩ { g with stack := rest } (.invokevirtual index) mk (Value.ref b :: argsL).toArray X₁ hg hsize hdg hW (X₁.named hnamed) (hpre vm₁ X₁.warmed) with ⟨v, B, X', hpost, hsteps⟩ | ⟨q, B, X', hpost, hsteps⟩
  · exact Or.inl ⟨v, vm₁, B, X₁.warmed, X', hpost, fun target h => hstep₁ _ fun acts => by rw [doInvoke_state]; exact hsteps.trans h⟩
  · exact Or.inr ⟨q, vm₁, B, X₁.warmed, X', hpost, hstep₁ _ fun acts => by rw [doInvoke_state]; exact hsteps⟩
theorem vx_callS (X : Stand p l e R s m args below meth c T locs cells slots) (hexec : p.tables.exec = Jvm.exec) {own : String} {index : Nat} {y : MethodName} {bytes : ByteArray} {maxL : Nat} {ret : Option FieldType}
    (hown : s.vm.findClass own = some m.cls) (hlink : (Cond.methodLink own index y).before args s = true) (hstat : (Cond.static y).before args s = true) (hinit : (Cond.initialized y.cls).before args s = true)
    (hcode : (Cond.code y bytes maxL ret).before args s = true) (hy : y.cls ≠ "java/lang/invoke/MethodHandle" ∧ y.cls ≠ "java/lang/invoke/VarHandle")
    {W9 : Nat} {Pre : Pt → Array Value → Prop} {Post : Pt → Array Value → Option Value → Pt → Prop} {PostX : Pt → Array Value → Addr → Pt → Prop} (hK : vx_Back l R p e below s args y 3 W9 Pre Post PostX)
    {g : JFrame} (hg : g.method = m) (hsize : g.locals.size = c.maxLocals) {argsL rest : List Value} (hlen : ∀ sig, parseMethodDescriptor y.desc = some sig → argsL.length = sig.parameters.length)
    (hstack : g.stack = argsL.reverse ++ rest) (hW : 2 * g.monitorRoom + (rest.map fun v => v.category).sum ≤ W9) (hdg : decode c.code g.pc = .ok (.invokestatic index, 3))
    (hpre : ∀ vm₁, s.WarmedH vm₁ → Pre ⟨T.setVm vm₁, locs, cells, slots⟩ argsL.toArray) :
    (∃ (v : Option Value) (vm₁ : Vm) (B : Pt), s.WarmedH vm₁ ∧ Stand p l e R s m args below meth c B.U B.locs B.cells B.slots ∧ Post ⟨T.setVm vm₁, locs, cells, slots⟩ argsL.toArray v B ∧
      ∀ target, Steps p.tables e below (B.U.setTop { g with pc := g.pc + 3, stack := v.toList ++ rest }) target → Steps p.tables e below (T.setTop g) target) ∨
    (∃ (q : Addr) (vm₁ : Vm) (B : Pt), s.WarmedH vm₁ ∧ Stand p l e R s m args below meth c B.U B.locs B.cells B.slots ∧ PostX ⟨T.setVm vm₁, locs, cells, slots⟩ argsL.toArray q B ∧
      Steps p.tables e below (T.setTop g) ((B.U.setTop { g with stack := rest }).pushFrame (.throwing q))) := by
  obtain ⟨mk, hnamed⟩ := Cond.code_named hcode
  obtain ⟨methM, cM, hmethM, -, -, -, -, -, -, hsigM⟩ := Cond.code_spec hnamed hcode
  have hstatic : methM.isStatic = true := Cond.static_spec hnamed hmethM hstat
  obtain ⟨kP, hkP, -⟩ := className_of_methodNamed hnamed
  have hinitP : kP.init = .initialized := Cond.initialized_spec (findClass_of_methodNamed hnamed) hkP hinit
  obtain ⟨vm₁, X₁, hstep₁⟩ := X.invokestatic hexec hown hlink hnamed hmethM hstatic hkP hinitP hy (g := g) hg (argsL := argsL) (rest := rest) (hlen _ hsigM) hstack hdg
  rcases hK m meth c ⟨T.setVm vm₁, locs, cells, slots⟩ { g with stack := rest } (.invokestatic index) mk argsL.toArray X₁ hg hsize hdg hW (X₁.named hnamed) (hpre vm₁ X₁.warmed) with ⟨v, B, X', hpost, hsteps⟩ | ⟨q, B, X', hpost, hsteps⟩
  · exact Or.inl ⟨v, vm₁, B, X₁.warmed, X', hpost, fun target h => hstep₁ _ fun acts => by rw [doInvoke_state]; exact hsteps.trans h⟩
  · exact Or.inr ⟨q, vm₁, B, X₁.warmed, X', hpost, hstep₁ _ fun acts => by rw [doInvoke_state]; exact hsteps⟩
end Calls
theorem vx_cls {s : State} {T : State} {vm₁ : Vm} {E : String} {k : ClassId} (hW : s.WarmedH vm₁) (h : (T.setVm vm₁).vm.findClass E = some k) : s.vm.findClass E = some k := by
  have h1 : vm₁.findClass E = some k := h
  rw [hW.alike.findClass] at h1
  exact h1
/-- the method's frame g, with q thrown over it -/
def vx_W (p : Program) (l : Launch) (e : Env) (R : Room) (s : State) (m : MethodId) (args : Array Value) (below : List Frame) (meth : Method) (c : Code) (H : Heap) (locs : List Loc) (cells slots : Nat) (Q : State → Prop) (g : JFrame) (q : Addr) : Prop :=
  ∀ T : State, T.heap = H → Stand p l e R s m args below meth c T locs cells slots → ∃ t, Steps p.tables e below ((T.setTop g).pushFrame (.throwing q)) t ∧ Q t
def vx_Run (p : Program) (l : Launch) (e : Env) (R : Room) (s : State) (m : MethodId) (args : Array Value) (below : List Frame) (meth : Method) (c : Code) (H : Heap) (locs : List Loc) (cells slots mc ms : Nat) (g : JFrame) (rest : List Value) (Qa : State → Outcome → State → Prop) (XC : String → State → State → Prop) (free : Addr → Prop) : Prop :=
  ∀ T : State, T.heap = H → Stand p l e R s m args below meth c T locs cells slots →
    (∃ (v : Option Value) (st₀ t T' : State) (L : List Loc), st₀.heap = H ∧ Stand p l e R s m args below meth c T' (locs ++ L) (cells + mc) (slots + ms) ∧ (∀ q ∈ L, free q.base) ∧ T'.heap = t.heap ∧ T'.vm = t.vm ∧ Qa st₀ (.returned v) t ∧
      Goes p e below T g T' { g with pc := g.pc + 3, stack := v.toList ++ rest }) ∨
    (∃ (q : Addr) (st₀ t T' : State) (L : List Loc) (E : String) (ce : Cell), st₀.heap = H ∧ Stand p l e R s m args below meth c T' (locs ++ L) (cells + mc) (slots + ms) ∧ (∀ z ∈ L, free z.base) ∧ T'.heap = t.heap ∧ T'.vm = t.vm ∧ XC E st₀ t ∧ t.heap[q]? = some ce ∧ ce.vm = .none ∧ s.vm.findClass E = some ce.cls ∧
      Steps p.tables e below (T.setTop g) ((T'.setTop { g with stack := rest }).pushFrame (.throwing q)))
def vx_X {S : Type} (px : S → Prop) (B : String → S → State → Prop) (A : Nat → Prop) : String → State → State → Prop := fun E st t => ∃ u : S, px u ∧ B E u t ∧ va_F A st t
section Runs
variable {p : Program} {l : Launch} {e : Env} {R : Room} {s : State} {m : MethodId} {args : Array Value} {below : List Frame} {meth : Method} {c : Code} {H : Heap} {locs : List Loc} {cells slots : Nat}
variable {y : MethodName} {bytes cc : ByteArray} {maxL nL mc ms n index : Nat} {ret : Option FieldType} {ws : List Cond} {rm : Room} {Pc : Array Value → State → Prop} {Qc : Array Value → State → Outcome → State → Prop} {XC : String → State → State → Prop} {free : Addr → Prop} {Ts : List Cond} {own C : String} {b : Addr} {As rest : List Value} {g : JFrame}
theorem vx_callBack (cb : CallB R s args own index y bytes maxL ret ws rm mc ms n) (hM : vx_Met l y ws rm Pc Qc XC mc ms free) (hbl : FrameBlind Pc) : vx_Back l R p e below s args y 3 8 (PreOf R mc ms Pc) (PostOf Qc mc ms free) (vx_Post XC mc ms free) := by
  obtain ⟨hrc, hrs, hfr, hlo, hws, hcw, -, hini, -⟩ := cb
  exact vx_back (bytes := bytes) (maxL := maxL) (ret := ret) hM hbl hrc hrs hfr hlo hws hcw (fun a' U hW => word_at hW (Or.inl (by first | rfl | simp [Cond.onTables, Cond.keeps, Cond.steady])) hini)
theorem vx_runV (S : CallFix p m c cc nL s args Ts own) (hM : vx_Met l y ws rm Pc Qc XC mc ms free) (cw : CallW R s args own C index y bytes maxL ret ws rm mc ms n) (hp : PreV s H C b Pc As)
    (hg : g.method = m) (hn : As.length = n) (hsize : g.locals.size = nL) (hstack : g.stack = As.reverse ++ .ref b :: rest) (hW : 2 * g.monitorRoom + (rest.map fun v => v.category).sum ≤ 8) (hdg : decode cc g.pc = .ok (.invokevirtual index, 3)) (hf : cells + mc ≤ R.cells ∧ slots + ms ≤ R.slots) :
    vx_Run p l e R s m args below meth c H locs cells slots mc ms g rest (Qc (Value.ref b :: As).toArray) XC free := by
  have hK : vx_Back l R p e below s args y 3 8 (PreOf R mc ms Pc) (PostOf Qc mc ms free) (vx_Post XC mc ms free) := vx_callBack cw.1 hM hp.1
  obtain ⟨⟨-, -, -, -, -, -, hcode, -, hy, hlen, hl⟩, hin, hse⟩ := cw
  obtain ⟨hx, hb, hml, ho, -⟩ := S
  obtain ⟨-, ⟨cellB, hcB, hoB, hclB⟩, hPc⟩ := hp
  intro T hT X
  rcases vx_callV X hx (C := C) (bytes := bytes) (maxL := maxL) (ret := ret) ho hl hin hse hcode hy hK (by rw [hT]; exact hcB) hoB hclB hg (hsize.trans hml.symm) (argsL := As) (rest := rest) (fun sig h => hn.trans (hlen sig h)) hstack hW (by rw [hb]; exact hdg)
    (fun vm₁ hW₁ => ⟨hf.1, hf.2, hPc (T.setVm vm₁) hT hW₁⟩) with ⟨v, vm₁, ⟨U', l2, c2, s2⟩, hW₁, X', ⟨g', mk, t, L, e1, e2, hq, h1, hL, h2, h3⟩, st⟩ | ⟨q, vm₁, ⟨U', l2, c2, s2⟩, hW₁, X', ⟨g', mk, t, L, E, ce, e1, e2, hq, hce, hcv, hcl, h1, hL, h2, h3⟩, st⟩
  · dsimp only [Pt.U, Pt.locs, Pt.cells, Pt.slots] at X' e1 e2 h1 h2 h3 st
    subst h1; subst h2; subst h3
    exact Or.inl ⟨v, (T.setVm vm₁).calling g' mk (Value.ref b :: As).toArray, t, U', L, hT, X', hL, e1, e2, hq, st⟩
  · dsimp only [Pt.U, Pt.locs, Pt.cells, Pt.slots] at X' e1 e2 h1 h2 h3 st hcl
    subst h1; subst h2; subst h3
    exact Or.inr ⟨q, (T.setVm vm₁).calling g' mk (Value.ref b :: As).toArray, t, U', L, E, ce, hT, X', hL, e1, e2, hq, hce, hcv, vx_cls hW₁ hcl, st⟩
theorem vx_runS (S : CallFix p m c cc nL s args Ts own) (hM : vx_Met l y ws rm Pc Qc XC mc ms free) (cw : CallB R s args own index y bytes maxL ret ws rm mc ms n ∧ (Cond.static y).before args s = true) (hp : PreS s H Pc As)
    (hg : g.method = m) (hn : As.length = n) (hsize : g.locals.size = nL) (hstack : g.stack = As.reverse ++ rest) (hW : 2 * g.monitorRoom + (rest.map fun v => v.category).sum ≤ 8) (hdg : decode cc g.pc = .ok (.invokestatic index, 3)) (hf : cells + mc ≤ R.cells ∧ slots + ms ≤ R.slots) :
    vx_Run p l e R s m args below meth c H locs cells slots mc ms g rest (Qc As.toArray) XC free := by
  have hK : vx_Back l R p e below s args y 3 8 (PreOf R mc ms Pc) (PostOf Qc mc ms free) (vx_Post XC mc ms free) := vx_callBack cw.1 hM hp.1
  obtain ⟨⟨-, -, -, -, -, -, hcode, hini, hy, hlen, hl⟩, hstt⟩ := cw
  obtain ⟨hx, hb, hml, ho, -⟩ := S
  intro T hT X
  rcases vx_callS X hx (bytes := bytes) (maxL := maxL) (ret := ret) ho hl hstt hini hcode hy hK hg (hsize.trans hml.symm) (argsL := As) (rest := rest) (fun sig h => hn.trans (hlen sig h)) hstack hW (by rw [hb]; exact hdg)
    (fun vm₁ hW₁ => ⟨hf.1, hf.2, hp.2 (T.setVm vm₁) hT hW₁⟩) with ⟨v, vm₁, ⟨U', l2, c2, s2⟩, hW₁, X', ⟨g', mk, t, L, e1, e2, hq, h1, hL, h2, h3⟩, st⟩ | ⟨q, vm₁, ⟨U', l2, c2, s2⟩, hW₁, X', ⟨g', mk, t, L, E, ce, e1, e2, hq, hce, hcv, hcl, h1, hL, h2, h3⟩, st⟩
  · dsimp only [Pt.U, Pt.locs, Pt.cells, Pt.slots] at X' e1 e2 h1 h2 h3 st
    subst h1; subst h2; subst h3
    exact Or.inl ⟨v, (T.setVm vm₁).calling g' mk As.toArray, t, U', L, hT, X', hL, e1, e2, hq, st⟩
  · dsimp only [Pt.U, Pt.locs, Pt.cells, Pt.slots] at X' e1 e2 h1 h2 h3 st hcl
    subst h1; subst h2; subst h3
    exact Or.inr ⟨q, (T.setVm vm₁).calling g' mk As.toArray, t, U', L, E, ce, hT, X', hL, e1, e2, hq, hce, hcv, vx_cls hW₁ hcl, st⟩
end Runs
section Rows
variable {p : Program} {l : Launch} {e : Env} {R : Room} {s : State} {m : MethodId} {args : Array Value} {below : List Frame} {meth : Method} {c : Code} {H : Heap} {locs : List Loc} {cells slots : Nat} {Q : State → Prop}
variable {mc ms : Nat} {free : Addr → Prop} {A0 A1 : Nat → Prop} {H0 : Heap} {a : Array Value} {pc : Nat} {ls : Array Slot} {st0 rest : List Value}
theorem vx_keep {st₀ t T' : State} {L : List Loc} (h0 : st₀.heap = H) (e1 : T'.heap = t.heap) (hS : va_S A0 H0 H locs) (hA : ∀ q, q < H.size → A1 q → A0 q) (hf : ∀ q, free q → A0 q) (hL : ∀ q ∈ L, free q.base) (hF : va_F A1 st₀ t) :
    H.size ≤ T'.heap.size ∧ (∀ q : Nat, q < H.size → ¬ A1 q → T'.heap[q]? = H[q]?) ∧ va_S A0 H0 T'.heap (locs ++ L) := by
  obtain ⟨hz, hk⟩ := hF
  rw [h0] at hz hk
  exact ⟨by rw [e1]; exact hz, fun q h1 h2 => by rw [e1]; exact hk q h1 h2,
    ⟨Nat.le_trans hS.1 (by rw [e1]; exact hz), fun q h1 h2 => by rw [e1, hk q (Nat.lt_of_lt_of_le h1 hS.1) (fun z => h2 (hA q (Nat.lt_of_lt_of_le h1 hS.1) z))]; exact hS.2.1 q h1 h2, fun q hq => by
      rcases List.mem_append.mp hq with h | h
      · exact hS.2.2 q h
      · exact hf _ (hL q h)⟩⟩
theorem vx_calli {S SX : Type} {post : Int32 → S → Prop} {px : SX → Prop} {B : S → State → Prop} {BX : String → SX → State → Prop} {AX : Nat → Prop} (hr : vx_Run p l e R s m args below meth c H locs cells slots mc ms (F0 m pc ls st0) rest (va_Qi post B A1 a) (vx_X px BX AX) free) (hS : va_S A0 H0 H locs) (hA : ∀ q, q < H.size → A1 q → A0 q) (hf : ∀ q, free q → A0 q) (hAX : ∀ q, q < H.size → AX q → A0 q)
    (kx : ∀ (E : String) (ce : Cell) (q9 : Addr) (u : SX) (t : State) (H1 : Heap) (locs1 : List Loc), t.heap = H1 → s.vm.Alike t.vm → px u → BX E u t → H.size ≤ H1.size → (∀ q : Nat, q < H.size → ¬ AX q → H1[q]? = H[q]?) → va_S A0 H0 H1 locs1 → H1[q9]? = some ce → ce.vm = .none → s.vm.findClass E = some ce.cls → vx_W p l e R s m args below meth c H1 locs1 (cells + mc) (slots + ms) Q (F0 m pc ls rest) q9)
    (kk : ∀ (r : Int32) (u : S) (t : State) (H1 : Heap) (locs1 : List Loc), t.heap = H1 → s.vm.Alike t.vm → post r u → B u t → H.size ≤ H1.size → (∀ q : Nat, q < H.size → ¬ A1 q → H1[q]? = H[q]?) → va_S A0 H0 H1 locs1 → W p l e R s m args below meth c H1 locs1 (cells + mc) (slots + ms) Q (F0 m (pc + 3) ls (.int r :: rest))) : W p l e R s m args below meth c H locs cells slots Q (F0 m pc ls st0) := by
  intro T hT X
  rcases hr T hT X with ⟨v, st₀, t, T', L, h0, X', hL, e1, e2, ⟨⟨r, u, hv, hp, hb⟩, hF⟩, st⟩ | ⟨q, st₀, t, T', L, E, ce, h0, X', hL, e1, e2, ⟨u, hp, hb, hF⟩, hce, hcv, hcl, st⟩
  · cases hv
    obtain ⟨k1, k2, k3⟩ := vx_keep h0 e1 hS hA hf hL hF
    obtain ⟨t2, a1, b1⟩ := kk r u t T'.heap (locs ++ L) e1.symm (by rw [← e2]; exact X'.warmed.alike) hp hb k1 k2 k3 T' rfl X'
    exact ⟨t2, st t2 a1, b1⟩
  · obtain ⟨k1, k2, k3⟩ := vx_keep h0 e1 hS hAX hf hL hF
    obtain ⟨t2, a1, b1⟩ := kx E ce q u t T'.heap (locs ++ L) e1.symm (by rw [← e2]; exact X'.warmed.alike) hp hb k1 k2 k3 (by rw [e1]; exact hce) hcv hcl T' rfl X'
    exact ⟨t2, st.trans a1, b1⟩
theorem vx_calll {S SX : Type} {post : Int64 → S → Prop} {px : SX → Prop} {B : S → State → Prop} {BX : String → SX → State → Prop} {AX : Nat → Prop} (hr : vx_Run p l e R s m args below meth c H locs cells slots mc ms (F0 m pc ls st0) rest (va_Ql post B A1 a) (vx_X px BX AX) free) (hS : va_S A0 H0 H locs) (hA : ∀ q, q < H.size → A1 q → A0 q) (hf : ∀ q, free q → A0 q) (hAX : ∀ q, q < H.size → AX q → A0 q)
    (kx : ∀ (E : String) (ce : Cell) (q9 : Addr) (u : SX) (t : State) (H1 : Heap) (locs1 : List Loc), t.heap = H1 → s.vm.Alike t.vm → px u → BX E u t → H.size ≤ H1.size → (∀ q : Nat, q < H.size → ¬ AX q → H1[q]? = H[q]?) → va_S A0 H0 H1 locs1 → H1[q9]? = some ce → ce.vm = .none → s.vm.findClass E = some ce.cls → vx_W p l e R s m args below meth c H1 locs1 (cells + mc) (slots + ms) Q (F0 m pc ls rest) q9)
    (kk : ∀ (r : Int64) (u : S) (t : State) (H1 : Heap) (locs1 : List Loc), t.heap = H1 → s.vm.Alike t.vm → post r u → B u t → H.size ≤ H1.size → (∀ q : Nat, q < H.size → ¬ A1 q → H1[q]? = H[q]?) → va_S A0 H0 H1 locs1 → W p l e R s m args below meth c H1 locs1 (cells + mc) (slots + ms) Q (F0 m (pc + 3) ls (.long r :: rest))) : W p l e R s m args below meth c H locs cells slots Q (F0 m pc ls st0) := by
  intro T hT X
  rcases hr T hT X with ⟨v, st₀, t, T', L, h0, X', hL, e1, e2, ⟨⟨r, u, hv, hp, hb⟩, hF⟩, st⟩ | ⟨q, st₀, t, T', L, E, ce, h0, X', hL, e1, e2, ⟨u, hp, hb, hF⟩, hce, hcv, hcl, st⟩
  · cases hv
    obtain ⟨k1, k2, k3⟩ := vx_keep h0 e1 hS hA hf hL hF
    obtain ⟨t2, a1, b1⟩ := kk r u t T'.heap (locs ++ L) e1.symm (by rw [← e2]; exact X'.warmed.alike) hp hb k1 k2 k3 T' rfl X'
    exact ⟨t2, st t2 a1, b1⟩
  · obtain ⟨k1, k2, k3⟩ := vx_keep h0 e1 hS hAX hf hL hF
    obtain ⟨t2, a1, b1⟩ := kx E ce q u t T'.heap (locs ++ L) e1.symm (by rw [← e2]; exact X'.warmed.alike) hp hb k1 k2 k3 (by rw [e1]; exact hce) hcv hcl T' rfl X'
    exact ⟨t2, st.trans a1, b1⟩
theorem vx_callf {S SX : Type} {post : UInt32 → S → Prop} {px : SX → Prop} {B : S → State → Prop} {BX : String → SX → State → Prop} {AX : Nat → Prop} (hr : vx_Run p l e R s m args below meth c H locs cells slots mc ms (F0 m pc ls st0) rest (va_Qf post B A1 a) (vx_X px BX AX) free) (hS : va_S A0 H0 H locs) (hA : ∀ q, q < H.size → A1 q → A0 q) (hf : ∀ q, free q → A0 q) (hAX : ∀ q, q < H.size → AX q → A0 q)
    (kx : ∀ (E : String) (ce : Cell) (q9 : Addr) (u : SX) (t : State) (H1 : Heap) (locs1 : List Loc), t.heap = H1 → s.vm.Alike t.vm → px u → BX E u t → H.size ≤ H1.size → (∀ q : Nat, q < H.size → ¬ AX q → H1[q]? = H[q]?) → va_S A0 H0 H1 locs1 → H1[q9]? = some ce → ce.vm = .none → s.vm.findClass E = some ce.cls → vx_W p l e R s m args below meth c H1 locs1 (cells + mc) (slots + ms) Q (F0 m pc ls rest) q9)
    (kk : ∀ (r : UInt32) (u : S) (t : State) (H1 : Heap) (locs1 : List Loc), t.heap = H1 → s.vm.Alike t.vm → post r u → B u t → H.size ≤ H1.size → (∀ q : Nat, q < H.size → ¬ A1 q → H1[q]? = H[q]?) → va_S A0 H0 H1 locs1 → W p l e R s m args below meth c H1 locs1 (cells + mc) (slots + ms) Q (F0 m (pc + 3) ls (.float r :: rest))) : W p l e R s m args below meth c H locs cells slots Q (F0 m pc ls st0) := by
  intro T hT X
  rcases hr T hT X with ⟨v, st₀, t, T', L, h0, X', hL, e1, e2, ⟨⟨r, u, hv, hp, hb⟩, hF⟩, st⟩ | ⟨q, st₀, t, T', L, E, ce, h0, X', hL, e1, e2, ⟨u, hp, hb, hF⟩, hce, hcv, hcl, st⟩
  · cases hv
    obtain ⟨k1, k2, k3⟩ := vx_keep h0 e1 hS hA hf hL hF
    obtain ⟨t2, a1, b1⟩ := kk r u t T'.heap (locs ++ L) e1.symm (by rw [← e2]; exact X'.warmed.alike) hp hb k1 k2 k3 T' rfl X'
    exact ⟨t2, st t2 a1, b1⟩
  · obtain ⟨k1, k2, k3⟩ := vx_keep h0 e1 hS hAX hf hL hF
    obtain ⟨t2, a1, b1⟩ := kx E ce q u t T'.heap (locs ++ L) e1.symm (by rw [← e2]; exact X'.warmed.alike) hp hb k1 k2 k3 (by rw [e1]; exact hce) hcv hcl T' rfl X'
    exact ⟨t2, st.trans a1, b1⟩
theorem vx_calld {S SX : Type} {post : UInt64 → S → Prop} {px : SX → Prop} {B : S → State → Prop} {BX : String → SX → State → Prop} {AX : Nat → Prop} (hr : vx_Run p l e R s m args below meth c H locs cells slots mc ms (F0 m pc ls st0) rest (va_Qd post B A1 a) (vx_X px BX AX) free) (hS : va_S A0 H0 H locs) (hA : ∀ q, q < H.size → A1 q → A0 q) (hf : ∀ q, free q → A0 q) (hAX : ∀ q, q < H.size → AX q → A0 q)
    (kx : ∀ (E : String) (ce : Cell) (q9 : Addr) (u : SX) (t : State) (H1 : Heap) (locs1 : List Loc), t.heap = H1 → s.vm.Alike t.vm → px u → BX E u t → H.size ≤ H1.size → (∀ q : Nat, q < H.size → ¬ AX q → H1[q]? = H[q]?) → va_S A0 H0 H1 locs1 → H1[q9]? = some ce → ce.vm = .none → s.vm.findClass E = some ce.cls → vx_W p l e R s m args below meth c H1 locs1 (cells + mc) (slots + ms) Q (F0 m pc ls rest) q9)
    (kk : ∀ (r : UInt64) (u : S) (t : State) (H1 : Heap) (locs1 : List Loc), t.heap = H1 → s.vm.Alike t.vm → post r u → B u t → H.size ≤ H1.size → (∀ q : Nat, q < H.size → ¬ A1 q → H1[q]? = H[q]?) → va_S A0 H0 H1 locs1 → W p l e R s m args below meth c H1 locs1 (cells + mc) (slots + ms) Q (F0 m (pc + 3) ls (.double r :: rest))) : W p l e R s m args below meth c H locs cells slots Q (F0 m pc ls st0) := by
  intro T hT X
  rcases hr T hT X with ⟨v, st₀, t, T', L, h0, X', hL, e1, e2, ⟨⟨r, u, hv, hp, hb⟩, hF⟩, st⟩ | ⟨q, st₀, t, T', L, E, ce, h0, X', hL, e1, e2, ⟨u, hp, hb, hF⟩, hce, hcv, hcl, st⟩
  · cases hv
    obtain ⟨k1, k2, k3⟩ := vx_keep h0 e1 hS hA hf hL hF
    obtain ⟨t2, a1, b1⟩ := kk r u t T'.heap (locs ++ L) e1.symm (by rw [← e2]; exact X'.warmed.alike) hp hb k1 k2 k3 T' rfl X'
    exact ⟨t2, st t2 a1, b1⟩
  · obtain ⟨k1, k2, k3⟩ := vx_keep h0 e1 hS hAX hf hL hF
    obtain ⟨t2, a1, b1⟩ := kx E ce q u t T'.heap (locs ++ L) e1.symm (by rw [← e2]; exact X'.warmed.alike) hp hb k1 k2 k3 (by rw [e1]; exact hce) hcv hcl T' rfl X'
    exact ⟨t2, st.trans a1, b1⟩
theorem vx_callv {S SX : Type} {post : S → Prop} {px : SX → Prop} {B : S → State → Prop} {BX : String → SX → State → Prop} {AX : Nat → Prop} (hr : vx_Run p l e R s m args below meth c H locs cells slots mc ms (F0 m pc ls st0) rest (va_Qv post B A1 a) (vx_X px BX AX) free) (hS : va_S A0 H0 H locs) (hA : ∀ q, q < H.size → A1 q → A0 q) (hf : ∀ q, free q → A0 q) (hAX : ∀ q, q < H.size → AX q → A0 q)
    (kx : ∀ (E : String) (ce : Cell) (q9 : Addr) (u : SX) (t : State) (H1 : Heap) (locs1 : List Loc), t.heap = H1 → s.vm.Alike t.vm → px u → BX E u t → H.size ≤ H1.size → (∀ q : Nat, q < H.size → ¬ AX q → H1[q]? = H[q]?) → va_S A0 H0 H1 locs1 → H1[q9]? = some ce → ce.vm = .none → s.vm.findClass E = some ce.cls → vx_W p l e R s m args below meth c H1 locs1 (cells + mc) (slots + ms) Q (F0 m pc ls rest) q9)
    (kk : ∀ (u : S) (t : State) (H1 : Heap) (locs1 : List Loc), t.heap = H1 → s.vm.Alike t.vm → post u → B u t → H.size ≤ H1.size → (∀ q : Nat, q < H.size → ¬ A1 q → H1[q]? = H[q]?) → va_S A0 H0 H1 locs1 → W p l e R s m args below meth c H1 locs1 (cells + mc) (slots + ms) Q (F0 m (pc + 3) ls (rest))) : W p l e R s m args below meth c H locs cells slots Q (F0 m pc ls st0) := by
  intro T hT X
  rcases hr T hT X with ⟨v, st₀, t, T', L, h0, X', hL, e1, e2, ⟨⟨u, hv, hp, hb⟩, hF⟩, st⟩ | ⟨q, st₀, t, T', L, E, ce, h0, X', hL, e1, e2, ⟨u, hp, hb, hF⟩, hce, hcv, hcl, st⟩
  · cases hv
    obtain ⟨k1, k2, k3⟩ := vx_keep h0 e1 hS hA hf hL hF
    obtain ⟨t2, a1, b1⟩ := kk u t T'.heap (locs ++ L) e1.symm (by rw [← e2]; exact X'.warmed.alike) hp hb k1 k2 k3 T' rfl X'
    exact ⟨t2, st t2 a1, b1⟩
  · obtain ⟨k1, k2, k3⟩ := vx_keep h0 e1 hS hAX hf hL hF
    obtain ⟨t2, a1, b1⟩ := kx E ce q u t T'.heap (locs ++ L) e1.symm (by rw [← e2]; exact X'.warmed.alike) hp hb k1 k2 k3 (by rw [e1]; exact hce) hcv hcl T' rfl X'
    exact ⟨t2, st.trans a1, b1⟩
end Rows
section Ends
variable {p : Program} {l : Launch} {e : Env} {R : Room} {s : State} {m : MethodId} {args : Array Value} {below : List Frame} {meth : Method} {c : Code} {H : Heap} {locs : List Loc} {cells slots : Nat} {Q : State → Prop}
variable {mc ms : Nat} {free : Addr → Prop} {A0 A1 : Nat → Prop} {H0 : Heap} {a : Array Value} {ls : Array Slot} {st0 rest : List Value}
variable {Qc : Array Value → State → Outcome → State → Prop} {XC : String → State → State → Prop}
/-- what a body that may throw owes at its end -/
def vx_MQ (below : List Frame) (Qc : Array Value → State → Outcome → State → Prop) (XC : String → State → State → Prop) (a : Array Value) (s : State) (mc ms : Nat) (free : Addr → Prop) : State → Prop := fun t =>
  ∃ o, t.status = .running ∧ Ended t below o ∧ vx_Q Qc XC mc ms free a s o t
theorem vx_ret {g : JFrame} {mc ms : Nat} (k : W p l e R s m args below meth c H locs cells slots (MQ below Qc args s mc ms free) g) : W p l e R s m args below meth c H locs cells slots (vx_MQ below Qc XC args s mc ms free) g := by
  intro T hT X
  obtain ⟨t, a1, o, b1, b2, b3, b4⟩ := k T hT X
  exact ⟨t, a1, o, b1, b2, Or.inl ⟨b3, b4⟩⟩
/-- not caught here: it goes on to the caller -/
theorem vx_widen {g : JFrame} {q : Addr} {k n : Nat} (h1 : cells ≤ k) (h2 : slots ≤ n) (kk : vx_W p l e R s m args below meth c H locs k n Q g q) : vx_W p l e R s m args below meth c H locs cells slots Q g q := fun T hT X => kk T hT (stand_widen X h1 h2)
theorem vx_out {pc : Nat} {E : String} {ce : Cell} {q : Addr} {mc ms : Nat} (hout : ∀ x ∈ c.exceptionTable.toList, covers x pc = false) (hlocks : meth.locks = false) (hcell : H[q]? = some ce) (hv : ce.vm = .none) (hcl : s.vm.findClass E = some ce.cls)
    (hx : ∀ t : State, t.heap = H → s.vm.Alike t.vm → XC E s t) (hf : ∀ z ∈ locs, free z.base) (hc : cells ≤ mc) (hs : slots ≤ ms) :
    vx_W p l e R s m args below meth c H locs cells slots (vx_MQ below Qc XC args s mc ms free) (F0 m pc ls rest) q := by
  intro T hT X
  obtain ⟨st1, hrun, hend, hW, hsm⟩ := X.leaveThrown q (g := F0 m pc ls rest) rfl rfl rfl hout hlocks
  have hcell9 : (T.setFrames (.throwing q :: below)).heap[q]? = some ce := by
    show T.heap[q]? = some ce
    rw [hT]; exact hcell
  exact ⟨_, st1, .threw q, hrun, hend, Or.inr ⟨q, rfl, E, ce, locs, hx _ hT hW.alike, hcell9, hv, hcl, hW, hsm.mono hc hs, hf⟩⟩
theorem vx_frame {U : State} {k n : Nat} (h : s.sameButNew ({ U with vm := s.vm } : State) locs k n) : s.heap.size ≤ U.heap.size ∧ ∀ q : Nat, q < s.heap.size → (∀ z ∈ locs, z.base ≠ q) → U.heap[q]? = s.heap[q]? := by
  obtain ⟨-, h2, -, -, -, h6⟩ := h
  refine ⟨h2, fun q hq hz => ?_⟩
  obtain ⟨c9, e1, e2, e3, e4⟩ := h6 q _ (Array.getElem?_eq_getElem hq)
  have hs : c9.slots = (s.heap[q]).slots := Array.ext_getElem? fun i => e4 i fun hm => hz _ hm rfl
  have h9 : c9 = s.heap[q] := by
    rw [hs] at e2
    exact e2
  have e5 : U.heap[q]? = some c9 := e1
  rw [e5, h9, Array.getElem?_eq_getElem hq]
/-- the words of a throw but the four that speak of the heap -/
def vx_no (w : Cond) : Bool := decide (w ≠ .isRef (.static Bundle.tN "UNASSIGNED_STACK" Bundle.steD)) && decide (w ≠ .isRef (.static Bundle.tN "SUPPRESSED_SENTINEL" Bundle.listD)) && decide (w ≠ .laysStatic Bundle.tN "UNASSIGNED_STACK" Bundle.steD) && decide (w ≠ .laysStatic Bundle.tN "SUPPRESSED_SENTINEL" Bundle.listD)
def vx_at0 (own : String) (ic : Nat) (X : String) (names : List String) : List Cond := (Bundle.ownAtoms0 own ic X names).filter vx_no
def vx_atS (own : String) (ic : Nat) (X : String) (names : List String) : List Cond := (Bundle.ownAtoms own ic X names).filter vx_no
/-- a word that the tables alone decide, or a good one -/
def vx_ot (w : Cond) : Bool := w.onTables || goodWord w
theorem vx_ot_at {args a' : Array Value} {s U : State} {w : Cond} (hW : s.WarmedH U.vm) (hvm : s.vm = U.vm) (hg : vx_ot w = true) (h : w.before args s = true) : w.before a' U = true := by
  simp only [vx_ot, Bool.or_eq_true] at hg
  rcases hg with hg | hg
  · exact va_tabs hg hvm h
  · exact word_at hW (good_of_word hg) h
/-- a list's words: the good ones out of the method's own list, the others by premises of their own -/
theorem vx_hat {args : Array Value} {s : State} {L B : List Cond} (h1 : ∀ w ∈ L.filter goodWord, w.before args s = true) (h2 : ∀ w ∈ L.filter (fun w => !goodWord w), w ∈ B) (h3 : ∀ w ∈ B, w.before args s = true) : ∀ w ∈ L, w.before args s = true := by
  intro w hw
  by_cases g : goodWord w = true
  · exact h1 w (List.mem_filter.mpr ⟨hw, g⟩)
  · refine h3 w (h2 w (List.mem_filter.mpr ⟨hw, ?_⟩))
    show (!goodWord w) = true
    cases hgw : goodWord w
    · rfl
    · exact absurd hgw g
theorem vx_c {args : Array Value} {s : State} {w : Cond} {B : List Cond} (h : w.before args s = true) (t : ∀ w ∈ B, w.before args s = true) : ∀ w' ∈ w :: B, w'.before args s = true := fun w' h' => (List.mem_cons.mp h').elim (fun e => by rw [e]; exact h) (t w')
theorem vx_n {args : Array Value} {s : State} : ∀ w ∈ ([] : List Cond), w.before args s = true := fun _ h => nomatch h
theorem vx_own {args : Array Value} {s : State} {L : List Cond} (h1 : ∀ w ∈ L.filter vx_no, w.before args s = true)
    (hU : (Cond.isRef (.static Bundle.tN "UNASSIGNED_STACK" Bundle.steD)).before args s = true) (hN : (Cond.isRef (.static Bundle.tN "SUPPRESSED_SENTINEL" Bundle.listD)).before args s = true)
    (lU : (Cond.laysStatic Bundle.tN "UNASSIGNED_STACK" Bundle.steD).before args s = true) (lN : (Cond.laysStatic Bundle.tN "SUPPRESSED_SENTINEL" Bundle.listD).before args s = true) : ∀ w ∈ L, w.before args s = true := by
  intro w hw
  by_cases e1 : w = .isRef (.static Bundle.tN "UNASSIGNED_STACK" Bundle.steD)
  · rw [e1]; exact hU
  · by_cases e2 : w = .isRef (.static Bundle.tN "SUPPRESSED_SENTINEL" Bundle.listD)
    · rw [e2]; exact hN
    · by_cases e3 : w = .laysStatic Bundle.tN "UNASSIGNED_STACK" Bundle.steD
      · rw [e3]; exact lU
      · by_cases e4 : w = .laysStatic Bundle.tN "SUPPRESSED_SENTINEL" Bundle.listD
        · rw [e4]; exact lN
        · exact h1 w (List.mem_filter.mpr ⟨hw, by unfold vx_no; rw [decide_eq_true e1, decide_eq_true e2, decide_eq_true e3, decide_eq_true e4]; rfl⟩)
/-- where a static field lies, its class's statics cell in H -/
def vx_L (C n d : String) (A : Nat → Prop) (U : State) (H : Heap) : Prop := ∃ (c : ClassId) (k : Class) (i : Nat) (f : Field) (a : Nat) (cell : Cell), U.vm.findClass C = some c ∧ U.fieldFound? C n d = some (c, k, i, f) ∧ f.isStatic = true ∧ k.statics = some a ∧ H[a]? = some cell ∧ cell.vm.isStatics = true ∧ cell.cls = c ∧ f.slot < cell.slots.size ∧ k.staticTypes[f.slot]? = some f.type ∧ ¬ A a
theorem vx_L.moved {C n d : String} {A : Nat → Prop} {u U : State} {H : Heap} (hvm : u.vm.Alike U.vm) (h : vx_L C n d A u H) : vx_L C n d A U H := by
  obtain ⟨c, k, i, f, a, cell, h1, h2, h3, h4, h5, h6, h7, h8, h9, h10⟩ := h
  obtain ⟨k', hi', he⟩ := State.fieldFound?_setVm hvm h2
  exact ⟨c, k', i, f, a, cell, by rw [hvm.findClass]; exact h1, hi', h3, by rw [he]; exact h4, h5, h6, h7, h8, by rw [he]; exact h9, h10⟩
theorem vx_L.kept {C n d : String} {A : Nat → Prop} {U : State} {H H1 : Heap} (h : vx_L C n d A U H) (hq : ∀ a : Nat, a < H.size → ¬ A a → H1[a]? = H[a]?) : vx_L C n d A U H1 := by
  obtain ⟨c, k, i, f, a, cell, h1, h2, h3, h4, h5, h6, h7, h8, h9, h10⟩ := h
  exact ⟨c, k, i, f, a, cell, h1, h2, h3, h4, by rw [hq a (Array.getElem?_eq_some_iff.mp h5).1 h10]; exact h5, h6, h7, h8, h9, h10⟩
theorem vx_L.narrow {C n d : String} {A B : Nat → Prop} {U : State} {H : Heap} (h : vx_L C n d A U H) (hAB : ∀ q, B q → A q) : vx_L C n d B U H := by
  obtain ⟨c, k, i, f, a, cell, h1, h2, h3, h4, h5, h6, h7, h8, h9, h10⟩ := h
  exact ⟨c, k, i, f, a, cell, h1, h2, h3, h4, h5, h6, h7, h8, h9, fun z => h10 (hAB _ z)⟩
theorem vx_L.word {C n d : String} {A : Nat → Prop} {s : State} {args : Array Value} (h : vx_L C n d A s s.heap) : (Cond.laysStatic C n d).before args s = true := by
  obtain ⟨c, k, i, f, a, cell, h1, h2, h3, h4, h5, h6, h7, h8, h9, -⟩ := h
  show (Cond.laysStatic C n d).holds args s none s [] = true
  exact Cond.laysStatic_of h1 h2 h3 h4 h5 h6 h7 h8 h9
/-- .. and what it holds: null or some reference -/
def vx_Zq (C n d : String) (A : Nat → Prop) (U : State) (H : Heap) : Prop := va_Zq C n d A U H ∧ vx_L C n d A U H
theorem vx_Zq.moved {C n d : String} {A : Nat → Prop} {u U : State} {H : Heap} (hvm : u.vm.Alike U.vm) (h : vx_Zq C n d A u H) : vx_Zq C n d A U H := ⟨va_Zq.moved hvm h.1, vx_L.moved hvm h.2⟩
theorem vx_Zq.kept {C n d : String} {A : Nat → Prop} {U : State} {H H1 : Heap} (h : vx_Zq C n d A U H) (hq : ∀ a : Nat, a < H.size → ¬ A a → H1[a]? = H[a]?) : vx_Zq C n d A U H1 := ⟨va_Zq.kept h.1 hq, vx_L.kept h.2 hq⟩
theorem vx_Zq.narrow {C n d : String} {A B : Nat → Prop} {U : State} {H : Heap} (h : vx_Zq C n d A U H) (hAB : ∀ q, B q → A q) : vx_Zq C n d B U H := ⟨va_Zq.narrow h.1 hAB, vx_L.narrow h.2 hAB⟩
theorem vx_Zqof {args : Array Value} {s : State} {C n d : String} {A : Nat → Prop} (hl : (Cond.laysStatic C n d).before args s = true) (hini : (Cond.initialized C).before args s = true) (h : (Cond.isRef (.static C n d)).before args s = true) (hA : ∀ a : Nat, a < s.heap.size → ¬ A a) : vx_Zq C n d A s s.heap := by
  refine ⟨va_Zqof hl hini h hA, ?_⟩
  obtain ⟨c, k, i, f, a, cell, h1, h2, h3, h4, h5, h6, h7, h8, h9⟩ := Cond.laysStatic_spec hl
  exact ⟨c, k, i, f, a, cell, h1, h2, h3, h4, h5, h6, h7, h8, h9, hA a (Array.getElem?_eq_some_iff.mp h5).1⟩
theorem vx_isRef {C n d : String} {v : Value} {A : Nat → Prop} {s : State} {args : Array Value} (h : va_Z C n d v A s s.heap) (hv : v.isRef = true) : (Cond.isRef (.static C n d)).before args s = true := by
  obtain ⟨cf, kf, fi, f, a, cell, h1, h2, h3, h4, h5, h6, h7, -⟩ := h
  have he : (Term.static C n d).eval args s none [] s = some v := by
    simp [Term.eval, State.fieldNamed?, h1, h2, h4, h5, h6, h7]
  simp only [Cond.before, Cond.holds, Cond.value, he]
  cases v <;> simp_all [Value.isRef]
theorem vx_isRefq {C n d : String} {A : Nat → Prop} {s : State} {args : Array Value} (h : va_Zq C n d A s s.heap) : (Cond.isRef (.static C n d)).before args s = true := by
  rcases h with h | ⟨t, h⟩
  · exact vx_isRef h rfl
  · exact vx_isRef h rfl
/-- the same frame, seen from here: as if the method were called anew in this heap -/
theorem vx_rebase {T : State} (X : Stand p l e R s m args below meth c T locs cells slots) {R' : Room} (hf : R'.frames ≤ R.frames) (hl : R'.locals ≤ R.locals) (hc : cells + R'.cells ≤ R.cells) (hs : slots + R'.slots ≤ R.slots) :
    Stand p l e R' ((T.setVm s.vm).setFrames (.invoking m args :: below)) m args below meth c T [] 0 0 := by
  have htop : (T.setVm s.vm).topJava?.isSome := X.here.top
  have hF : ((T.setVm s.vm).setFrames (.invoking m args :: below)).frames = .invoking m args :: below := State.frames_setFrames _ (State.cur_lt_of_top htop)
  obtain ⟨g₀, hg0⟩ := Option.isSome_iff_exists.mp htop
  obtain ⟨r, hr⟩ := State.topJava?_eq_some.mp hg0
  have hl9 : e.platform.stackLimits (T.setVm s.vm).me = e.platform.stackLimits s.me := X.limits
  have hb9 : (T.setVm s.vm).me.stackBytes = s.me.stackBytes := X.bytes
  refine ⟨X.admits, X.cas, X.clock, hF, ?_, X.hears, X.method, X.code, X.here, X.tail, X.warmed, ?_, ?_, ?_⟩
  · have h := X.room
    have hU : ((T.setVm s.vm).setFrames (.invoking m args :: below)).localsInUse = s.localsInUse := by
      rw [State.localsInUse_invoking hF (meth := meth) (c := c) X.method X.code, State.localsInUse_invoking X.frames X.method X.code]
    simp only [State.hasRoom, Bool.and_eq_true, decide_eq_true_eq] at h ⊢
    obtain ⟨⟨⟨⟨h1, h2, h3, h4, h5, h6⟩, h7⟩, h8⟩, h9⟩ := h
    rw [X.frames, List.length_cons] at h2 h3
    have q1 := X.heapSize
    have q2 := X.used
    simp only [hF, hU, List.length_cons, State.stackLimits_setFrames, State.stackBytes_setFrames, hl9, hb9]
    refine ⟨⟨⟨⟨by omega, by omega, by omega, by omega, by omega, h6⟩, ?_⟩, ?_⟩, X.book⟩
    · show T.heap.size + R'.cells ≤ e.platform.maxCells
      omega
    · show T.slotsUsed + R'.slots ≤ e.platform.maxSlots
      omega
  · rw [State.stackLimits_setFrames]; rfl
  · rw [State.stackBytes_setFrames]; rfl
  · refine ⟨?_, Nat.le_refl _, Nat.le_refl _, ?_, ?_, fun a c9 h9 => ⟨c9, h9, rfl, rfl, fun _ _ => rfl⟩⟩
    · obtain ⟨t, ht, -⟩ := State.frames_cons hr
      show T.setVm s.vm = { ((T.setVm s.vm).setFrames (.invoking m args :: below)).setFrames (T.setVm s.vm).frames with heap := T.heap, slotsUsed := T.slotsUsed }
      rw [State.setFrames_setFrames, State.setFrames_self ht]
      rfl
    · show T.slotsUsed = T.slotsUsed + ((T.heap.toList.drop T.heap.size).map (·.slots.size)).sum
      rw [List.drop_eq_nil_of_le (Nat.le_of_eq Array.length_toList)]
      rfl
    · show ((T.heap.toList.drop T.heap.size).map (·.slots.size)).sum ≤ 0
      rw [List.drop_eq_nil_of_le (Nat.le_of_eq Array.length_toList)]
      exact Nat.le_refl _
/-- 'throw new E()': new; dup; invokespecial; athrow -/
theorem vx_throw0 {cc : ByteArray} {pc : Nat} (hexec : p.tables.exec = Jvm.exec) (hb : c.code = cc) (hl : l.stackTraces = false) {own cls : String} {names : List String} {ik ic mc ms : Nat} {A : Nat → Prop}
    (hown : s.vm.findClass own = some m.cls) (hcls : Bundle.fit cls = true) (hnames : ∀ n ∈ names, Bundle.fit n = true)
    (hk : (Cond.classLink own ik cls).before args s = true) (hini : (Cond.initialized cls).before args s = true) (hat : ∀ w ∈ vx_at0 own ic cls names, w.before args s = true)
    (hgood : ∀ w ∈ Cond.classLink own ik cls :: Cond.initialized cls :: vx_at0 own ic cls names, vx_ot w = true)
    (hU : vx_Zq Bundle.tN "UNASSIGNED_STACK" Bundle.steD A s s.heap) (hN : vx_Zq Bundle.tN "SUPPRESSED_SENTINEL" Bundle.listD A s s.heap) (hS : va_S A s.heap H locs) (hsize : ls.size = c.maxLocals)
    (d0 : decode cc pc = .ok (.new ik, 3)) (d3 : decode cc (pc + 3) = .ok (.dup, 1)) (d4 : decode cc (pc + 4) = .ok (.invokespecial ic, 3)) (d7 : decode cc (pc + 7) = .ok (.athrow, 1))
    (hout : ∀ x ∈ c.exceptionTable.toList, covers x (pc + 7) = false)
    (hRframes : names.length + 3 < R.frames) (hRlocals : (rest.map fun v => v.category).sum + (13 * (names.length + 1) + 42) ≤ R.locals) (hRcells : cells + 1 ≤ R.cells) (hRslots : slots + 6 ≤ R.slots) (hlocks : meth.locks = false)
    (hx : ∀ t : State, s.vm.Alike t.vm → H.size ≤ t.heap.size → (∀ q : Nat, q < H.size → t.heap[q]? = H[q]?) → XC cls s t)
    (hf : ∀ z ∈ locs, free z.base) (hc : cells + 1 ≤ mc) (hs : slots + 6 ≤ ms) :
    W p l e R s m args below meth c H locs cells slots (vx_MQ below Qc XC args s mc ms free) (F0 m pc ls rest) := by
  intro T hT X
  have htr : e.platform.stackTraces = false := (show e.platform.stackTraces = l.stackTraces by rw [X.admits.platform]).trans hl
  have Y := vx_rebase X (R' := { frames := R.frames, locals := R.locals, cells := 1, slots := 6 }) (Nat.le_refl _) (Nat.le_refl _) hRcells hRslots
  obtain ⟨s', hA⟩ : ∃ z, z = (T.setVm s.vm).setFrames (.invoking m args :: below) := ⟨_, rfl⟩
  rw [← hA] at Y
  have hvm : s'.vm = s.vm := by rw [hA]; rfl
  have hhp : s'.heap = H := by rw [hA]; exact hT
  have hW0 : s.WarmedH s'.vm := by rw [hvm]; exact State.WarmedH.refl s
  have hat' : ∀ w ∈ vx_at0 own ic cls names, w.before args s' = true := fun w hw => vx_ot_at hW0 hvm.symm (hgood w (List.mem_cons_of_mem _ (List.mem_cons_of_mem _ hw))) (hat w hw)
  have hk' : (Cond.classLink own ik cls).before args s' = true := vx_ot_at hW0 hvm.symm (hgood _ List.mem_cons_self) hk
  have hini' : (Cond.initialized cls).before args s' = true := vx_ot_at hW0 hvm.symm (hgood _ (List.mem_cons_of_mem _ List.mem_cons_self)) hini
  have hU' : vx_Zq Bundle.tN "UNASSIGNED_STACK" Bundle.steD A s' s'.heap := by rw [hhp]; exact vx_Zq.moved hW0.alike (hU.kept hS.2.1)
  have hN' : vx_Zq Bundle.tN "SUPPRESSED_SENTINEL" Bundle.listD A s' s'.heap := by rw [hhp]; exact vx_Zq.moved hW0.alike (hN.kept hS.2.1)
  have h : ∀ w ∈ Bundle.ownAtoms0 own ic cls names, w.before args s' = true := vx_own hat' (vx_isRefq hU'.1) (vx_isRefq hN'.1) hU'.2.word hN'.2.word
  have hown' : s'.vm.findClass own = some m.cls := by rw [hvm]; exact hown
  have hins : (Cond.instantiable cls 6).before args s' = true := h _ (by simp [Bundle.ownAtoms0])
  obtain ⟨vm₁, cX, kX, hfX, hkX, -, -, X₁, st1⟩ := Y.newCold hexec (own := own) (C := cls) (index := ik) (n := 6) hown' hk' hins hini'
    (g := F0 m pc ls rest) rfl (by rw [hb]; exact d0) (Nat.le_refl _) (Nat.le_refl _)
  generalize hT1 : (T.setVm vm₁).pushCell { cls := cX, slots := kX.instanceTypes.map defaultValue, vm := .none } = T1 at X₁ st1
  have hcat : (Value.ref T.heap.size).category = 1 := rfl
  have hcellA : T1.heap[T.heap.size]? = some (freshCell cX kX) := by rw [← hT1]; exact State.heap_pushCell_size _ _
  have d3' : decode c.code (pc + 3) = .ok (.dup, 1) := by rw [hb]; exact d3
  obtain ⟨U, hsteps, hrun, hend, hW, hsame, ce, hce, hO⟩ := X₁.ctorThrow0 hexec htr (own := own) (cls := cls) (names := names) (ic := ic) hown' hcls hnames h (fun x hx => nomatch hx) hfX hkX hcellA (by rw [hhp, hT]; exact Nat.le_refl _)
    (g := { method := m, pc := pc + 4, locals := ls, stack := .ref T.heap.size :: .ref T.heap.size :: rest, locked := none }) rfl hsize rfl rfl (rest := rest) rfl
    (by rw [hb]; exact d4) (by rw [hb]; exact d7) hout hRframes (by simp only [List.map_cons, List.sum_cons, hcat]; omega) hlocks
  obtain ⟨f1, f2⟩ := vx_frame hsame
  rw [hhp] at f1 f2
  have hWs : s.WarmedH U.vm := State.WarmedH.trans hW0 hW
  have hcl : s.vm.findClass cls = some ce.cls := by
    have h9 := hO.cls
    rw [hvm] at h9
    exact h9
  have hall : s.sameButNew ({ U with vm := s.vm } : State) locs mc ms := by
    subst hA
    obtain ⟨e1, e2⟩ := hsame
    rw [State.setFrames_setFrames] at e1
    have h2 : (T.setVm s.vm).sameButNew ({ U with vm := s.vm } : State) [] (0 + 1) (0 + 6) := ⟨e1, e2⟩
    have h3 := X.same.trans h2
    rw [List.append_nil] at h3
    exact h3.mono hc hs
  refine ⟨U, ?_, .threw T.heap.size, hrun, hend, Or.inr ⟨T.heap.size, rfl, cls, ce, locs, hx U hWs.alike f1 (fun q hq => f2 q hq (fun z hz => nomatch hz)), hce, hO.vm, hcl, hWs, hall, hf⟩⟩
  refine st1 _ ?_
  show Steps p.tables e below (T1.setTop { method := m, pc := pc + 3, locals := ls, stack := .ref T.heap.size :: rest, locked := none }) _
  jvm_step X₁.here [X₁.here.top, hexec, d3', Value.category]
  exact hsteps
/-- 'throw new E("text")': new; dup; ldc; invokespecial; athrow -/
theorem vx_throwS {cc : ByteArray} {pc : Nat} (hexec : p.tables.exec = Jvm.exec) (hb : c.code = cc) (hl : l.stackTraces = false) {own cls text : String} {names : List String} {ik is ic mc ms sa : Nat} {A : Nat → Prop}
    (hown : s.vm.findClass own = some m.cls) (hcls : Bundle.fit cls = true) (hnames : ∀ n ∈ names, Bundle.fit n = true)
    (hk : (Cond.classLink own ik cls).before args s = true) (hini : (Cond.initialized cls).before args s = true) (hstr : vk_R own is text sa s) (hat : ∀ w ∈ vx_atS own ic cls names, w.before args s = true)
    (hgood : ∀ w ∈ Cond.classLink own ik cls :: Cond.initialized cls :: vx_atS own ic cls names, vx_ot w = true)
    (hU : vx_Zq Bundle.tN "UNASSIGNED_STACK" Bundle.steD A s s.heap) (hN : vx_Zq Bundle.tN "SUPPRESSED_SENTINEL" Bundle.listD A s s.heap) (hS : va_S A s.heap H locs) (hsize : ls.size = c.maxLocals)
    (d0 : decode cc pc = .ok (.new ik, 3)) (d3 : decode cc (pc + 3) = .ok (.dup, 1)) (d4 : decode cc (pc + 4) = .ok (.ldc is, 2)) (d6 : decode cc (pc + 6) = .ok (.invokespecial ic, 3)) (d9 : decode cc (pc + 9) = .ok (.athrow, 1))
    (hout : ∀ x ∈ c.exceptionTable.toList, covers x (pc + 9) = false)
    (hRframes : names.length + 3 < R.frames) (hRlocals : (rest.map fun v => v.category).sum + (13 * (names.length + 1) + 43) ≤ R.locals) (hRcells : cells + 1 ≤ R.cells) (hRslots : slots + 6 ≤ R.slots) (hlocks : meth.locks = false)
    (hx : ∀ t : State, s.vm.Alike t.vm → H.size ≤ t.heap.size → (∀ q : Nat, q < H.size → t.heap[q]? = H[q]?) → XC cls s t)
    (hf : ∀ z ∈ locs, free z.base) (hc : cells + 1 ≤ mc) (hs : slots + 6 ≤ ms) :
    W p l e R s m args below meth c H locs cells slots (vx_MQ below Qc XC args s mc ms free) (F0 m pc ls rest) := by
  intro T hT X
  have htr : e.platform.stackTraces = false := (show e.platform.stackTraces = l.stackTraces by rw [X.admits.platform]).trans hl
  have Y := vx_rebase X (R' := { frames := R.frames, locals := R.locals, cells := 1, slots := 6 }) (Nat.le_refl _) (Nat.le_refl _) hRcells hRslots
  obtain ⟨s', hA⟩ : ∃ z, z = (T.setVm s.vm).setFrames (.invoking m args :: below) := ⟨_, rfl⟩
  rw [← hA] at Y
  have hvm : s'.vm = s.vm := by rw [hA]; rfl
  have hhp : s'.heap = H := by rw [hA]; exact hT
  have hW0 : s.WarmedH s'.vm := by rw [hvm]; exact State.WarmedH.refl s
  have hat' : ∀ w ∈ vx_atS own ic cls names, w.before args s' = true := fun w hw => vx_ot_at hW0 hvm.symm (hgood w (List.mem_cons_of_mem _ (List.mem_cons_of_mem _ hw))) (hat w hw)
  have hk' : (Cond.classLink own ik cls).before args s' = true := vx_ot_at hW0 hvm.symm (hgood _ List.mem_cons_self) hk
  have hini' : (Cond.initialized cls).before args s' = true := vx_ot_at hW0 hvm.symm (hgood _ (List.mem_cons_of_mem _ List.mem_cons_self)) hini
  have hU' : vx_Zq Bundle.tN "UNASSIGNED_STACK" Bundle.steD A s' s'.heap := by rw [hhp]; exact vx_Zq.moved hW0.alike (hU.kept hS.2.1)
  have hN' : vx_Zq Bundle.tN "SUPPRESSED_SENTINEL" Bundle.listD A s' s'.heap := by rw [hhp]; exact vx_Zq.moved hW0.alike (hN.kept hS.2.1)
  have h : ∀ w ∈ Bundle.ownAtoms own ic cls names, w.before args s' = true := vx_own hat' (vx_isRefq hU'.1) (vx_isRefq hN'.1) hU'.2.word hN'.2.word
  have hown' : s'.vm.findClass own = some m.cls := by rw [hvm]; exact hown
  have hins : (Cond.instantiable cls 6).before args s' = true := h _ (by simp [Bundle.ownAtoms])
  obtain ⟨vm₁, cX, kX, hfX, hkX, -, -, X₁, st1⟩ := Y.newCold hexec (own := own) (C := cls) (index := ik) (n := 6) hown' hk' hins hini'
    (g := F0 m pc ls rest) rfl (by rw [hb]; exact d0) (Nat.le_refl _) (Nat.le_refl _)
  generalize hT1 : (T.setVm vm₁).pushCell { cls := cX, slots := kX.instanceTypes.map defaultValue, vm := .none } = T1 at X₁ st1
  have hcat : (Value.ref T.heap.size).category = 1 := rfl
  have hcellA : T1.heap[T.heap.size]? = some (freshCell cX kX) := by rw [← hT1]; exact State.heap_pushCell_size _ _
  have d3' : decode c.code (pc + 3) = .ok (.dup, 1) := by rw [hb]; exact d3
  have d4' : decode c.code (pc + 4) = .ok (.ldc is, 2) := by rw [hb]; exact d4
  have hstr' : vk_R own is text sa s' := vk_R.warm hW0 hstr
  obtain ⟨U, hsteps, hrun, hend, hW, hsame, ce, hce, hO⟩ := X₁.ctorThrowS hexec htr (own := own) (cls := cls) (names := names) (ic := ic) hown' hcls hnames h (fun x hx => nomatch hx) hfX hkX hcellA (by rw [hhp, hT]; exact Nat.le_refl _) (msg := .ref sa) rfl
    (g := { method := m, pc := pc + 6, locals := ls, stack := .ref sa :: .ref T.heap.size :: .ref T.heap.size :: rest, locked := none }) rfl hsize rfl rfl (rest := rest) rfl
    (by rw [hb]; exact d6) (by rw [hb]; exact d9) hout hRframes (by simp only [List.map_cons, List.sum_cons, hcat]; omega) hlocks
  obtain ⟨f1, f2⟩ := vx_frame hsame
  rw [hhp] at f1 f2
  have hWs : s.WarmedH U.vm := State.WarmedH.trans hW0 hW
  have hcl : s.vm.findClass cls = some ce.cls := by
    have h9 := hO.cls
    rw [hvm] at h9
    exact h9
  have hall : s.sameButNew ({ U with vm := s.vm } : State) locs mc ms := by
    subst hA
    obtain ⟨e1, e2⟩ := hsame
    rw [State.setFrames_setFrames] at e1
    have h2 : (T.setVm s.vm).sameButNew ({ U with vm := s.vm } : State) [] (0 + 1) (0 + 6) := ⟨e1, e2⟩
    have h3 := X.same.trans h2
    rw [List.append_nil] at h3
    exact h3.mono hc hs
  refine ⟨U, ?_, .threw T.heap.size, hrun, hend, Or.inr ⟨T.heap.size, rfl, cls, ce, locs, hx U hWs.alike f1 (fun q hq => f2 q hq (fun z hz => nomatch hz)), hce, hO.vm, hcl, hWs, hall, hf⟩⟩
  refine st1 _ ?_
  show Steps p.tables e below (T1.setTop { method := m, pc := pc + 3, locals := ls, stack := .ref T.heap.size :: rest, locked := none }) _
  jvm_step X₁.here [X₁.here.top, hexec, d3', Value.category]
  exact X₁.ldcString hexec (own := own) (text := text) (index := is) (a := sa) hown' hstr'.1 hstr'.2
    (g := { method := m, pc := pc + 4, locals := ls, stack := .ref T.heap.size :: .ref T.heap.size :: rest, locked := none }) rfl d4' _ hsteps
/-- 'throw new E("text")', the text by a wide index -/
theorem vx_throwSW {cc : ByteArray} {pc : Nat} (hexec : p.tables.exec = Jvm.exec) (hb : c.code = cc) (hl : l.stackTraces = false) {own cls text : String} {names : List String} {ik is ic mc ms sa : Nat} {A : Nat → Prop}
    (hown : s.vm.findClass own = some m.cls) (hcls : Bundle.fit cls = true) (hnames : ∀ n ∈ names, Bundle.fit n = true)
    (hk : (Cond.classLink own ik cls).before args s = true) (hini : (Cond.initialized cls).before args s = true) (hstr : vk_R own is text sa s) (hat : ∀ w ∈ vx_atS own ic cls names, w.before args s = true)
    (hgood : ∀ w ∈ Cond.classLink own ik cls :: Cond.initialized cls :: vx_atS own ic cls names, vx_ot w = true)
    (hU : vx_Zq Bundle.tN "UNASSIGNED_STACK" Bundle.steD A s s.heap) (hN : vx_Zq Bundle.tN "SUPPRESSED_SENTINEL" Bundle.listD A s s.heap) (hS : va_S A s.heap H locs) (hsize : ls.size = c.maxLocals)
    (d0 : decode cc pc = .ok (.new ik, 3)) (d3 : decode cc (pc + 3) = .ok (.dup, 1)) (d4 : decode cc (pc + 4) = .ok (.ldc_w is, 3)) (d7 : decode cc (pc + 7) = .ok (.invokespecial ic, 3)) (d10 : decode cc (pc + 10) = .ok (.athrow, 1))
    (hout : ∀ x ∈ c.exceptionTable.toList, covers x (pc + 10) = false)
    (hRframes : names.length + 3 < R.frames) (hRlocals : (rest.map fun v => v.category).sum + (13 * (names.length + 1) + 43) ≤ R.locals) (hRcells : cells + 1 ≤ R.cells) (hRslots : slots + 6 ≤ R.slots) (hlocks : meth.locks = false)
    (hx : ∀ t : State, s.vm.Alike t.vm → H.size ≤ t.heap.size → (∀ q : Nat, q < H.size → t.heap[q]? = H[q]?) → XC cls s t)
    (hf : ∀ z ∈ locs, free z.base) (hc : cells + 1 ≤ mc) (hs : slots + 6 ≤ ms) :
    W p l e R s m args below meth c H locs cells slots (vx_MQ below Qc XC args s mc ms free) (F0 m pc ls rest) := by
  intro T hT X
  have htr : e.platform.stackTraces = false := (show e.platform.stackTraces = l.stackTraces by rw [X.admits.platform]).trans hl
  have Y := vx_rebase X (R' := { frames := R.frames, locals := R.locals, cells := 1, slots := 6 }) (Nat.le_refl _) (Nat.le_refl _) hRcells hRslots
  obtain ⟨s', hA⟩ : ∃ z, z = (T.setVm s.vm).setFrames (.invoking m args :: below) := ⟨_, rfl⟩
  rw [← hA] at Y
  have hvm : s'.vm = s.vm := by rw [hA]; rfl
  have hhp : s'.heap = H := by rw [hA]; exact hT
  have hW0 : s.WarmedH s'.vm := by rw [hvm]; exact State.WarmedH.refl s
  have hat' : ∀ w ∈ vx_atS own ic cls names, w.before args s' = true := fun w hw => vx_ot_at hW0 hvm.symm (hgood w (List.mem_cons_of_mem _ (List.mem_cons_of_mem _ hw))) (hat w hw)
  have hk' : (Cond.classLink own ik cls).before args s' = true := vx_ot_at hW0 hvm.symm (hgood _ List.mem_cons_self) hk
  have hini' : (Cond.initialized cls).before args s' = true := vx_ot_at hW0 hvm.symm (hgood _ (List.mem_cons_of_mem _ List.mem_cons_self)) hini
  have hU' : vx_Zq Bundle.tN "UNASSIGNED_STACK" Bundle.steD A s' s'.heap := by rw [hhp]; exact vx_Zq.moved hW0.alike (hU.kept hS.2.1)
  have hN' : vx_Zq Bundle.tN "SUPPRESSED_SENTINEL" Bundle.listD A s' s'.heap := by rw [hhp]; exact vx_Zq.moved hW0.alike (hN.kept hS.2.1)
  have h : ∀ w ∈ Bundle.ownAtoms own ic cls names, w.before args s' = true := vx_own hat' (vx_isRefq hU'.1) (vx_isRefq hN'.1) hU'.2.word hN'.2.word
  have hown' : s'.vm.findClass own = some m.cls := by rw [hvm]; exact hown
  have hins : (Cond.instantiable cls 6).before args s' = true := h _ (by simp [Bundle.ownAtoms])
  obtain ⟨vm₁, cX, kX, hfX, hkX, -, -, X₁, st1⟩ := Y.newCold hexec (own := own) (C := cls) (index := ik) (n := 6) hown' hk' hins hini'
    (g := F0 m pc ls rest) rfl (by rw [hb]; exact d0) (Nat.le_refl _) (Nat.le_refl _)
  generalize hT1 : (T.setVm vm₁).pushCell { cls := cX, slots := kX.instanceTypes.map defaultValue, vm := .none } = T1 at X₁ st1
  have hcat : (Value.ref T.heap.size).category = 1 := rfl
  have hcellA : T1.heap[T.heap.size]? = some (freshCell cX kX) := by rw [← hT1]; exact State.heap_pushCell_size _ _
  have d3' : decode c.code (pc + 3) = .ok (.dup, 1) := by rw [hb]; exact d3
  have d4' : decode c.code (pc + 4) = .ok (.ldc_w is, 3) := by rw [hb]; exact d4
  have hstr' : vk_R own is text sa s' := vk_R.warm hW0 hstr
  obtain ⟨U, hsteps, hrun, hend, hW, hsame, ce, hce, hO⟩ := X₁.ctorThrowS hexec htr (own := own) (cls := cls) (names := names) (ic := ic) hown' hcls hnames h (fun x hx => nomatch hx) hfX hkX hcellA (by rw [hhp, hT]; exact Nat.le_refl _) (msg := .ref sa) rfl
    (g := { method := m, pc := pc + 7, locals := ls, stack := .ref sa :: .ref T.heap.size :: .ref T.heap.size :: rest, locked := none }) rfl hsize rfl rfl (rest := rest) rfl
    (by rw [hb]; exact d7) (by rw [hb]; exact d10) hout hRframes (by simp only [List.map_cons, List.sum_cons, hcat]; omega) hlocks
  obtain ⟨f1, f2⟩ := vx_frame hsame
  rw [hhp] at f1 f2
  have hWs : s.WarmedH U.vm := State.WarmedH.trans hW0 hW
  have hcl : s.vm.findClass cls = some ce.cls := by
    have h9 := hO.cls
    rw [hvm] at h9
    exact h9
  have hall : s.sameButNew ({ U with vm := s.vm } : State) locs mc ms := by
    subst hA
    obtain ⟨e1, e2⟩ := hsame
    rw [State.setFrames_setFrames] at e1
    have h2 : (T.setVm s.vm).sameButNew ({ U with vm := s.vm } : State) [] (0 + 1) (0 + 6) := ⟨e1, e2⟩
    have h3 := X.same.trans h2
    rw [List.append_nil] at h3
    exact h3.mono hc hs
  refine ⟨U, ?_, .threw T.heap.size, hrun, hend, Or.inr ⟨T.heap.size, rfl, cls, ce, locs, hx U hWs.alike f1 (fun q hq => f2 q hq (fun z hz => nomatch hz)), hce, hO.vm, hcl, hWs, hall, hf⟩⟩
  refine st1 _ ?_
  show Steps p.tables e below (T1.setTop { method := m, pc := pc + 3, locals := ls, stack := .ref T.heap.size :: rest, locked := none }) _
  jvm_step X₁.here [X₁.here.top, hexec, d3', Value.category]
  exact X₁.ldcStringW hexec (own := own) (text := text) (index := is) (a := sa) hown' hstr'.1 hstr'.2
    (g := { method := m, pc := pc + 4, locals := ls, stack := .ref T.heap.size :: .ref T.heap.size :: rest, locked := none }) rfl d4' _ hsteps
end Ends
section Bodies
variable {l : Launch}
theorem vx_ofW {y : MethodName} {ws ws' : List Cond} {rm : Room} {Pc : Array Value → State → Prop} {Qc : Array Value → State → Outcome → State → Prop} {XC : String → State → State → Prop} {mc ms : Nat} {free : Addr → Prop} {cc : ByteArray} {maxL : Nat} {ret : Option FieldType}
    (hy : plainName y.cls = true) (hw : ws = Cond.code y cc maxL ret :: ws')
    (body : ∀ p e s m args below meth c s₁, BodyLoose p l y (headSpec ws rm) cc maxL ret e s m args below meth c s₁ → c.maxLocals = maxL → (∀ x ∈ c.exceptionTable.toList, False) → Pc args s →
      W p l e (headSpec ws rm).room s m args below meth c s.heap [] 0 0 (vx_MQ below Qc XC args s mc ms free) (entryFrame m args maxL)) : vx_Met l y ws rm Pc Qc XC mc ms free := by
  refine MetFree.of_bodyS (code := cc) (maxLocals := maxL) (ret := ret) hy ?_ ?_
  · intro args s m h hn
    obtain ⟨meth, c, h1, h2, h3, h4, h5, h6, -, -⟩ := Cond.code_spec hn (atoms_spec (ws := ws) h _ (by rw [hw]; exact List.mem_cons_self))
    exact ⟨meth, c, h1, h2, h3, h4, h5, h6⟩
  · intro p e s m args below meth c s₁ B hml hP _
    have hh0 : s₁.heap = s.heap := by rw [B.state]; rfl
    have ht : ∀ x ∈ c.exceptionTable.toList, False := by
      obtain ⟨meth9, c9, h1, h2, -, -, -, -, h7, -⟩ := Cond.code_spec B.named (atoms_spec (ws := ws) B.pre _ (by rw [hw]; exact List.mem_cons_self))
      cases Option.some.inj (h1.symm.trans B.method)
      cases Option.some.inj (h2.symm.trans (Stand.of_body B).code)
      intro x hx
      rw [Array.isEmpty_iff.mp h7] at hx
      cases hx
    obtain ⟨t, a1, o, b1, b2, b3⟩ := body p e s m args below meth c s₁ B hml ht hP s₁ hh0 (Stand.of_body B)
    exact ⟨t, o, a1, b1, b2, b3⟩
/-- the table of a body with handlers -/
theorem vx_table {p : Program} {x y : MethodName} {S : Spec} {cc bytes : ByteArray} {maxL maxL' : Nat} {ret ret' : Option FieldType} {e : Env} {s s₁ : State} {m : MethodId} {args : Array Value} {below : List Frame} {meth : Method} {c : Code} {hh : List (Nat × Nat × Nat × Nat)}
    (B : BodyLoose p l y S cc maxL ret e s m args below meth c s₁) (h : (Cond.codeWith y bytes maxL' ret' hh).before args s = true) : c.exceptionTable.toList = tableOf hh := by
  obtain ⟨m9, meth9, c9, hn9, h1, h2, -, -, h6, -⟩ := Cond.codeWith_spec h
  cases Option.some.inj (hn9.symm.trans B.named)
  cases Option.some.inj (h1.symm.trans B.method)
  cases Option.some.inj (h2.symm.trans (Stand.of_body B).code)
  rw [← h6, table_eq]
end Bodies
end VXA
/-! ===== END ===== -/
/-! ===== BEGIN a static call of a method with an exception table ===== -/
section VXS
variable {p : Program} {l : Launch} {e : Env} {R : Room} {s : State} {m : MethodId} {args : Array Value} {below : List Frame} {meth : Method} {c : Code} {T : State} {H : Heap} {locs : List Loc} {cells slots : Nat}
abbrev vx_CSW (R : Room) (s : State) (args : Array Value) (own : String) (index : Nat) (y : MethodName) (bytes : ByteArray) (maxL : Nat) (ret : Option FieldType) (hh : List (Nat × Nat × Nat × Nat)) (ws : List Cond) (rm : Room) (mc ms n : Nat) : Prop :=
  (rm.cells = mc ∧ rm.slots = ms ∧ rm.frames + 1 ≤ R.frames ∧ 8 + (maxL + 11) + rm.locals ≤ R.locals ∧ (∀ w ∈ ws, ∀ (a' : Array Value) (U : State), s.WarmedH U.vm → w.before a' U = true) ∧ Cond.codeWith y bytes maxL ret hh ∈ ws) ∧
  (Cond.codeWith y bytes maxL ret hh).before args s = true ∧ (Cond.initialized y.cls).before args s = true ∧ (y.cls ≠ "java/lang/invoke/MethodHandle" ∧ y.cls ≠ "java/lang/invoke/VarHandle") ∧
  (∀ sig, parseMethodDescriptor y.desc = some sig → n = sig.parameters.length) ∧ (Cond.methodLink own index y).before args s = true ∧ (Cond.static y).before args s = true
theorem vx_cwSW {own : String} {index maxL mc ms : Nat} {y : MethodName} {bytes : ByteArray} {ret : Option FieldType} {hh : List (Nat × Nat × Nat × Nat)} {Ts ws ws' : List Cond} {rm : Room} (n : Nat) (ht : ∀ w ∈ Ts, w.before args s = true) (hT : GoodIn Ts (va_wsS own index y ws)) (hw : ws = Cond.codeWith y bytes maxL ret hh :: ws') (hrc : rm.cells = mc) (hrs : rm.slots = ms)
    (hd : y.cls ≠ "java/lang/invoke/MethodHandle" ∧ y.cls ≠ "java/lang/invoke/VarHandle" ∧ (parseMethodDescriptor y.desc).map (fun d => d.parameters.length) = some n) (hR : rm.frames + 1 ≤ R.frames ∧ 8 + (maxL + 11) + rm.locals ≤ R.locals) :
    vx_CSW R s args own index y bytes maxL ret hh ws rm mc ms n := by
  have ok : ∀ w ∈ va_wsS own index y ws, w.before args s = true := fun w h => ht w (hT w h).1
  have hG : GoodIn Ts ws := fun w h => hT w (by unfold va_wsS; exact List.mem_append_right _ h)
  have hc : Cond.codeWith y bytes maxL ret hh ∈ ws := by rw [hw]; exact List.mem_cons_self
  refine ⟨⟨hrc, hrs, hR.1, hR.2, pay_in ht hG, hc⟩, ht _ (hG _ hc).1, ok _ (by simp [va_wsS]), ⟨hd.1, hd.2.1⟩, fun sig h => ?_, ok _ (by simp [va_wsS]), ok _ (by simp [va_wsS])⟩
  have h2 := hd.2.2
  rw [h] at h2
  exact (Option.some.inj h2).symm
theorem vx_callSW (X : Stand p l e R s m args below meth c T locs cells slots) (hexec : p.tables.exec = Jvm.exec) {own : String} {index : Nat} {y : MethodName} {bytes : ByteArray} {maxL : Nat} {ret : Option FieldType} {hh : List (Nat × Nat × Nat × Nat)}
    (hown : s.vm.findClass own = some m.cls) (hlink : (Cond.methodLink own index y).before args s = true) (hstat : (Cond.static y).before args s = true) (hinit : (Cond.initialized y.cls).before args s = true)
    (hcode : (Cond.codeWith y bytes maxL ret hh).before args s = true) (hy : y.cls ≠ "java/lang/invoke/MethodHandle" ∧ y.cls ≠ "java/lang/invoke/VarHandle")
    {W9 : Nat} {Pre : Pt → Array Value → Prop} {Post : Pt → Array Value → Option Value → Pt → Prop} (hK : Back l R p e below s args y 3 W9 Pre Post)
    {g : JFrame} (hg : g.method = m) (hsize : g.locals.size = c.maxLocals) {argsL rest : List Value} (hlen : ∀ sig, parseMethodDescriptor y.desc = some sig → argsL.length = sig.parameters.length)
    (hstack : g.stack = argsL.reverse ++ rest) (hW : 2 * g.monitorRoom + (rest.map fun v => v.category).sum ≤ W9) (hdg : decode c.code g.pc = .ok (.invokestatic index, 3))
    (hpre : ∀ vm₁, s.WarmedH vm₁ → Pre ⟨T.setVm vm₁, locs, cells, slots⟩ argsL.toArray) :
    ∃ (v : Option Value) (vm₁ : Vm) (B : Pt), s.WarmedH vm₁ ∧ Stand p l e R s m args below meth c B.U B.locs B.cells B.slots ∧ Post ⟨T.setVm vm₁, locs, cells, slots⟩ argsL.toArray v B ∧
      ∀ target, Steps p.tables e below (B.U.setTop { g with pc := g.pc + 3, stack := v.toList ++ rest }) target → Steps p.tables e below (T.setTop g) target := by
  obtain ⟨mk, methM, cM, hnamed, hmethM, -, -, -, -, -, -, hsigM⟩ := Cond.codeWith_spec hcode
  have hstatic : methM.isStatic = true := Cond.static_spec hnamed hmethM hstat
  obtain ⟨kP, hkP, -⟩ := className_of_methodNamed hnamed
  have hinitP : kP.init = .initialized := Cond.initialized_spec (findClass_of_methodNamed hnamed) hkP hinit
  obtain ⟨vm₁, X₁, hstep₁⟩ := X.invokestatic hexec hown hlink hnamed hmethM hstatic hkP hinitP hy (g := g) hg (argsL := argsL) (rest := rest) (hlen _ hsigM) hstack hdg
  obtain ⟨v, B, X', hpost, hsteps⟩ := hK m meth c ⟨T.setVm vm₁, locs, cells, slots⟩ { g with stack := rest } (.invokestatic index) mk argsL.toArray X₁ hg hsize hdg hW (X₁.named hnamed) (hpre vm₁ X₁.warmed)
  exact ⟨v, vm₁, B, X₁.warmed, X', hpost, fun target h => hstep₁ _ fun acts => by rw [doInvoke_state]; exact hsteps.trans h⟩
theorem vx_runSW {y : MethodName} {bytes cc : ByteArray} {maxL nL mc ms n index : Nat} {ret : Option FieldType} {hh : List (Nat × Nat × Nat × Nat)} {ws : List Cond} {rm : Room} {Pc : Array Value → State → Prop} {Qc : Array Value → State → Outcome → State → Prop} {free : Addr → Prop} {Ts : List Cond} {own : String} {As rest : List Value} {g : JFrame}
    (S : CallFix p m c cc nL s args Ts own) (hM : Met l y ws rm Pc Qc mc ms free) (cw : vx_CSW R s args own index y bytes maxL ret hh ws rm mc ms n) (hp : PreS s H Pc As)
    (hg : g.method = m) (hn : As.length = n) (hsize : g.locals.size = nL) (hstack : g.stack = As.reverse ++ rest) (hW : 2 * g.monitorRoom + (rest.map fun v => v.category).sum ≤ 8) (hdg : decode cc g.pc = .ok (.invokestatic index, 3)) (hf : cells + mc ≤ R.cells ∧ slots + ms ≤ R.slots) :
    va_Run p l e R s m args below meth c H locs cells slots mc ms g rest (Qc As.toArray) (free) := by
  obtain ⟨⟨hrc, hrs, hfr, hlo, hws, hcw⟩, hcode, hini, hy, hlen, hl, hstt⟩ := cw
  have hK : Back l R p e below s args y 3 8 (PreOf R mc ms Pc) (PostOf Qc mc ms free) := va_backW (hh := hh) (bytes := bytes) (maxL := maxL) (ret := ret) hM hp.1 hrc hrs hfr hlo hws hcw (fun a' U hW => word_at hW (Or.inl (by first | rfl | simp [Cond.onTables, Cond.keeps, Cond.steady])) hini)
  obtain ⟨hx, hb, hml, ho, -⟩ := S
  intro T hT X
  obtain ⟨v, vm₁, ⟨U', l2, c2, s2⟩, hW₁, X', ⟨g', mk, t, L, e1, e2, hq, h1, hL, h2, h3⟩, st⟩ := vx_callSW X hx (hh := hh) (bytes := bytes) (maxL := maxL) (ret := ret) ho hl hstt hini hcode hy hK hg (hsize.trans hml.symm) (argsL := As) (rest := rest) (fun sig h => hn.trans (hlen sig h)) hstack hW (by rw [hb]; exact hdg)
    (fun vm₁ hW₁ => ⟨hf.1, hf.2, hp.2 (T.setVm vm₁) hT hW₁⟩)
  dsimp only [Pt.U, Pt.locs, Pt.cells, Pt.slots] at X' e1 e2 h1 h2 h3 st
  subst h1; subst h2; subst h3
  exact ⟨v, (T.setVm vm₁).calling g' mk As.toArray, t, U', L, hT, X', hL, e1, e2, hq, st⟩
/-- a thing of a world lies in the heap -/
theorem vx_lt {D : va_G} {cl : List vw_C} {ws : va_W} {H1 : Heap} (h : va_P D cl ws H1) {k : Nat} {q : Nat × va_E} (hk : ws[k]? = some q) : q.1 < H1.size := (h k q hk).lt
end VXS
/-! ===== END ===== -/
/-! ===== BEGIN methods with a table of their own: called by a name, returning or throwing ===== -/
section VXH
/-! vx_backW, vx_callVX, vx_callSX, vx_callVW, vx_runVW, vx_runVX, vx_runSX, vx_ofWH follow the same proofs as their sisters above (Free/Laws.lean, Shelf42/LK1.lean); vx_outP calls Shelf42/NT130.lean (outThrough). -/
section
variable {l : Launch} {R : Room} {p : Program} {e : Env} {below : List Frame} {s : State} {sargs : Array Value} {y : MethodName} {len W9 : Nat}
theorem vx_backW {ws : List Cond} {rm : Room} {Pc : Array Value → State → Prop} {Qc : Array Value → State → Outcome → State → Prop} {XC : String → State → State → Prop} {mc ms : Nat} {free : Addr → Prop} {bytes : ByteArray} {maxL : Nat} {ret : Option FieldType} {hh : List (Nat × Nat × Nat × Nat)}
    (hM : vx_Met l y ws rm Pc Qc XC mc ms free) (hblind : FrameBlind Pc) (hrc : rm.cells = mc) (hrs : rm.slots = ms)
    (hframes : rm.frames + 1 ≤ R.frames) (hlocals : W9 + (maxL + 11) + rm.locals ≤ R.locals)
    (hws : ∀ w ∈ ws, ∀ a' U, s.WarmedH U.vm → w.before a' U = true) (hcode : Cond.codeWith y bytes maxL ret hh ∈ ws) (hinit : ∀ a' U, s.WarmedH U.vm → (Cond.initialized y.cls).before a' U = true) :
    vx_Back l R p e below s sargs y len W9 (PreOf R mc ms Pc) (PostOf Qc mc ms free) (vx_Post XC mc ms free) := by
  intro m meth c A g ig mk a X hg hsize hdg hW hn hp
  have h1 : (headSpec ws rm).pre.before a A.U = true := atoms_intro fun w hw => hws w hw _ _ X.warmed
  have h2 : (Cond.codeWith y bytes maxL ret hh).before a A.U = true := hws _ hcode _ _ X.warmed
  have h3 : (Cond.initialized y.cls).before a A.U = true := hinit _ _ X.warmed
  have h4 : A.cells + (headSpec ws rm).room.cells ≤ R.cells := by rw [show (headSpec ws rm).room.cells = mc from hrc]; exact hp.1
  have h5 : A.slots + (headSpec ws rm).room.slots ≤ R.slots := by rw [show (headSpec ws rm).room.slots = ms from hrs]; exact hp.2.1
  have hPc : Pc a (A.U.calling g mk a) := hblind _ _ _ _ hp.2.2
  obtain ⟨U, Ls, c0, s0⟩ := A
  dsimp only [Pt.U, Pt.locs, Pt.cells, Pt.slots] at h1 h2 h3 h4 h5 X hn hPc ⊢
  obtain ⟨m9, methY, cY, hn9, hmY, hcY, -, hlY, -⟩ := Cond.codeWith_spec h2
  cases Option.some.inj (hn9.symm.trans hn)
  obtain ⟨kY, hkY, -⟩ := className_of_methodNamed hn
  have hinitY : kY.init = .initialized := Cond.initialized_spec (findClass_of_methodNamed hn) hkY h3
  have h : At U g.method c below := by rw [hg]; exact X.here
  have hlocals9 : W9 + (maxL + 11) + (headSpec ws rm).room.locals ≤ R.locals := hlocals
  have happ : (headSpec ws rm).appliesLoose y e.platform (U.calling g mk a) = true :=
    Spec.appliesLoose_calling (g := g) h hdg hn hkY hinitY
      (X.room_calling (g := g) (R' := (headSpec ws rm).room) hsize hmY hcY hframes (by rw [hlY]; omega) h4 h5) h1
  obtain ⟨mid, hmid⟩ := h.above
  have hfr : (U.setTop g).frames = (.java g :: mid) ++ below := by rw [State.frames_setTop' g h.top, hmid]; rfl
  obtain ⟨o, s₂, hsteps, -, hend, hq⟩ := Steps.callFree hM p X.admits X.cas X.clock (acts := []) hfr happ hPc trivial
  have hq' : vx_Q Qc XC mc ms free a (U.calling g mk a) o s₂ := hq
  rw [State.frames_setTop' g h.top] at hend
  obtain ⟨g₀, hg0⟩ := Option.isSome_iff_exists.mp h.top
  obtain ⟨r, hr⟩ := State.topJava?_eq_some.mp hg0
  have hr' : (({ U with heap := s₂.heap, slotsUsed := s₂.slotsUsed } : State).setVm s₂.vm).frames = .java g₀ :: r := hr
  rcases hq' with ⟨hqc, L, hfe, hL⟩ | ⟨q, rfl, E, ce, L, hx, hce, hcv, hcl, hW₂, hsm, hL⟩
  · obtain ⟨⟨v, rfl⟩, hW₂, e2, q2, q3, q4, q5, q6⟩ := id hfe
    have e3 : s₂ = ({ (U.calling g mk a).setFrames s₂.frames with heap := s₂.heap, slotsUsed := s₂.slotsUsed } : State).setVm s₂.vm := by
      have : s₂ = ({ s₂ with vm := (U.calling g mk a).vm } : State).setVm s₂.vm := rfl
      rw [e2] at this
      exact this
    obtain ⟨c₂, i₂, len₂, hc₂, hd₂, hf₂⟩ := hend
    have hW' : U.WarmedH s₂.vm := hW₂
    have hcc : c₂ = c := by
      have h1 : s₂.code? g.method = U.code? g.method := by
        rw [State.code?_eq, State.code?_eq, hW'.alike.method?]
      exact Option.some.inj (hc₂.symm.trans (h1.trans h.code))
    subst hcc
    have hlen : len₂ = len := by rw [hdg] at hd₂; cases hd₂; rfl
    subst hlen
    have hs₂ : s₂ = (({ U with heap := s₂.heap, slotsUsed := s₂.slotsUsed } : State).setVm s₂.vm).setTop { g with pc := g.pc + len₂, stack := v.toList ++ g.stack } := by
      refine e3.trans ?_
      rw [hf₂, State.calling_eq h.top, State.setFrames_setFrames, State.setTop_of_frames _ hr', hr]
      rfl
    have hsame : U.sameButNew ({ U with heap := s₂.heap, slotsUsed := s₂.slotsUsed } : State) L mc ms := by
      refine ⟨?_, q2, q3, q4, q5, q6⟩
      obtain ⟨t, ht, -⟩ := State.frames_cons hr
      show ({ U with heap := s₂.heap, slotsUsed := s₂.slotsUsed } : State) = { U.setFrames U.frames with heap := s₂.heap, slotsUsed := s₂.slotsUsed }
      rw [State.setFrames_self ht]
    subst hg
    refine Or.inl ⟨v, ⟨(({ U with heap := s₂.heap, slotsUsed := s₂.slotsUsed } : State).setVm s₂.vm), Ls ++ L, c0 + mc, s0 + ms⟩,
      ⟨X.admits, X.cas, X.clock, X.frames, X.room, X.hears, X.method, X.code, (X.here.setHeapUsed s₂.heap s₂.slotsUsed).setVm hW'.alike, X.tail, State.WarmedH.trans X.warmed hW', X.limits, X.bytes, X.same.trans (hsame.setVm s.vm)⟩,
      ⟨g, mk, s₂, L, rfl, rfl, hqc, rfl, hL, rfl, rfl⟩, ?_⟩
    show Steps p.tables e below _ ((({ U with heap := s₂.heap, slotsUsed := s₂.slotsUsed } : State).setVm s₂.vm).setTop { g with pc := g.pc + len₂, stack := v.toList ++ g.stack })
    rw [← hs₂]
    exact hsteps
  · obtain ⟨e2, q2, q3, q4, q5, q6⟩ := id hsm
    have e3 : s₂ = ({ (U.calling g mk a).setFrames s₂.frames with heap := s₂.heap, slotsUsed := s₂.slotsUsed } : State).setVm s₂.vm := by
      have : s₂ = ({ s₂ with vm := (U.calling g mk a).vm } : State).setVm s₂.vm := rfl
      rw [e2] at this
      exact this
    have hf₂ : s₂.frames = .throwing q :: .java g :: U.frames.tail := hend
    have hW' : U.WarmedH s₂.vm := hW₂
    have hs₂ : s₂ = ((({ U with heap := s₂.heap, slotsUsed := s₂.slotsUsed } : State).setVm s₂.vm).setTop g).pushFrame (.throwing q) := by
      refine e3.trans ?_
      rw [hf₂, State.calling_eq h.top, State.setFrames_setFrames, State.pushFrame, State.frames_setTop _ hr', State.setTop_of_frames _ hr', State.setFrames_setFrames, hr]
      rfl
    have hsame : U.sameButNew ({ U with heap := s₂.heap, slotsUsed := s₂.slotsUsed } : State) L mc ms := by
      refine ⟨?_, q2, q3, q4, q5, q6⟩
      obtain ⟨t, ht, -⟩ := State.frames_cons hr
      show ({ U with heap := s₂.heap, slotsUsed := s₂.slotsUsed } : State) = { U.setFrames U.frames with heap := s₂.heap, slotsUsed := s₂.slotsUsed }
      rw [State.setFrames_self ht]
    subst hg
    refine Or.inr ⟨q, ⟨(({ U with heap := s₂.heap, slotsUsed := s₂.slotsUsed } : State).setVm s₂.vm), Ls ++ L, c0 + mc, s0 + ms⟩,
      ⟨X.admits, X.cas, X.clock, X.frames, X.room, X.hears, X.method, X.code, (X.here.setHeapUsed s₂.heap s₂.slotsUsed).setVm hW'.alike, X.tail, State.WarmedH.trans X.warmed hW', X.limits, X.bytes, X.same.trans (hsame.setVm s.vm)⟩,
      ⟨g, mk, s₂, L, E, ce, rfl, rfl, hx, hce, hcv, hcl, rfl, hL, rfl, rfl⟩, ?_⟩
    show Steps p.tables e below _ (((({ U with heap := s₂.heap, slotsUsed := s₂.slotsUsed } : State).setVm s₂.vm).setTop g).pushFrame (.throwing q))
    rw [← hs₂]
    exact hsteps
end
variable {p : Program} {l : Launch} {e : Env} {R : Room} {s : State} {m : MethodId} {args : Array Value} {below : List Frame} {meth : Method} {c : Code} {T : State} {H : Heap} {locs : List Loc} {cells slots : Nat}
theorem vx_callVX (X : Stand p l e R s m args below meth c T locs cells slots) (hexec : p.tables.exec = Jvm.exec) {own C : String} {index : Nat} {y : MethodName} {bytes : ByteArray} {maxL : Nat} {ret : Option FieldType} {hh : List (Nat × Nat × Nat × Nat)}
    (hown : s.vm.findClass own = some m.cls) (hlink : (Cond.methodLink own index y).before args s = true) (hinst : (Cond.instanceMethod y).before args s = true) (hsel : (Cond.selects C y y).before args s = true)
    (hcode : (Cond.codeWith y bytes maxL ret hh).before args s = true) (hy : y.cls ≠ "java/lang/invoke/MethodHandle" ∧ y.cls ≠ "java/lang/invoke/VarHandle")
    {W9 : Nat} {Pre : Pt → Array Value → Prop} {Post : Pt → Array Value → Option Value → Pt → Prop} {PostX : Pt → Array Value → Addr → Pt → Prop} (hK : vx_Back l R p e below s args y 3 W9 Pre Post PostX)
    {b : Addr} {cellB : Cell} (hcell : T.heap[b]? = some cellB) (hobj : cellB.vm.isStatics = false) (hcls : s.vm.findClass C = some cellB.cls)
    {g : JFrame} (hg : g.method = m) (hsize : g.locals.size = c.maxLocals) {argsL rest : List Value} (hlen : ∀ sig, parseMethodDescriptor y.desc = some sig → argsL.length = sig.parameters.length)
    (hstack : g.stack = argsL.reverse ++ .ref b :: rest) (hW : 2 * g.monitorRoom + (rest.map fun v => v.category).sum ≤ W9) (hdg : decode c.code g.pc = .ok (.invokevirtual index, 3))
    (hpre : ∀ vm₁, s.WarmedH vm₁ → Pre ⟨T.setVm vm₁, locs, cells, slots⟩ (Value.ref b :: argsL).toArray) :
    (∃ (v : Option Value) (vm₁ : Vm) (B : Pt), s.WarmedH vm₁ ∧ Stand p l e R s m args below meth c B.U B.locs B.cells B.slots ∧ Post ⟨T.setVm vm₁, locs, cells, slots⟩ (Value.ref b :: argsL).toArray v B ∧
      ∀ target, Steps p.tables e below (B.U.setTop { g with pc := g.pc + 3, stack := v.toList ++ rest }) target → Steps p.tables e below (T.setTop g) target) ∨
    (∃ (q : Addr) (vm₁ : Vm) (B : Pt), s.WarmedH vm₁ ∧ Stand p l e R s m args below meth c B.U B.locs B.cells B.slots ∧ PostX ⟨T.setVm vm₁, locs, cells, slots⟩ (Value.ref b :: argsL).toArray q B ∧
      Steps p.tables e below (T.setTop g) ((B.U.setTop { g with stack := rest }).pushFrame (.throwing q))) := by
  obtain ⟨mk, methM, hnamed, hmethM, hstM, habM⟩ := Cond.instanceMethod_spec hinst
  obtain ⟨m8, methM', cM, hn8, hmethM', -, -, -, -, -, -, hsigM⟩ := Cond.codeWith_spec hcode
  cases Option.some.inj (hn8.symm.trans hnamed)
  cases hmethM.symm.trans hmethM'
  obtain ⟨c2, r2, m2, q1, q2, q3, q4, kP, hkP, hkPi⟩ := Cond.selects_spec hsel
  cases hcls.symm.trans q1
  cases (State.methodFound?_of_named hnamed hy).symm.trans q2
  cases hnamed.symm.trans q3
  have hselP : selectMethod e.platform s.vm cellB.cls mk = .method mk := by rw [Launch.admits_selectMethod X.admits]; exact q4
  obtain ⟨vm₁, X₁, hstep₁⟩ := X.invokevirtual hexec hown hlink hnamed hmethM hstM hkP hkPi hy (a := b) (cell := cellB) hcell
    (fun z h => by rw [h] at hobj; cases hobj) hselP hmethM habM hkP hkPi (g := g) hg (argsL := argsL) (rest := rest) (hlen _ hsigM) hstack hdg
  rcases hK m meth c ⟨T.setVm vm₁, locs, cells, slots⟩ { g with stack := rest } (.invokevirtual index) mk (Value.ref b :: argsL).toArray X₁ hg hsize hdg hW (X₁.named hnamed) (hpre vm₁ X₁.warmed) with ⟨v, B, X', hpost, hsteps⟩ | ⟨q, B, X', hpost, hsteps⟩
  · exact Or.inl ⟨v, vm₁, B, X₁.warmed, X', hpost, fun target h => hstep₁ _ fun acts => by rw [doInvoke_state]; exact hsteps.trans h⟩
  · exact Or.inr ⟨q, vm₁, B, X₁.warmed, X', hpost, hstep₁ _ fun acts => by rw [doInvoke_state]; exact hsteps⟩
theorem vx_callSX (X : Stand p l e R s m args below meth c T locs cells slots) (hexec : p.tables.exec = Jvm.exec) {own : String} {index : Nat} {y : MethodName} {bytes : ByteArray} {maxL : Nat} {ret : Option FieldType} {hh : List (Nat × Nat × Nat × Nat)}
    (hown : s.vm.findClass own = some m.cls) (hlink : (Cond.methodLink own index y).before args s = true) (hstat : (Cond.static y).before args s = true) (hinit : (Cond.initialized y.cls).before args s = true)
    (hcode : (Cond.codeWith y bytes maxL ret hh).before args s = true) (hy : y.cls ≠ "java/lang/invoke/MethodHandle" ∧ y.cls ≠ "java/lang/invoke/VarHandle")
    {W9 : Nat} {Pre : Pt → Array Value → Prop} {Post : Pt → Array Value → Option Value → Pt → Prop} {PostX : Pt → Array Value → Addr → Pt → Prop} (hK : vx_Back l R p e below s args y 3 W9 Pre Post PostX)
    {g : JFrame} (hg : g.method = m) (hsize : g.locals.size = c.maxLocals) {argsL rest : List Value} (hlen : ∀ sig, parseMethodDescriptor y.desc = some sig → argsL.length = sig.parameters.length)
    (hstack : g.stack = argsL.reverse ++ rest) (hW : 2 * g.monitorRoom + (rest.map fun v => v.category).sum ≤ W9) (hdg : decode c.code g.pc = .ok (.invokestatic index, 3))
    (hpre : ∀ vm₁, s.WarmedH vm₁ → Pre ⟨T.setVm vm₁, locs, cells, slots⟩ argsL.toArray) :
    (∃ (v : Option Value) (vm₁ : Vm) (B : Pt), s.WarmedH vm₁ ∧ Stand p l e R s m args below meth c B.U B.locs B.cells B.slots ∧ Post ⟨T.setVm vm₁, locs, cells, slots⟩ argsL.toArray v B ∧
      ∀ target, Steps p.tables e below (B.U.setTop { g with pc := g.pc + 3, stack := v.toList ++ rest }) target → Steps p.tables e below (T.setTop g) target) ∨
    (∃ (q : Addr) (vm₁ : Vm) (B : Pt), s.WarmedH vm₁ ∧ Stand p l e R s m args below meth c B.U B.locs B.cells B.slots ∧ PostX ⟨T.setVm vm₁, locs, cells, slots⟩ argsL.toArray q B ∧
      Steps p.tables e below (T.setTop g) ((B.U.setTop { g with stack := rest }).pushFrame (.throwing q))) := by
  obtain ⟨mk, methM, cM, hnamed, hmethM, -, -, -, -, -, -, hsigM⟩ := Cond.codeWith_spec hcode
  have hstatic : methM.isStatic = true := Cond.static_spec hnamed hmethM hstat
  obtain ⟨kP, hkP, -⟩ := className_of_methodNamed hnamed
  have hinitP : kP.init = .initialized := Cond.initialized_spec (findClass_of_methodNamed hnamed) hkP hinit
  obtain ⟨vm₁, X₁, hstep₁⟩ := X.invokestatic hexec hown hlink hnamed hmethM hstatic hkP hinitP hy (g := g) hg (argsL := argsL) (rest := rest) (hlen _ hsigM) hstack hdg
  rcases hK m meth c ⟨T.setVm vm₁, locs, cells, slots⟩ { g with stack := rest } (.invokestatic index) mk argsL.toArray X₁ hg hsize hdg hW (X₁.named hnamed) (hpre vm₁ X₁.warmed) with ⟨v, B, X', hpost, hsteps⟩ | ⟨q, B, X', hpost, hsteps⟩
  · exact Or.inl ⟨v, vm₁, B, X₁.warmed, X', hpost, fun target h => hstep₁ _ fun acts => by rw [doInvoke_state]; exact hsteps.trans h⟩
  · exact Or.inr ⟨q, vm₁, B, X₁.warmed, X', hpost, hstep₁ _ fun acts => by rw [doInvoke_state]; exact hsteps⟩
theorem vx_callVW (X : Stand p l e R s m args below meth c T locs cells slots) (hexec : p.tables.exec = Jvm.exec) {own C : String} {index : Nat} {y : MethodName} {bytes : ByteArray} {maxL : Nat} {ret : Option FieldType} {hh : List (Nat × Nat × Nat × Nat)}
    (hown : s.vm.findClass own = some m.cls) (hlink : (Cond.methodLink own index y).before args s = true) (hinst : (Cond.instanceMethod y).before args s = true) (hsel : (Cond.selects C y y).before args s = true)
    (hcode : (Cond.codeWith y bytes maxL ret hh).before args s = true) (hy : y.cls ≠ "java/lang/invoke/MethodHandle" ∧ y.cls ≠ "java/lang/invoke/VarHandle")
    {W9 : Nat} {Pre : Pt → Array Value → Prop} {Post : Pt → Array Value → Option Value → Pt → Prop} (hK : Back l R p e below s args y 3 W9 Pre Post)
    {b : Addr} {cellB : Cell} (hcell : T.heap[b]? = some cellB) (hobj : cellB.vm.isStatics = false) (hcls : s.vm.findClass C = some cellB.cls)
    {g : JFrame} (hg : g.method = m) (hsize : g.locals.size = c.maxLocals) {argsL rest : List Value} (hlen : ∀ sig, parseMethodDescriptor y.desc = some sig → argsL.length = sig.parameters.length)
    (hstack : g.stack = argsL.reverse ++ .ref b :: rest) (hW : 2 * g.monitorRoom + (rest.map fun v => v.category).sum ≤ W9) (hdg : decode c.code g.pc = .ok (.invokevirtual index, 3))
    (hpre : ∀ vm₁, s.WarmedH vm₁ → Pre ⟨T.setVm vm₁, locs, cells, slots⟩ (Value.ref b :: argsL).toArray) :
    ∃ (v : Option Value) (vm₁ : Vm) (B : Pt), s.WarmedH vm₁ ∧ Stand p l e R s m args below meth c B.U B.locs B.cells B.slots ∧ Post ⟨T.setVm vm₁, locs, cells, slots⟩ (Value.ref b :: argsL).toArray v B ∧
      ∀ target, Steps p.tables e below (B.U.setTop { g with pc := g.pc + 3, stack := v.toList ++ rest }) target → Steps p.tables e below (T.setTop g) target := by
  obtain ⟨mk, methM, hnamed, hmethM, hstM, habM⟩ := Cond.instanceMethod_spec hinst
  obtain ⟨m8, methM', cM, hn8, hmethM', -, -, -, -, -, -, hsigM⟩ := Cond.codeWith_spec hcode
  cases Option.some.inj (hn8.symm.trans hnamed)
  cases hmethM.symm.trans hmethM'
  obtain ⟨c2, r2, m2, q1, q2, q3, q4, kP, hkP, hkPi⟩ := Cond.selects_spec hsel
  cases hcls.symm.trans q1
  cases (State.methodFound?_of_named hnamed hy).symm.trans q2
  cases hnamed.symm.trans q3
  have hselP : selectMethod e.platform s.vm cellB.cls mk = .method mk := by rw [Launch.admits_selectMethod X.admits]; exact q4
  obtain ⟨vm₁, X₁, hstep₁⟩ := X.invokevirtual hexec hown hlink hnamed hmethM hstM hkP hkPi hy (a := b) (cell := cellB) hcell
    (fun z h => by rw [h] at hobj; cases hobj) hselP hmethM habM hkP hkPi (g := g) hg (argsL := argsL) (rest := rest) (hlen _ hsigM) hstack hdg
  obtain ⟨v, B, X', hpost, hsteps⟩ := hK m meth c ⟨T.setVm vm₁, locs, cells, slots⟩ { g with stack := rest } (.invokevirtual index) mk (Value.ref b :: argsL).toArray X₁ hg hsize hdg hW (X₁.named hnamed) (hpre vm₁ X₁.warmed)
  exact ⟨v, vm₁, B, X₁.warmed, X', hpost, fun target h => hstep₁ _ fun acts => by rw [doInvoke_state]; exact hsteps.trans h⟩
abbrev vx_CVW (R : Room) (s : State) (args : Array Value) (own C : String) (index : Nat) (y : MethodName) (bytes : ByteArray) (maxL : Nat) (ret : Option FieldType) (hh : List (Nat × Nat × Nat × Nat)) (ws : List Cond) (rm : Room) (mc ms n : Nat) : Prop :=
  (rm.cells = mc ∧ rm.slots = ms ∧ rm.frames + 1 ≤ R.frames ∧ 8 + (maxL + 11) + rm.locals ≤ R.locals ∧ (∀ w ∈ ws, ∀ (a' : Array Value) (U : State), s.WarmedH U.vm → w.before a' U = true) ∧ Cond.codeWith y bytes maxL ret hh ∈ ws) ∧
  (Cond.codeWith y bytes maxL ret hh).before args s = true ∧ (Cond.initialized y.cls).before args s = true ∧ (y.cls ≠ "java/lang/invoke/MethodHandle" ∧ y.cls ≠ "java/lang/invoke/VarHandle") ∧
  (∀ sig, parseMethodDescriptor y.desc = some sig → n = sig.parameters.length) ∧ (Cond.methodLink own index y).before args s = true ∧ (Cond.instanceMethod y).before args s = true ∧ (Cond.selects C y y).before args s = true
theorem vx_cwVW {own C : String} {index maxL mc ms : Nat} {y : MethodName} {bytes : ByteArray} {ret : Option FieldType} {hh : List (Nat × Nat × Nat × Nat)} {Ts ws ws' : List Cond} {rm : Room} (n : Nat) (ht : ∀ w ∈ Ts, w.before args s = true) (hT : GoodIn Ts (wsV own index C y ws)) (hw : ws = Cond.codeWith y bytes maxL ret hh :: ws') (hrc : rm.cells = mc) (hrs : rm.slots = ms)
    (hd : y.cls = C ∧ y.cls ≠ "java/lang/invoke/MethodHandle" ∧ y.cls ≠ "java/lang/invoke/VarHandle" ∧ (parseMethodDescriptor y.desc).map (fun d => d.parameters.length) = some n) (hR : rm.frames + 1 ≤ R.frames ∧ 8 + (maxL + 11) + rm.locals ≤ R.locals) :
    vx_CVW R s args own C index y bytes maxL ret hh ws rm mc ms n := by
  obtain ⟨hC, hd⟩ := hd
  subst hC
  have ok : ∀ w ∈ wsV own index y.cls y ws, w.before args s = true := fun w h => ht w (hT w h).1
  have hG : GoodIn Ts ws := fun w h => hT w (by unfold wsV; exact List.mem_append_right _ h)
  have hc : Cond.codeWith y bytes maxL ret hh ∈ ws := by rw [hw]; exact List.mem_cons_self
  refine ⟨⟨hrc, hrs, hR.1, hR.2, pay_in ht hG, hc⟩, ht _ (hG _ hc).1, ok _ (by simp [wsV]), ⟨hd.1, hd.2.1⟩, fun sig h => ?_, ok _ (by simp [wsV]), ok _ (by simp [wsV]), ok _ (by simp [wsV])⟩
  have h2 := hd.2.2
  rw [h] at h2
  exact (Option.some.inj h2).symm
theorem vx_runVW {y : MethodName} {bytes cc : ByteArray} {maxL nL mc ms n index : Nat} {ret : Option FieldType} {hh : List (Nat × Nat × Nat × Nat)} {ws : List Cond} {rm : Room} {Pc : Array Value → State → Prop} {Qc : Array Value → State → Outcome → State → Prop} {free : Addr → Prop} {Ts : List Cond} {own C : String} {b : Addr} {As rest : List Value} {g : JFrame}
    (S : CallFix p m c cc nL s args Ts own) (hM : Met l y ws rm Pc Qc mc ms free) (cw : vx_CVW R s args own C index y bytes maxL ret hh ws rm mc ms n) (hp : PreV s H C b Pc As)
    (hg : g.method = m) (hn : As.length = n) (hsize : g.locals.size = nL) (hstack : g.stack = As.reverse ++ .ref b :: rest) (hW : 2 * g.monitorRoom + (rest.map fun v => v.category).sum ≤ 8) (hdg : decode cc g.pc = .ok (.invokevirtual index, 3)) (hf : cells + mc ≤ R.cells ∧ slots + ms ≤ R.slots) :
    va_Run p l e R s m args below meth c H locs cells slots mc ms g rest (Qc (Value.ref b :: As).toArray) free := by
  obtain ⟨⟨hrc, hrs, hfr, hlo, hws, hcw⟩, hcode, hini, hy, hlen, hl, hin, hse⟩ := cw
  have hK : Back l R p e below s args y 3 8 (PreOf R mc ms Pc) (PostOf Qc mc ms free) := va_backW (hh := hh) (bytes := bytes) (maxL := maxL) (ret := ret) hM hp.1 hrc hrs hfr hlo hws hcw (fun a' U hW => word_at hW (Or.inl (by first | rfl | simp [Cond.onTables, Cond.keeps, Cond.steady])) hini)
  obtain ⟨hx, hb, hml, ho, -⟩ := S
  obtain ⟨-, ⟨cellB, hcB, hoB, hclB⟩, hPc⟩ := hp
  intro T hT X
  obtain ⟨v, vm₁, ⟨U', l2, c2, s2⟩, hW₁, X', ⟨g', mk, t, L, e1, e2, hq, h1, hL, h2, h3⟩, st⟩ := vx_callVW X hx (C := C) (hh := hh) (bytes := bytes) (maxL := maxL) (ret := ret) ho hl hin hse hcode hy hK (by rw [hT]; exact hcB) hoB hclB hg (hsize.trans hml.symm) (argsL := As) (rest := rest) (fun sig h => hn.trans (hlen sig h)) hstack hW (by rw [hb]; exact hdg)
    (fun vm₁ hW₁ => ⟨hf.1, hf.2, hPc (T.setVm vm₁) hT hW₁⟩)
  dsimp only [Pt.U, Pt.locs, Pt.cells, Pt.slots] at X' e1 e2 h1 h2 h3 st
  subst h1; subst h2; subst h3
  exact ⟨v, (T.setVm vm₁).calling g' mk (Value.ref b :: As).toArray, t, U', L, hT, X', hL, e1, e2, hq, st⟩
section
variable {y : MethodName} {bytes cc : ByteArray} {maxL nL mc ms n index : Nat} {ret : Option FieldType} {ws : List Cond} {rm : Room} {Pc : Array Value → State → Prop} {Qc : Array Value → State → Outcome → State → Prop} {XC : String → State → State → Prop} {free : Addr → Prop} {Ts : List Cond} {own C : String} {b : Addr} {As rest : List Value} {g : JFrame}
theorem vx_runVX {hh : List (Nat × Nat × Nat × Nat)} (S : CallFix p m c cc nL s args Ts own) (hM : vx_Met l y ws rm Pc Qc XC mc ms free) (cw : vx_CVW R s args own C index y bytes maxL ret hh ws rm mc ms n) (hp : PreV s H C b Pc As)
    (hg : g.method = m) (hn : As.length = n) (hsize : g.locals.size = nL) (hstack : g.stack = As.reverse ++ .ref b :: rest) (hW : 2 * g.monitorRoom + (rest.map fun v => v.category).sum ≤ 8) (hdg : decode cc g.pc = .ok (.invokevirtual index, 3)) (hf : cells + mc ≤ R.cells ∧ slots + ms ≤ R.slots) :
    vx_Run p l e R s m args below meth c H locs cells slots mc ms g rest (Qc (Value.ref b :: As).toArray) XC free := by
  obtain ⟨⟨hrc, hrs, hfr, hlo, hws, hcw⟩, hcode, hini, hy, hlen, hl, hin, hse⟩ := cw
  have hK : vx_Back l R p e below s args y 3 8 (PreOf R mc ms Pc) (PostOf Qc mc ms free) (vx_Post XC mc ms free) := vx_backW (hh := hh) (bytes := bytes) (maxL := maxL) (ret := ret) hM hp.1 hrc hrs hfr hlo hws hcw (fun a' U hW => word_at hW (Or.inl (by first | rfl | simp [Cond.onTables, Cond.keeps, Cond.steady])) hini)
  obtain ⟨hx, hb, hml, ho, -⟩ := S
  obtain ⟨-, ⟨cellB, hcB, hoB, hclB⟩, hPc⟩ := hp
  intro T hT X
  rcases vx_callVX X hx (C := C) (hh := hh) (bytes := bytes) (maxL := maxL) (ret := ret) ho hl hin hse hcode hy hK (by rw [hT]; exact hcB) hoB hclB hg (hsize.trans hml.symm) (argsL := As) (rest := rest) (fun sig h => hn.trans (hlen sig h)) hstack hW (by rw [hb]; exact hdg)
    (fun vm₁ hW₁ => ⟨hf.1, hf.2, hPc (T.setVm vm₁) hT hW₁⟩) with ⟨v, vm₁, ⟨U', l2, c2, s2⟩, hW₁, X', ⟨g', mk, t, L, e1, e2, hq, h1, hL, h2, h3⟩, st⟩ | ⟨q, vm₁, ⟨U', l2, c2, s2⟩, hW₁, X', ⟨g', mk, t, L, E, ce, e1, e2, hq, hce, hcv, hcl, h1, hL, h2, h3⟩, st⟩
  · dsimp only [Pt.U, Pt.locs, Pt.cells, Pt.slots] at X' e1 e2 h1 h2 h3 st
    subst h1; subst h2; subst h3
    exact Or.inl ⟨v, (T.setVm vm₁).calling g' mk (Value.ref b :: As).toArray, t, U', L, hT, X', hL, e1, e2, hq, st⟩
  · dsimp only [Pt.U, Pt.locs, Pt.cells, Pt.slots] at X' e1 e2 h1 h2 h3 st hcl
    subst h1; subst h2; subst h3
    exact Or.inr ⟨q, (T.setVm vm₁).calling g' mk (Value.ref b :: As).toArray, t, U', L, E, ce, hT, X', hL, e1, e2, hq, hce, hcv, vx_cls hW₁ hcl, st⟩
theorem vx_runSX {hh : List (Nat × Nat × Nat × Nat)} (S : CallFix p m c cc nL s args Ts own) (hM : vx_Met l y ws rm Pc Qc XC mc ms free) (cw : vx_CSW R s args own index y bytes maxL ret hh ws rm mc ms n) (hp : PreS s H Pc As)
    (hg : g.method = m) (hn : As.length = n) (hsize : g.locals.size = nL) (hstack : g.stack = As.reverse ++ rest) (hW : 2 * g.monitorRoom + (rest.map fun v => v.category).sum ≤ 8) (hdg : decode cc g.pc = .ok (.invokestatic index, 3)) (hf : cells + mc ≤ R.cells ∧ slots + ms ≤ R.slots) :
    vx_Run p l e R s m args below meth c H locs cells slots mc ms g rest (Qc As.toArray) XC free := by
  obtain ⟨⟨hrc, hrs, hfr, hlo, hws, hcw⟩, hcode, hini, hy, hlen, hl, hstt⟩ := cw
  have hK : vx_Back l R p e below s args y 3 8 (PreOf R mc ms Pc) (PostOf Qc mc ms free) (vx_Post XC mc ms free) := vx_backW (hh := hh) (bytes := bytes) (maxL := maxL) (ret := ret) hM hp.1 hrc hrs hfr hlo hws hcw (fun a' U hW => word_at hW (Or.inl (by first | rfl | simp [Cond.onTables, Cond.keeps, Cond.steady])) hini)
  obtain ⟨hx, hb, hml, ho, -⟩ := S
  intro T hT X
  rcases vx_callSX X hx (hh := hh) (bytes := bytes) (maxL := maxL) (ret := ret) ho hl hstt hini hcode hy hK hg (hsize.trans hml.symm) (argsL := As) (rest := rest) (fun sig h => hn.trans (hlen sig h)) hstack hW (by rw [hb]; exact hdg)
    (fun vm₁ hW₁ => ⟨hf.1, hf.2, hp.2 (T.setVm vm₁) hT hW₁⟩) with ⟨v, vm₁, ⟨U', l2, c2, s2⟩, hW₁, X', ⟨g', mk, t, L, e1, e2, hq, h1, hL, h2, h3⟩, st⟩ | ⟨q, vm₁, ⟨U', l2, c2, s2⟩, hW₁, X', ⟨g', mk, t, L, E, ce, e1, e2, hq, hce, hcv, hcl, h1, hL, h2, h3⟩, st⟩
  · dsimp only [Pt.U, Pt.locs, Pt.cells, Pt.slots] at X' e1 e2 h1 h2 h3 st
    subst h1; subst h2; subst h3
    exact Or.inl ⟨v, (T.setVm vm₁).calling g' mk As.toArray, t, U', L, hT, X', hL, e1, e2, hq, st⟩
  · dsimp only [Pt.U, Pt.locs, Pt.cells, Pt.slots] at X' e1 e2 h1 h2 h3 st hcl
    subst h1; subst h2; subst h3
    exact Or.inr ⟨q, (T.setVm vm₁).calling g' mk As.toArray, t, U', L, E, ce, hT, X', hL, e1, e2, hq, hce, hcv, vx_cls hW₁ hcl, st⟩
end
end VXH
theorem vx_ofWH {l : Launch} {y : MethodName} {ws ws' : List Cond} {rm : Room} {Pc : Array Value → State → Prop} {Qc : Array Value → State → Outcome → State → Prop} {XC : String → State → State → Prop} {mc ms : Nat} {free : Addr → Prop} {cc : ByteArray} {maxL : Nat} {ret : Option FieldType} {hh : List (Nat × Nat × Nat × Nat)}
    (hy : plainName y.cls = true) (hw : ws = Cond.codeWith y cc maxL ret hh :: ws')
    (body : ∀ p e s m args below meth c s₁, BodyLoose p l y (headSpec ws rm) cc maxL ret e s m args below meth c s₁ → c.maxLocals = maxL → Pc args s →
      W p l e (headSpec ws rm).room s m args below meth c s.heap [] 0 0 (vx_MQ below Qc XC args s mc ms free) (entryFrame m args maxL)) : vx_Met l y ws rm Pc Qc XC mc ms free := by
  refine MetFree.of_bodyS (code := cc) (maxLocals := maxL) (ret := ret) hy ?_ ?_
  · intro args s m h hn
    obtain ⟨m9, meth, c, hn9, h1, h2, h3, h4, -, h5, h6, -⟩ := Cond.codeWith_spec (atoms_spec (ws := ws) h _ (by rw [hw]; exact List.mem_cons_self))
    cases hn.symm.trans hn9
    exact ⟨meth, c, h1, h2, h3, h4, h5, h6⟩
  · intro p e s m args below meth c s₁ B hml hP _
    have hh0 : s₁.heap = s.heap := by rw [B.state]; rfl
    obtain ⟨t, a1, o, b1, b2, b3⟩ := body p e s m args below meth c s₁ B hml hP s₁ hh0 (Stand.of_body B)
    exact ⟨t, o, a1, b1, b2, b3⟩
/-! ===== END ===== -/
end
section
def RX0 : String := "DataLayout$Item"
def TX0 : u_T := fun k => match k with
  | 0 => ("DataLayout$Item", "number", "I", true)
  | 1 => ("DataLayout$Item", "level", "I", true)
  | 2 => ("DataLayout$Item", "usage", "I", true)
  | 3 => ("DataLayout$Item", "digits", "I", true)
  | 4 => ("DataLayout$Item", "bytes", "I", true)
  | 5 => ("DataLayout$Item", "parent", "LDataLayout$Item;", true)
  | 6 => ("DataLayout$Item", "named", "LDataLayout$Item;", true)
  | 7 => ("DataLayout$Item", "spot", "LDataLayout$Spot;", true)
  | 8 => ("DataLayout$Item", "record", "LDataLayout$Item;", false)
  | 9 => ("DataLayout$Item", "levelBelow", "I", false)
  | 10 => ("DataLayout$Item", "table", "LDataLayout$Table;", false)
  | 11 => ("DataLayout$Item", "synchronised", "Z", false)
  | 12 => ("DataLayout$Item", "valued", "Z", false)
  | 13 => ("DataLayout$Item", "value", "I", false)
  | 14 => ("DataLayout$Item", "ranges", "LDataLayout$Ranges;", false)
  | 15 => ("DataLayout$Item", "from", "LDataLayout$Item;", false)
  | 16 => ("DataLayout$Item", "to", "LDataLayout$Item;", false)
  | 17 => ("DataLayout$Item", "other", "LDataLayout$Item;", false)
  | 18 => ("DataLayout$Item", "redefined", "Z", false)
  | _ => ("DataLayout$Item", "name", "I", false)
def tyX0 : Nat → FieldType := fun k => match k with
  | 0 => .int
  | 1 => .int
  | 2 => .int
  | 3 => .int
  | 4 => .int
  | 5 => .object "DataLayout$Item"
  | 6 => .object "DataLayout$Item"
  | 7 => .object "DataLayout$Spot"
  | 8 => .object "DataLayout$Item"
  | 9 => .int
  | 10 => .object "DataLayout$Table"
  | 11 => .boolean
  | 12 => .boolean
  | 13 => .int
  | 14 => .object "DataLayout$Ranges"
  | 15 => .object "DataLayout$Item"
  | 16 => .object "DataLayout$Item"
  | 17 => .object "DataLayout$Item"
  | 18 => .boolean
  | _ => .int
abbrev wsX00 : List Cond := u_ws RX0 TX0 20
theorem nmX0 : ∀ a, a < 20 → ∀ b, b < 20 → a ≠ b → (TX0 a).2.1 ≠ (TX0 b).2.1 := by decide +kernel
theorem tyX0_ok : ∀ k, k < 20 → parseFieldDescriptor (TX0 k).2.2.1 = some (tyX0 k) := by decide +kernel
abbrev cX0_init : ByteArray := prog_2_method_1_code
def yX0_init : MethodName := ⟨RX0, "<init>", "(IIIILDataLayout$Item;)V"⟩
abbrev cX0_isNumber : ByteArray := prog_2_method_2_code
def yX0_isNumber : MethodName := ⟨RX0, "isNumber", "()Z"⟩
abbrev cX0_isInner : ByteArray := prog_2_method_3_code
def yX0_isInner : MethodName := ⟨RX0, "isInner", "()Z"⟩
abbrev cX0_lies : ByteArray := prog_2_method_4_code
def yX0_lies : MethodName := ⟨RX0, "lies", "()Z"⟩
abbrev cX0_isBelow : ByteArray := prog_2_method_5_code
def yX0_isBelow : MethodName := ⟨RX0, "isBelow", "(LDataLayout$Item;)Z"⟩
abbrev cX0_liesInRedefining : ByteArray := prog_2_method_6_code
def yX0_liesInRedefining : MethodName := ⟨RX0, "liesInRedefining", "()Z"⟩
abbrev cX0_tablesWithin : ByteArray := prog_2_method_7_code
def yX0_tablesWithin : MethodName := ⟨RX0, "tablesWithin", "()I"⟩
abbrev cX0_tableOutwards : ByteArray := prog_2_method_8_code
def yX0_tableOutwards : MethodName := ⟨RX0, "tableOutwards", "(I)LDataLayout$Table;"⟩
abbrev cX0_length : ByteArray := prog_2_method_9_code
def yX0_length : MethodName := ⟨RX0, "length", "()J"⟩
abbrev cX0_lengthNow : ByteArray := prog_2_method_10_code
def yX0_lengthNow : MethodName := ⟨RX0, "lengthNow", "()J"⟩
abbrev cX0_extent : ByteArray := prog_2_method_11_code
def yX0_extent : MethodName := ⟨RX0, "extent", "()J"⟩
def RX1 : String := "DataLayout$Kinds"
def TX1 : u_T := fun k => match k with
  | _ => ("", "", "", false)
def tyX1 : Nat → FieldType := fun k => match k with
  | _ => .int
abbrev wsX10 : List Cond := u_ws RX1 TX1 0
theorem nmX1 : ∀ a, a < 0 → ∀ b, b < 0 → a ≠ b → (TX1 a).2.1 ≠ (TX1 b).2.1 := by decide +kernel
theorem tyX1_ok : ∀ k, k < 0 → parseFieldDescriptor (TX1 k).2.2.1 = some (tyX1 k) := by decide +kernel
abbrev cX1_isLevel : ByteArray := prog_3_method_2_code
def yX1_isLevel : MethodName := ⟨RX1, "isLevel", "(I)Z"⟩
abbrev cX1_isUsage : ByteArray := prog_3_method_3_code
def yX1_isUsage : MethodName := ⟨RX1, "isUsage", "(III)Z"⟩
abbrev cX1_isNumeric : ByteArray := prog_3_method_4_code
def yX1_isNumeric : MethodName := ⟨RX1, "isNumeric", "(I)Z"⟩
abbrev cX1_isClause : ByteArray := prog_3_method_5_code
def yX1_isClause : MethodName := ⟨RX1, "isClause", "(III)Z"⟩
abbrev cX1_bytesOf : ByteArray := prog_3_method_6_code
def yX1_bytesOf : MethodName := ⟨RX1, "bytesOf", "(II)I"⟩
def RX2 : String := "DataLayout$Numbers"
def TX2 : u_T := fun k => match k with
  | _ => ("", "", "", false)
def tyX2 : Nat → FieldType := fun k => match k with
  | _ => .int
abbrev wsX20 : List Cond := u_ws RX2 TX2 0
theorem nmX2 : ∀ a, a < 0 → ∀ b, b < 0 → a ≠ b → (TX2 a).2.1 ≠ (TX2 b).2.1 := by decide +kernel
theorem tyX2_ok : ∀ k, k < 0 → parseFieldDescriptor (TX2 k).2.2.1 = some (tyX2 k) := by decide +kernel
abbrev cX2_hasRoomFor : ByteArray := prog_4_method_2_code
def yX2_hasRoomFor : MethodName := ⟨RX2, "hasRoomFor", "(II)Z"⟩
abbrev cX2_write : ByteArray := prog_4_method_3_code
def yX2_write : MethodName := ⟨RX2, "write", "(LDataLayout$Store;LDataLayout$Item;)V"⟩
abbrev cX2_writeBinary : ByteArray := prog_4_method_4_code
def yX2_writeBinary : MethodName := ⟨RX2, "writeBinary", "(LDataLayout$Store;IIJ)V"⟩
abbrev cX2_writePacked : ByteArray := prog_4_method_5_code
def yX2_writePacked : MethodName := ⟨RX2, "writePacked", "(LDataLayout$Store;IIJ)V"⟩
abbrev cX2_writeDigits : ByteArray := prog_4_method_6_code
def yX2_writeDigits : MethodName := ⟨RX2, "writeDigits", "(LDataLayout$Store;ILDataLayout$Item;)V"⟩
abbrev cX2_signedDigit : ByteArray := prog_4_method_7_code
def yX2_signedDigit : MethodName := ⟨RX2, "signedDigit", "(LDataLayout$Item;)I"⟩
abbrev cX2_signByte : ByteArray := prog_4_method_8_code
def yX2_signByte : MethodName := ⟨RX2, "signByte", "(LDataLayout$Item;)I"⟩
abbrev cX2_read : ByteArray := prog_4_method_9_code
def yX2_read : MethodName := ⟨RX2, "read", "(LDataLayout$Store;LDataLayout$Item;)J"⟩
abbrev cX2_readBinary : ByteArray := prog_4_method_10_code
def yX2_readBinary : MethodName := ⟨RX2, "readBinary", "(LDataLayout$Store;II)J"⟩
abbrev cX2_readPacked : ByteArray := prog_4_method_11_code
def yX2_readPacked : MethodName := ⟨RX2, "readPacked", "(LDataLayout$Store;ILDataLayout$Item;)J"⟩
abbrev cX2_halfByte : ByteArray := prog_4_method_12_code
def yX2_halfByte : MethodName := ⟨RX2, "halfByte", "(LDataLayout$Store;II)I"⟩
abbrev cX2_readDigits : ByteArray := prog_4_method_13_code
def yX2_readDigits : MethodName := ⟨RX2, "readDigits", "(LDataLayout$Store;ILDataLayout$Item;)J"⟩
abbrev cX2_readsMinus : ByteArray := prog_4_method_14_code
def yX2_readsMinus : MethodName := ⟨RX2, "readsMinus", "(I)Z"⟩
def RX3 : String := "DataLayout$Plan"
def TX3 : u_T := fun k => match k with
  | 0 => ("DataLayout$Plan", "tree", "LDataLayout$Tree;", true)
  | _ => ("DataLayout$Plan", "end", "J", false)
def tyX3 : Nat → FieldType := fun k => match k with
  | 0 => .object "DataLayout$Tree"
  | _ => .long
abbrev wsX30 : List Cond := u_ws RX3 TX3 2
theorem nmX3 : ∀ a, a < 2 → ∀ b, b < 2 → a ≠ b → (TX3 a).2.1 ≠ (TX3 b).2.1 := by decide +kernel
theorem tyX3_ok : ∀ k, k < 2 → parseFieldDescriptor (TX3 k).2.2.1 = some (tyX3 k) := by decide +kernel
abbrev cX3_init : ByteArray := prog_5_method_1_code
def yX3_init : MethodName := ⟨RX3, "<init>", "(LDataLayout$Tree;)V"⟩
abbrev cX3_layAll : ByteArray := prog_5_method_2_code
def yX3_layAll : MethodName := ⟨RX3, "layAll", "()V"⟩
abbrev cX3_gatherUnits : ByteArray := prog_5_method_3_code
def yX3_gatherUnits : MethodName := ⟨RX3, "gatherUnits", "()V"⟩
abbrev cX3_begin : ByteArray := prog_5_method_4_code
def yX3_begin : MethodName := ⟨RX3, "begin", "(LDataLayout$Item;)V"⟩
abbrev cX3_beginOfRecord : ByteArray := prog_5_method_5_code
def yX3_beginOfRecord : MethodName := ⟨RX3, "beginOfRecord", "(LDataLayout$Item;)J"⟩
abbrev cX3_beginBelow : ByteArray := prog_5_method_6_code
def yX3_beginBelow : MethodName := ⟨RX3, "beginBelow", "(LDataLayout$Item;LDataLayout$Item;)J"⟩
abbrev cX3_isLaterExternal : ByteArray := prog_5_method_7_code
def yX3_isLaterExternal : MethodName := ⟨RX3, "isLaterExternal", "(LDataLayout$Item;)Z"⟩
abbrev cX3_finishUpTo : ByteArray := prog_5_method_8_code
def yX3_finishUpTo : MethodName := ⟨RX3, "finishUpTo", "(LDataLayout$Item;LDataLayout$Item;)V"⟩
abbrev cX3_finish : ByteArray := prog_5_method_9_code
def yX3_finish : MethodName := ⟨RX3, "finish", "(LDataLayout$Item;)V"⟩
abbrev cX3_placeParts : ByteArray := prog_5_method_10_code
def yX3_placeParts : MethodName := ⟨RX3, "placeParts", "()V"⟩
abbrev cX3_markMoving : ByteArray := prog_5_method_11_code
def yX3_markMoving : MethodName := ⟨RX3, "markMoving", "()V"⟩
abbrev cX3_firstWrong : ByteArray := prog_5_method_12_code
def yX3_firstWrong : MethodName := ⟨RX3, "firstWrong", "()I"⟩
abbrev cX3_isRight : ByteArray := prog_5_method_13_code
def yX3_isRight : MethodName := ⟨RX3, "isRight", "(LDataLayout$Item;)Z"⟩
abbrev cX3_isRightPart : ByteArray := prog_5_method_14_code
def yX3_isRightPart : MethodName := ⟨RX3, "isRightPart", "(LDataLayout$Item;LDataLayout$Item;)Z"⟩
abbrev cX3_isLastOfRecord : ByteArray := prog_5_method_15_code
def yX3_isLastOfRecord : MethodName := ⟨RX3, "isLastOfRecord", "(LDataLayout$Item;)Z"⟩
abbrev cX3_fitsOver : ByteArray := prog_5_method_16_code
def yX3_fitsOver : MethodName := ⟨RX3, "fitsOver", "(LDataLayout$Item;LDataLayout$Item;)Z"⟩
abbrev cX3_fitsFirstOfName : ByteArray := prog_5_method_17_code
def yX3_fitsFirstOfName : MethodName := ⟨RX3, "fitsFirstOfName", "(LDataLayout$Item;)Z"⟩
abbrev cX3_roundUp : ByteArray := prog_5_method_18_code
def yX3_roundUp : MethodName := ⟨RX3, "roundUp", "(JI)J"⟩
def RX4 : String := "DataLayout$Ranges"
def TX4 : u_T := fun k => match k with
  | 0 => ("DataLayout$Ranges", "lows", "[I", true)
  | 1 => ("DataLayout$Ranges", "highs", "[I", true)
  | _ => ("DataLayout$Ranges", "told", "I", false)
def tyX4 : Nat → FieldType := fun k => match k with
  | 0 => .array .int
  | 1 => .array .int
  | _ => .int
abbrev wsX40 : List Cond := u_ws RX4 TX4 3
theorem nmX4 : ∀ a, a < 3 → ∀ b, b < 3 → a ≠ b → (TX4 a).2.1 ≠ (TX4 b).2.1 := by decide +kernel
theorem tyX4_ok : ∀ k, k < 3 → parseFieldDescriptor (TX4 k).2.2.1 = some (tyX4 k) := by decide +kernel
abbrev cX4_init : ByteArray := prog_6_method_1_code
def yX4_init : MethodName := ⟨RX4, "<init>", "()V"⟩
abbrev cX4_add : ByteArray := prog_6_method_2_code
def yX4_add : MethodName := ⟨RX4, "add", "(II)Z"⟩
abbrev cX4_contain : ByteArray := prog_6_method_3_code
def yX4_contain : MethodName := ⟨RX4, "contain", "(J)Z"⟩
def RX5 : String := "DataLayout$Spot"
def TX5 : u_T := fun k => match k with
  | 0 => ("DataLayout$Spot", "place", "J", false)
  | 1 => ("DataLayout$Spot", "end", "J", false)
  | 2 => ("DataLayout$Spot", "unit", "I", false)
  | 3 => ("DataLayout$Spot", "slack", "I", false)
  | 4 => ("DataLayout$Spot", "lent", "Z", false)
  | _ => ("DataLayout$Spot", "moving", "LDataLayout$Table;", false)
def tyX5 : Nat → FieldType := fun k => match k with
  | 0 => .long
  | 1 => .long
  | 2 => .int
  | 3 => .int
  | 4 => .boolean
  | _ => .object "DataLayout$Table"
abbrev wsX50 : List Cond := u_ws RX5 TX5 6
theorem nmX5 : ∀ a, a < 6 → ∀ b, b < 6 → a ≠ b → (TX5 a).2.1 ≠ (TX5 b).2.1 := by decide +kernel
theorem tyX5_ok : ∀ k, k < 6 → parseFieldDescriptor (TX5 k).2.2.1 = some (tyX5 k) := by decide +kernel
abbrev cX5_init : ByteArray := prog_7_method_1_code
def yX5_init : MethodName := ⟨RX5, "<init>", "()V"⟩
def RX6 : String := "DataLayout$Store"
def TX6 : u_T := fun k => match k with
  | 0 => ("DataLayout$Store", "all", "[B", false)
  | _ => ("DataLayout$Store", "used", "I", false)
def tyX6 : Nat → FieldType := fun k => match k with
  | 0 => .array .byte
  | _ => .int
abbrev wsX60 : List Cond := u_ws RX6 TX6 2
theorem nmX6 : ∀ a, a < 2 → ∀ b, b < 2 → a ≠ b → (TX6 a).2.1 ≠ (TX6 b).2.1 := by decide +kernel
theorem tyX6_ok : ∀ k, k < 2 → parseFieldDescriptor (TX6 k).2.2.1 = some (tyX6 k) := by decide +kernel
abbrev cX6_init : ByteArray := prog_8_method_1_code
def yX6_init : MethodName := ⟨RX6, "<init>", "()V"⟩
abbrev cX6_clear : ByteArray := prog_8_method_2_code
def yX6_clear : MethodName := ⟨RX6, "clear", "(I)V"⟩
abbrev cX6_has : ByteArray := prog_8_method_3_code
def yX6_has : MethodName := ⟨RX6, "has", "(I)Z"⟩
abbrev cX6_get : ByteArray := prog_8_method_4_code
def yX6_get : MethodName := ⟨RX6, "get", "(I)I"⟩
abbrev cX6_put : ByteArray := prog_8_method_5_code
def yX6_put : MethodName := ⟨RX6, "put", "(II)V"⟩
abbrev cX6_repeat : ByteArray := prog_8_method_6_code
def yX6_repeat : MethodName := ⟨RX6, "repeat", "(III)V"⟩
def RX7 : String := "DataLayout$Table"
def TX7 : u_T := fun k => match k with
  | 0 => ("DataLayout$Table", "fewest", "I", true)
  | 1 => ("DataLayout$Table", "most", "I", true)
  | 2 => ("DataLayout$Table", "depends", "Z", true)
  | 3 => ("DataLayout$Table", "now", "I", false)
  | _ => ("DataLayout$Table", "stride", "J", false)
def tyX7 : Nat → FieldType := fun k => match k with
  | 0 => .int
  | 1 => .int
  | 2 => .boolean
  | 3 => .int
  | _ => .long
abbrev wsX70 : List Cond := u_ws RX7 TX7 5
theorem nmX7 : ∀ a, a < 5 → ∀ b, b < 5 → a ≠ b → (TX7 a).2.1 ≠ (TX7 b).2.1 := by decide +kernel
theorem tyX7_ok : ∀ k, k < 5 → parseFieldDescriptor (TX7 k).2.2.1 = some (tyX7 k) := by decide +kernel
abbrev cX7_init : ByteArray := prog_9_method_1_code
def yX7_init : MethodName := ⟨RX7, "<init>", "(IIZ)V"⟩
def RX8 : String := "DataLayout$Tree"
def TX8 : u_T := fun k => match k with
  | 0 => ("DataLayout$Tree", "row", "[LDataLayout$Item;", true)
  | _ => ("DataLayout$Tree", "told", "I", false)
def tyX8 : Nat → FieldType := fun k => match k with
  | 0 => .array (.object "DataLayout$Item")
  | _ => .int
abbrev wsX80 : List Cond := u_ws RX8 TX8 2
theorem nmX8 : ∀ a, a < 2 → ∀ b, b < 2 → a ≠ b → (TX8 a).2.1 ≠ (TX8 b).2.1 := by decide +kernel
theorem tyX8_ok : ∀ k, k < 2 → parseFieldDescriptor (TX8 k).2.2.1 = some (tyX8 k) := by decide +kernel
abbrev cX8_init : ByteArray := prog_10_method_1_code
def yX8_init : MethodName := ⟨RX8, "<init>", "()V"⟩
abbrev cX8_find : ByteArray := prog_10_method_2_code
def yX8_find : MethodName := ⟨RX8, "find", "(I)LDataLayout$Item;"⟩
abbrev cX8_add : ByteArray := prog_10_method_3_code
def yX8_add : MethodName := ⟨RX8, "add", "(III)V"⟩
abbrev cX8_hasPlaceFor : ByteArray := prog_10_method_4_code
def yX8_hasPlaceFor : MethodName := ⟨RX8, "hasPlaceFor", "(I)Z"⟩
abbrev cX8_around : ByteArray := prog_10_method_5_code
def yX8_around : MethodName := ⟨RX8, "around", "(I)LDataLayout$Item;"⟩
abbrev cX8_latestTopRecord : ByteArray := prog_10_method_6_code
def yX8_latestTopRecord : MethodName := ⟨RX8, "latestTopRecord", "()LDataLayout$Item;"⟩
abbrev cX8_latestNotNaming : ByteArray := prog_10_method_7_code
def yX8_latestNotNaming : MethodName := ⟨RX8, "latestNotNaming", "()LDataLayout$Item;"⟩
abbrev cX8_latestOfLesserLevel : ByteArray := prog_10_method_8_code
def yX8_latestOfLesserLevel : MethodName := ⟨RX8, "latestOfLesserLevel", "(I)LDataLayout$Item;"⟩
abbrev cX8_mayBeTable : ByteArray := prog_10_method_9_code
def yX8_mayBeTable : MethodName := ⟨RX8, "mayBeTable", "(LDataLayout$Item;Z)Z"⟩
abbrev cX8_mayRedefine : ByteArray := prog_10_method_10_code
def yX8_mayRedefine : MethodName := ⟨RX8, "mayRedefine", "(LDataLayout$Item;LDataLayout$Item;)Z"⟩
abbrev cX8_allBetweenRedefine : ByteArray := prog_10_method_11_code
def yX8_allBetweenRedefine : MethodName := ⟨RX8, "allBetweenRedefine", "(LDataLayout$Item;LDataLayout$Item;)Z"⟩
abbrev cX8_hasValues : ByteArray := prog_10_method_12_code
def yX8_hasValues : MethodName := ⟨RX8, "hasValues", "(LDataLayout$Item;)Z"⟩
abbrev cX8_firstOfName : ByteArray := prog_10_method_13_code
def yX8_firstOfName : MethodName := ⟨RX8, "firstOfName", "(I)LDataLayout$Item;"⟩
abbrev cX8_records : ByteArray := prog_10_method_14_code
def yX8_records : MethodName := ⟨RX8, "records", "()I"⟩
abbrev cX8_tables : ByteArray := prog_10_method_15_code
def yX8_tables : MethodName := ⟨RX8, "tables", "()I"⟩
abbrev cX8_slackBytes : ByteArray := prog_10_method_16_code
def yX8_slackBytes : MethodName := ⟨RX8, "slackBytes", "()I"⟩
def RX9 : String := "DataLayout"
def TX9 : u_T := fun k => match k with
  | 0 => ("DataLayout", "tree", "LDataLayout$Tree;", true)
  | 1 => ("DataLayout", "plan", "LDataLayout$Plan;", true)
  | 2 => ("DataLayout", "store", "LDataLayout$Store;", true)
  | 3 => ("DataLayout", "laid", "Z", false)
  | 4 => ("DataLayout", "looking", "Z", false)
  | _ => ("DataLayout", "looked", "I", false)
def tyX9 : Nat → FieldType := fun k => match k with
  | 0 => .object "DataLayout$Tree"
  | 1 => .object "DataLayout$Plan"
  | 2 => .object "DataLayout$Store"
  | 3 => .boolean
  | 4 => .boolean
  | _ => .int
abbrev wsX90 : List Cond := u_ws RX9 TX9 6
theorem nmX9 : ∀ a, a < 6 → ∀ b, b < 6 → a ≠ b → (TX9 a).2.1 ≠ (TX9 b).2.1 := by decide +kernel
theorem tyX9_ok : ∀ k, k < 6 → parseFieldDescriptor (TX9 k).2.2.1 = some (tyX9 k) := by decide +kernel
abbrev cX9_init : ByteArray := prog_1_method_1_code
def yX9_init : MethodName := ⟨RX9, "<init>", "()V"⟩
abbrev cX9_item : ByteArray := prog_1_method_2_code
def yX9_item : MethodName := ⟨RX9, "item", "(III)I"⟩
abbrev cX9_clause : ByteArray := prog_1_method_3_code
def yX9_clause : MethodName := ⟨RX9, "clause", "(IIII)I"⟩
abbrev cX9_lay : ByteArray := prog_1_method_4_code
def yX9_lay : MethodName := ⟨RX9, "lay", "()I"⟩
abbrev cX9_place : ByteArray := prog_1_method_5_code
def yX9_place : MethodName := ⟨RX9, "place", "(I)I"⟩
abbrev cX9_size : ByteArray := prog_1_method_6_code
def yX9_size : MethodName := ⟨RX9, "size", "(I)I"⟩
abbrev cX9_subscript : ByteArray := prog_1_method_7_code
def yX9_subscript : MethodName := ⟨RX9, "subscript", "(IIII)I"⟩
abbrev cX9_checks : ByteArray := prog_1_method_8_code
def yX9_checks : MethodName := ⟨RX9, "checks", "(Z)I"⟩
abbrev cX9_depending : ByteArray := prog_1_method_9_code
def yX9_depending : MethodName := ⟨RX9, "depending", "(II)I"⟩
abbrev cX9_redefines : ByteArray := prog_1_method_10_code
def yX9_redefines : MethodName := ⟨RX9, "redefines", "(II)I"⟩
abbrev cX9_refer : ByteArray := prog_1_method_11_code
def yX9_refer : MethodName := ⟨RX9, "refer", "(III)I"⟩
abbrev cX9_slack : ByteArray := prog_1_method_12_code
def yX9_slack : MethodName := ⟨RX9, "slack", "(I)I"⟩
abbrev cX9_external : ByteArray := prog_1_method_13_code
def yX9_external : MethodName := ⟨RX9, "external", "(II)I"⟩
abbrev cX9_at : ByteArray := prog_1_method_14_code
def yX9_at : MethodName := ⟨RX9, "at", "(I)B"⟩
abbrev cX9_octet : ByteArray := prog_1_method_15_code
def yX9_octet : MethodName := ⟨RX9, "octet", "(IB)I"⟩
abbrev cX9_holds : ByteArray := prog_1_method_16_code
def yX9_holds : MethodName := ⟨RX9, "holds", "(I)Z"⟩
abbrev cX9_count : ByteArray := prog_1_method_17_code
def yX9_count : MethodName := ⟨RX9, "count", "(I)I"⟩
abbrev cX9_refusalFor : ByteArray := prog_1_method_18_code
def yX9_refusalFor : MethodName := ⟨RX9, "refusalFor", "(LDataLayout$Item;Z)I"⟩
abbrev cX9_tellClause : ByteArray := prog_1_method_19_code
def yX9_tellClause : MethodName := ⟨RX9, "tellClause", "(LDataLayout$Item;III)Z"⟩
abbrev cX9_tellTable : ByteArray := prog_1_method_20_code
def yX9_tellTable : MethodName := ⟨RX9, "tellTable", "(LDataLayout$Item;LDataLayout$Table;)Z"⟩
abbrev cX9_tellSynchronised : ByteArray := prog_1_method_21_code
def yX9_tellSynchronised : MethodName := ⟨RX9, "tellSynchronised", "(LDataLayout$Item;)Z"⟩
abbrev cX9_tellValue : ByteArray := prog_1_method_22_code
def yX9_tellValue : MethodName := ⟨RX9, "tellValue", "(LDataLayout$Item;I)Z"⟩
abbrev cX9_tellRange : ByteArray := prog_1_method_23_code
def yX9_tellRange : MethodName := ⟨RX9, "tellRange", "(LDataLayout$Item;II)Z"⟩
abbrev cX9_tellPart : ByteArray := prog_1_method_24_code
def yX9_tellPart : MethodName := ⟨RX9, "tellPart", "(LDataLayout$Item;LDataLayout$Item;LDataLayout$Item;)Z"⟩
abbrev cX9_fillFirstEntries : ByteArray := prog_1_method_25_code
def yX9_fillFirstEntries : MethodName := ⟨RX9, "fillFirstEntries", "()V"⟩
abbrev cX9_fillText : ByteArray := prog_1_method_26_code
def yX9_fillText : MethodName := ⟨RX9, "fillText", "(III)V"⟩
abbrev cX9_fillOtherEntries : ByteArray := prog_1_method_27_code
def yX9_fillOtherEntries : MethodName := ⟨RX9, "fillOtherEntries", "()V"⟩
def RX10 : String := "DataLayoutModel"
def TX10 : u_T := fun k => match k with
  | 0 => ("DataLayoutModel", "thrown", "I", false)
  | 1 => ("DataLayoutModel", "many", "I", false)
  | 2 => ("DataLayoutModel", "level", "[I", true)
  | 3 => ("DataLayoutModel", "use", "[I", true)
  | 4 => ("DataLayoutModel", "digits", "[I", true)
  | 5 => ("DataLayoutModel", "parent", "[I", true)
  | 6 => ("DataLayoutModel", "record", "[I", true)
  | 7 => ("DataLayoutModel", "table", "[I", true)
  | 8 => ("DataLayoutModel", "least", "[I", true)
  | 9 => ("DataLayoutModel", "most", "[I", true)
  | 10 => ("DataLayoutModel", "now", "[I", true)
  | 11 => ("DataLayoutModel", "synced", "[Z", true)
  | 12 => ("DataLayoutModel", "valued", "[Z", true)
  | 13 => ("DataLayoutModel", "value", "[I", true)
  | 14 => ("DataLayoutModel", "ranges", "[I", true)
  | 15 => ("DataLayoutModel", "renamed", "[I", true)
  | 16 => ("DataLayoutModel", "renamedTo", "[I", true)
  | 17 => ("DataLayoutModel", "other", "[I", true)
  | 18 => ("DataLayoutModel", "name", "[I", true)
  | 19 => ("DataLayoutModel", "rangeFrom", "[I", true)
  | 20 => ("DataLayoutModel", "rangeTo", "[I", true)
  | 21 => ("DataLayoutModel", "laid", "Z", false)
  | 22 => ("DataLayoutModel", "looks", "Z", false)
  | 23 => ("DataLayoutModel", "looked", "I", false)
  | 24 => ("DataLayoutModel", "total", "I", false)
  | 25 => ("DataLayoutModel", "slacks", "I", false)
  | 26 => ("DataLayoutModel", "bytes", "[B", true)
  | 27 => ("DataLayoutModel", "place", "[J", true)
  | 28 => ("DataLayoutModel", "length", "[J", true)
  | 29 => ("DataLayoutModel", "stride", "[J", true)
  | 30 => ("DataLayoutModel", "end", "[J", true)
  | 31 => ("DataLayoutModel", "slack", "[J", true)
  | 32 => ("DataLayoutModel", "greatest", "[I", true)
  | 33 => ("DataLayoutModel", "around", "[I", true)
  | 34 => ("DataLayoutModel", "arounds", "I", false)
  | _ => ("DataLayoutModel", "said", "J", false)
def tyX10 : Nat → FieldType := fun k => match k with
  | 0 => .int
  | 1 => .int
  | 2 => .array .int
  | 3 => .array .int
  | 4 => .array .int
  | 5 => .array .int
  | 6 => .array .int
  | 7 => .array .int
  | 8 => .array .int
  | 9 => .array .int
  | 10 => .array .int
  | 11 => .array .boolean
  | 12 => .array .boolean
  | 13 => .array .int
  | 14 => .array .int
  | 15 => .array .int
  | 16 => .array .int
  | 17 => .array .int
  | 18 => .array .int
  | 19 => .array .int
  | 20 => .array .int
  | 21 => .boolean
  | 22 => .boolean
  | 23 => .int
  | 24 => .int
  | 25 => .int
  | 26 => .array .byte
  | 27 => .array .long
  | 28 => .array .long
  | 29 => .array .long
  | 30 => .array .long
  | 31 => .array .long
  | 32 => .array .int
  | 33 => .array .int
  | 34 => .int
  | _ => .long
abbrev wsX100 : List Cond := u_ws RX10 TX10 36
theorem nmX10 : ∀ a, a < 36 → ∀ b, b < 36 → a ≠ b → (TX10 a).2.1 ≠ (TX10 b).2.1 := by decide +kernel
theorem tyX10_ok : ∀ k, k < 36 → parseFieldDescriptor (TX10 k).2.2.1 = some (tyX10 k) := by decide +kernel
abbrev cX10_init : ByteArray := prog_12_method_1_code
def yX10_init : MethodName := ⟨RX10, "<init>", "()V"⟩
abbrev cX10_thrown : ByteArray := prog_12_method_2_code
def yX10_thrown : MethodName := ⟨RX10, "thrown", "()I"⟩
abbrev cX10_is : ByteArray := prog_12_method_3_code
def yX10_is : MethodName := ⟨RX10, "is", "(I)Z"⟩
abbrev cX10_lies : ByteArray := prog_12_method_4_code
def yX10_lies : MethodName := ⟨RX10, "lies", "(I)Z"⟩
abbrev cX10_isBelow : ByteArray := prog_12_method_5_code
def yX10_isBelow : MethodName := ⟨RX10, "isBelow", "(II)Z"⟩
abbrev cX10_isSize : ByteArray := prog_12_method_6_code
def yX10_isSize : MethodName := ⟨RX10, "isSize", "(II)Z"⟩
abbrev cX10_above : ByteArray := prog_12_method_7_code
def yX10_above : MethodName := ⟨RX10, "above", "(I)I"⟩
abbrev cX10_named : ByteArray := prog_12_method_8_code
def yX10_named : MethodName := ⟨RX10, "named", "()I"⟩
abbrev cX10_item : ByteArray := prog_12_method_9_code
def yX10_item : MethodName := ⟨RX10, "item", "(III)I"⟩
abbrev cX10_isRedefined : ByteArray := prog_12_method_10_code
def yX10_isRedefined : MethodName := ⟨RX10, "isRedefined", "(I)Z"⟩
abbrev cX10_isAside : ByteArray := prog_12_method_11_code
def yX10_isAside : MethodName := ⟨RX10, "isAside", "(I)Z"⟩
abbrev cX10_tablesUp : ByteArray := prog_12_method_12_code
def yX10_tablesUp : MethodName := ⟨RX10, "tablesUp", "(II)I"⟩
abbrev cX10_mayBeTable : ByteArray := prog_12_method_13_code
def yX10_mayBeTable : MethodName := ⟨RX10, "mayBeTable", "(IZ)Z"⟩
abbrev cX10_digitsOf : ByteArray := prog_12_method_14_code
def yX10_digitsOf : MethodName := ⟨RX10, "digitsOf", "(I)I"⟩
abbrev cX10_isPart : ByteArray := prog_12_method_15_code
def yX10_isPart : MethodName := ⟨RX10, "isPart", "(II)Z"⟩
abbrev cX10_isClause : ByteArray := prog_12_method_16_code
def yX10_isClause : MethodName := ⟨RX10, "isClause", "(III)Z"⟩
abbrev cX10_clause : ByteArray := prog_12_method_17_code
def yX10_clause : MethodName := ⟨RX10, "clause", "(IIII)I"⟩
abbrev cX10_redefines : ByteArray := prog_12_method_18_code
def yX10_redefines : MethodName := ⟨RX10, "redefines", "(II)I"⟩
abbrev cX10_external : ByteArray := prog_12_method_19_code
def yX10_external : MethodName := ⟨RX10, "external", "(II)I"⟩
abbrev cX10_depending : ByteArray := prog_12_method_20_code
def yX10_depending : MethodName := ⟨RX10, "depending", "(II)I"⟩
abbrev cX10_bytesOf : ByteArray := prog_12_method_21_code
def yX10_bytesOf : MethodName := ⟨RX10, "bytesOf", "(I)I"⟩
abbrev cX10_up : ByteArray := prog_12_method_22_code
def yX10_up : MethodName := ⟨RX10, "up", "(JI)J"⟩
abbrev cX10_firstOf : ByteArray := prog_12_method_23_code
def yX10_firstOf : MethodName := ⟨RX10, "firstOf", "(I)I"⟩
abbrev cX10_close : ByteArray := prog_12_method_24_code
def yX10_close : MethodName := ⟨RX10, "close", "(I)V"⟩
abbrev cX10_layAll : ByteArray := prog_12_method_25_code
def yX10_layAll : MethodName := ⟨RX10, "layAll", "()V"⟩
abbrev cX10_begin : ByteArray := prog_12_method_26_code
def yX10_begin : MethodName := ⟨RX10, "begin", "(IJ)V"⟩
abbrev cX10_alignment : ByteArray := prog_12_method_27_code
def yX10_alignment : MethodName := ⟨RX10, "alignment", "(I)I"⟩
abbrev cX10_hasBelow : ByteArray := prog_12_method_28_code
def yX10_hasBelow : MethodName := ⟨RX10, "hasBelow", "(I)Z"⟩
abbrev cX10_isBadPart : ByteArray := prog_12_method_29_code
def yX10_isBadPart : MethodName := ⟨RX10, "isBadPart", "(I)Z"⟩
abbrev cX10_isLast : ByteArray := prog_12_method_30_code
def yX10_isLast : MethodName := ⟨RX10, "isLast", "(I)Z"⟩
abbrev cX10_isWrong : ByteArray := prog_12_method_31_code
def yX10_isWrong : MethodName := ⟨RX10, "isWrong", "(I)Z"⟩
abbrev cX10_lay : ByteArray := prog_12_method_32_code
def yX10_lay : MethodName := ⟨RX10, "lay", "()I"⟩
abbrev cX10_findAround : ByteArray := prog_12_method_33_code
def yX10_findAround : MethodName := ⟨RX10, "findAround", "(I)V"⟩
abbrev cX10_fillAll : ByteArray := prog_12_method_34_code
def yX10_fillAll : MethodName := ⟨RX10, "fillAll", "(I)V"⟩
abbrev cX10_fill : ByteArray := prog_12_method_35_code
def yX10_fill : MethodName := ⟨RX10, "fill", "(II)V"⟩
abbrev cX10_refused : ByteArray := prog_12_method_36_code
def yX10_refused : MethodName := ⟨RX10, "refused", "(IZ)I"⟩
abbrev cX10_placeOf : ByteArray := prog_12_method_37_code
def yX10_placeOf : MethodName := ⟨RX10, "placeOf", "(I)J"⟩
abbrev cX10_sizeOf : ByteArray := prog_12_method_38_code
def yX10_sizeOf : MethodName := ⟨RX10, "sizeOf", "(I)J"⟩
abbrev cX10_place : ByteArray := prog_12_method_39_code
def yX10_place : MethodName := ⟨RX10, "place", "(I)I"⟩
abbrev cX10_size : ByteArray := prog_12_method_40_code
def yX10_size : MethodName := ⟨RX10, "size", "(I)I"⟩
abbrev cX10_subscript : ByteArray := prog_12_method_41_code
def yX10_subscript : MethodName := ⟨RX10, "subscript", "(IIII)I"⟩
abbrev cX10_checks : ByteArray := prog_12_method_42_code
def yX10_checks : MethodName := ⟨RX10, "checks", "(Z)I"⟩
abbrev cX10_refer : ByteArray := prog_12_method_43_code
def yX10_refer : MethodName := ⟨RX10, "refer", "(III)I"⟩
abbrev cX10_slack : ByteArray := prog_12_method_44_code
def yX10_slack : MethodName := ⟨RX10, "slack", "(I)I"⟩
abbrev cX10_at : ByteArray := prog_12_method_45_code
def yX10_at : MethodName := ⟨RX10, "at", "(I)B"⟩
abbrev cX10_octet : ByteArray := prog_12_method_46_code
def yX10_octet : MethodName := ⟨RX10, "octet", "(IB)I"⟩
abbrev cX10_isDigit : ByteArray := prog_12_method_47_code
def yX10_isDigit : MethodName := ⟨RX10, "isDigit", "(I)Z"⟩
abbrev cX10_says : ByteArray := prog_12_method_48_code
def yX10_says : MethodName := ⟨RX10, "says", "(I)Z"⟩
abbrev cX10_saysPacked : ByteArray := prog_12_method_49_code
def yX10_saysPacked : MethodName := ⟨RX10, "saysPacked", "(III)Z"⟩
abbrev cX10_holds : ByteArray := prog_12_method_50_code
def yX10_holds : MethodName := ⟨RX10, "holds", "(I)Z"⟩
abbrev cX10_count : ByteArray := prog_12_method_51_code
def yX10_count : MethodName := ⟨RX10, "count", "(I)I"⟩
def RJx00060 : String := "java/lang/ArrayIndexOutOfBoundsException"
def TJx00060 : u_T := fun k => match k with
  | 0 => ("java/lang/Throwable", "cause", "Ljava/lang/Throwable;", false)
  | 1 => ("java/lang/Throwable", "stackTrace", "[Ljava/lang/StackTraceElement;", false)
  | 2 => ("java/lang/Throwable", "suppressedExceptions", "Ljava/util/List;", false)
  | 3 => ("java/lang/Throwable", "detailMessage", "Ljava/lang/String;", false)
  | 4 => ("java/lang/Throwable", "backtrace", "Ljava/lang/Object;", false)
  | _ => ("java/lang/Throwable", "depth", "I", false)
def tyJx00060 : Nat → FieldType := fun k => match k with
  | 0 => .object "java/lang/Throwable"
  | 1 => .array (.object "java/lang/StackTraceElement")
  | 2 => .object "java/util/List"
  | 3 => .object "java/lang/String"
  | 4 => .object "java/lang/Object"
  | _ => .int
abbrev wsJx000600 : List Cond := u_ws RJx00060 TJx00060 6
theorem nmJx00060 : ∀ a, a < 6 → ∀ b, b < 6 → a ≠ b → (TJx00060 a).2.1 ≠ (TJx00060 b).2.1 := by decide +kernel
theorem tyJx00060_ok : ∀ k, k < 6 → parseFieldDescriptor (TJx00060 k).2.2.1 = some (tyJx00060 k) := by decide +kernel
abbrev cJx00060_init_a7421 : ByteArray := prog_13_method_2_code
def yJx00060_init_a7421 : MethodName := ⟨RJx00060, "<init>", "(Ljava/lang/String;)V"⟩
def RJ9 : String := "java/lang/Math"
def TJ9 : u_T := fun k => match k with
  | _ => ("", "", "", false)
def tyJ9 : Nat → FieldType := fun k => match k with
  | _ => .int
abbrev wsJ90 : List Cond := u_ws RJ9 TJ9 0
theorem nmJ9 : ∀ a, a < 0 → ∀ b, b < 0 → a ≠ b → (TJ9 a).2.1 ≠ (TJ9 b).2.1 := by decide +kernel
theorem tyJ9_ok : ∀ k, k < 0 → parseFieldDescriptor (TJ9 k).2.2.1 = some (tyJ9 k) := by decide +kernel
abbrev cJ9_abs_067f4 : ByteArray := prog_18_method_61_code
def yJ9_abs_067f4 : MethodName := ⟨RJ9, "abs", "(J)J"⟩
abbrev cJ9_max_7cf53 : ByteArray := prog_18_method_65_code
def yJ9_max_7cf53 : MethodName := ⟨RJ9, "max", "(II)I"⟩
abbrev cJ9_max_f86c9 : ByteArray := prog_18_method_66_code
def yJ9_max_f86c9 : MethodName := ⟨RJ9, "max", "(JJ)J"⟩
abbrev cJ9_min_7cf53 : ByteArray := prog_18_method_69_code
def yJ9_min_7cf53 : MethodName := ⟨RJ9, "min", "(II)I"⟩
def RJ0 : String := "java/lang/String"
def TJ0 : u_T := fun k => match k with
  | _ => ("", "", "", false)
def tyJ0 : Nat → FieldType := fun k => match k with
  | _ => .int
abbrev wsJ00 : List Cond := u_ws RJ0 TJ0 0
theorem nmJ0 : ∀ a, a < 0 → ∀ b, b < 0 → a ≠ b → (TJ0 a).2.1 ≠ (TJ0 b).2.1 := by decide +kernel
theorem tyJ0_ok : ∀ k, k < 0 → parseFieldDescriptor (TJ0 k).2.2.1 = some (tyJ0 k) := by decide +kernel
def RL : String := "DataLayoutLaw"
abbrev cL_subscript : ByteArray := method_3_code
def yL_subscript : MethodName := ⟨RL, "subscript", "(LDataLayout;IIII[J)I"⟩
abbrev cL_at : ByteArray := method_4_code
def yL_at : MethodName := ⟨RL, "at", "(LDataLayout;I[J)I"⟩
abbrev cL_holds : ByteArray := method_5_code
def yL_holds : MethodName := ⟨RL, "holds", "(LDataLayout;I[J)I"⟩
abbrev cL_law : ByteArray := code
def yL_law : MethodName := ⟨RL, "law", "([I)Z"⟩
end
section
/-! MY OWN JUDGEMENT OVER THE KIT'S: a heap held by fields (class and field a key), typed values; jG: the machine at a place of a method's code; jM: a method's contract. -/
abbrev jv : Type := Int32 ⊕ (Int64 ⊕ Option Nat)
def jw : jv → Value
  | .inl x => .int x
  | .inr (.inl x) => .long x
  | .inr (.inr o) => va_rf o
/-- size; kind of a cell (0: not ours; c + 1: object of class c; 20 .. 24: rows of int, byte, long, Item, boolean); int, long, reference fields by key and cell; lengths of rows; their contents -/
abbrev jh : Type := Nat × (Nat → Nat) × (Nat → Nat → Int32) × (Nat → Nat → Int64) × (Nat → Nat → Option Nat) × (Nat → Nat) × (Nat → Nat → Int32) × (Nat → Nat → Int64) × (Nat → Nat → Option Nat)
def jz (h : jh) : Nat := h.1
def jt (h : jh) : Nat → Nat := h.2.1
def ji (h : jh) : Nat → Nat → Int32 := h.2.2.1
def jl (h : jh) : Nat → Nat → Int64 := h.2.2.2.1
def jr (h : jh) : Nat → Nat → Option Nat := h.2.2.2.2.1
def jn (h : jh) : Nat → Nat := h.2.2.2.2.2.1
def jI (h : jh) : Nat → Nat → Int32 := h.2.2.2.2.2.2.1
def jL (h : jh) : Nat → Nat → Int64 := h.2.2.2.2.2.2.2.1
def jR (h : jh) : Nat → Nat → Option Nat := h.2.2.2.2.2.2.2.2
/-- a function of two numbers, changed at one place -/
def jup {α : Type} (f : Nat → Nat → α) (k a : Nat) (x : α) : Nat → Nat → α := fun k' a' => if k' = k ∧ a' = a then x else f k' a'
def jsi (h : jh) (k a : Nat) (x : Int32) : jh := (jz h, jt h, jup (ji h) k a x, jl h, jr h, jn h, jI h, jL h, jR h)
def jsl (h : jh) (k a : Nat) (x : Int64) : jh := (jz h, jt h, ji h, jup (jl h) k a x, jr h, jn h, jI h, jL h, jR h)
def jsr (h : jh) (k a : Nat) (x : Option Nat) : jh := (jz h, jt h, ji h, jl h, jup (jr h) k a x, jn h, jI h, jL h, jR h)
def jsI (h : jh) (a i : Nat) (x : Int32) : jh := (jz h, jt h, ji h, jl h, jr h, jn h, jup (jI h) a i x, jL h, jR h)
def jsL (h : jh) (a i : Nat) (x : Int64) : jh := (jz h, jt h, ji h, jl h, jr h, jn h, jI h, jup (jL h) a i x, jR h)
def jsR (h : jh) (a i : Nat) (x : Option Nat) : jh := (jz h, jt h, ji h, jl h, jr h, jn h, jI h, jL h, jup (jR h) a i x)
/-- one cell more: an object with its fields 0, or a row of n places with 0 in them -/
def jmk (h : jh) (t n : Nat) : jh := (jz h + 1, fun a => if a = jz h then t else jt h a, fun k a => if a = jz h then 0 else ji h k a, fun k a => if a = jz h then 0 else jl h k a, fun k a => if a = jz h then none else jr h k a,
  fun a => if a = jz h then n else jn h a, fun a i => if a = jz h then 0 else jI h a i, fun a i => if a = jz h then 0 else jL h a i, fun a i => if a = jz h then none else jR h a i)
/-- cells of others more -/
def jgr (h : jh) (n : Nat) : jh := (n, jt h, ji h, jl h, jr h, jn h, jI h, jL h, jR h)
/-- a reference that is none's: 0 -/
def jd (o : Option Nat) : Nat := o.getD 0
/-- the classes whose objects are ours -/
abbrev jcl : List vw_C := [(RX0, TX0, 20), (RX3, TX3, 2), (RX4, TX4, 3), (RX5, TX5, 6), (RX6, TX6, 2), (RX7, TX7, 5), (RX8, TX8, 2), (RX9, TX9, 6), (RX10, TX10, 36)]
def jtyc : Nat → Nat → FieldType
  | 0 => tyX0 | 1 => tyX3 | 2 => tyX4 | 3 => tyX5 | 4 => tyX6 | 5 => tyX7 | 6 => tyX8 | 7 => tyX9 | _ => tyX10
def jNc : Nat → Nat
  | 0 => 20 | 1 => 2 | 2 => 3 | 3 => 6 | 4 => 2 | 5 => 5 | 6 => 2 | 7 => 6 | _ => 36
/-- what a field of a type is kept in: 0 int (boolean too), 1 long, 2 reference -/
def jkd : FieldType → Nat
  | .long => 1
  | .object _ => 2
  | .array _ => 2
  | _ => 0
def jf (h : jh) (ci k a : Nat) : jv := match jkd (jtyc ci k) with
  | 0 => .inl (ji h (64 * ci + k) a)
  | 1 => .inr (.inl (jl h (64 * ci + k) a))
  | _ => .inr (.inr (jr h (64 * ci + k) a))
/-- launch; classes' numbers and slots; row classes; the first cell that is ours; the script's cell, length, ints -/
abbrev jg : Type := Launch × va_G × (Nat → ClassId) × Nat × Nat × Nat × (Nat → Int32)
def jgD (g : jg) : va_G := g.2.1
def jgA (g : jg) : Nat → ClassId := g.2.2.1
def jgb (g : jg) : Nat := g.2.2.2.1
def jgs (g : jg) : Nat := g.2.2.2.2.1
def jgL (g : jg) : Nat := g.2.2.2.2.2.1
def jgx (g : jg) : Nat → Int32 := g.2.2.2.2.2.2
def jA (g : jg) : Nat → Prop := fun q => jgb g ≤ q
def jrow (h : jh) (t a : Nat) : Nat → Value := fun j => match t with
  | 2 => .long (jL h a j)
  | 3 => va_rf (jR h a j)
  | _ => .int (jI h a j)
def jtys (g : jg) : List (ClassId × FieldType) := [(jgA g 0, .int), (jgA g 1, .byte), (jgA g 2, .long), (jgA g 3, .object RX0), (jgA g 4, .boolean)]
/-- the machine's heap H is what h says -/
def jH (g : jg) (h : jh) (H : Heap) : Prop :=
  H.size = jz h ∧ jgb g ≤ jz h ∧ (∀ a, jt h a ≠ 0 → jgb g ≤ a ∧ a < jz h) ∧
  (∀ a ci, jt h a = ci + 1 → ci < 9 → t_OB a ((jgD g).1 ci) (jNc ci) ((jgD g).2 ci) H (fun k => jw (jf h ci k a))) ∧
  (∀ a t, jt h a = t + 20 → t < 5 → H[a]? = some (arrV (jgA g t) (jn h a) (jrow h t a)))
def jcst : List (String × String) := [("java/lang/ArrayIndexOutOfBoundsException", "java/lang/ArrayIndexOutOfBoundsException"), ("java/lang/IllegalArgumentException", "java/lang/IllegalArgumentException"), ("java/lang/IllegalStateException", "java/lang/IllegalStateException")]
def jnst : List (String × Nat × MethodName × String) := [("DataLayout", 27, ⟨"DataLayout$Store", "<init>", "()V"⟩, "DataLayout"), ("DataLayout", 281, ⟨"DataLayout$Ranges", "<init>", "()V"⟩, "DataLayout"), ("DataLayout", 9, ⟨"DataLayout$Tree", "<init>", "()V"⟩, "DataLayout"), ("DataLayout$Item", 42, ⟨"DataLayout$Spot", "<init>", "()V"⟩, "DataLayout")]
def jdcl : List MethodName := [⟨"java/lang/IndexOutOfBoundsException", "<init>", "(Ljava/lang/String;)V"⟩, ⟨"java/lang/RuntimeException", "<init>", "(Ljava/lang/String;)V"⟩, ⟨"java/lang/Exception", "<init>", "(Ljava/lang/String;)V"⟩, ⟨"java/lang/Throwable", "<init>", "(Ljava/lang/String;)V"⟩]
/-- what a state says of the classes, and of the old heap -/
def jS (g : jg) (U : State) : Prop :=
  va_K (jgD g) jcl (jtys g) U ∧ vx_Zq Bundle.tN "UNASSIGNED_STACK" Bundle.steD (jA g) U U.heap ∧ vx_Zq Bundle.tN "SUPPRESSED_SENTINEL" Bundle.listD (jA g) U U.heap ∧
  (∀ q ∈ jcst, va_Nw (.castable q.1 q.2) U) ∧ (∀ q ∈ jnst, va_Nw (.methodLinkNest q.1 q.2.1 q.2.2.1 q.2.2.2) U) ∧ (∀ own k tx, Cond.stringRef own k tx ∈ lw_tbl → ∃ a, vk_R own k tx a U) ∧ va_X (jgs g) (jgL g) (jgx g) U U.heap ∧ jgs g < jgb g ∧ va_AO RX0 U ∧ g.1.stackTraces = false ∧ (∀ x ∈ jdcl, va_Nw (.declares x) U)
/-- the words that hold at every state -/
def jtb : List Cond := lw_tbl.filter goodWord
theorem jtb_mem {w : Cond} (h : w ∈ lw_tbl) (hg : goodWord w = true) : w ∈ jtb := List.mem_filter.mpr ⟨h, hg⟩
/-- a method: name, code, locals, what it returns, frames and locals' words below it -/
abbrev jm : Type := MethodName × ByteArray × Nat × Option FieldType × Nat × Nat
def jws (y : jm) : List Cond := Cond.code y.1 y.2.1 y.2.2.1 y.2.2.2.1 :: jtb
def jrm (y : jm) (mc ms : Nat) : Room := { frames := y.2.2.2.2.1, cells := mc, slots := ms, locals := y.2.2.2.2.2 }
theorem jtb_good {x : jm} (hx : Cond.code x.1 x.2.1 x.2.2.1 x.2.2.2.1 ∈ jtb) : GoodIn jtb (jws x) := by
  intro w hw
  have hm : w ∈ jtb := by
    rcases List.mem_cons.mp hw with rfl | h
    · exact hx
    · exact h
  exact ⟨hm, good_of_word (List.mem_filter.mp hm).2⟩
abbrev jq : Type := (Option jv ⊕ Nat) → jh → Prop
def jxn : Nat → String
  | 0 => "java/lang/ArrayIndexOutOfBoundsException"
  | 1 => "java/lang/IllegalArgumentException"
  | _ => "java/lang/IllegalStateException"
def jP (g : jg) (as : List jv) (h : jh) : Array Value → State → Prop := fun a U => a = (as.map jw).toArray ∧ jH g h U.heap ∧ jS g U
def jQ (g : jg) (Q : jq) : Array Value → State → Outcome → State → Prop := fun _ st oc t => (∃ r h, oc = .returned (r.map jw) ∧ Q (.inl r) h ∧ jH g h t.heap) ∧ va_F (jA g) st t
def jX (g : jg) (Q : jq) : String → State → State → Prop := fun E st t => (∃ x h, E = jxn x ∧ Q (.inr x) h ∧ jH g h t.heap) ∧ va_F (jA g) st t
/-- a method's contract: called with as in a heap h it ends in Q, making at most mc cells of ms slots -/
def jM (g : jg) (y : jm) (as : List jv) (h : jh) (mc ms : Nat) (Q : jq) : Prop := vx_Met g.1 y.1 (jws y) (jrm y mc ms) (jP g as h) (jQ g Q) (jX g Q) mc ms (jA g)
def jC (g : jg) (y : jm) (p : Program) (s : State) (m : MethodId) (args : Array Value) (meth : Method) (c : Code) : Prop :=
  p.tables.exec = Jvm.exec ∧ c.code = y.2.1 ∧ meth.sig.returnType = y.2.2.2.1 ∧ c.maxLocals = y.2.2.1 ∧ s.vm.findClass y.1.cls = some m.cls ∧ (∀ w ∈ jtb, w.before args s = true) ∧ meth.locks = false ∧ meth.name = y.1.name ∧ (∀ x ∈ c.exceptionTable.toList, False) ∧ jS g s ∧ g.1.stackTraces = false ∧ jgb g ≤ s.heap.size
def jlv (lv : List (Nat × jv)) : List (Nat × Value) := lv.map (fun q => (q.1, jw q.2))
/-- THE JUDGEMENT: at pc with locals lv, stack st, heap h, with k cells of n slots left to make: the method ends in Q -/
def jG (g : jg) (y : jm) (pc : Nat) (lv : List (Nat × jv)) (st : List jv) (h : jh) (k n : Nat) (Q : jq) : Prop :=
  ∀ (p : Program) (e : Env) (s : State) (m : MethodId) (args : Array Value) (below : List Frame) (meth : Method) (c : Code) (H : Heap) (locs : List Loc) (cells slots mc ms : Nat) (ls : Array Slot),
    jC g y p s m args meth c → jH g h H → va_S (jA g) s.heap H locs → cells + k ≤ mc → slots + n ≤ ms → lv_has ls y.2.2.1 (jlv lv) →
    W p g.1 e (jrm y mc ms) s m args below meth c H locs cells slots (vx_MQ below (jQ g Q) (jX g Q) args s mc ms (jA g)) (F0 m pc ls (st.map jw))
end
section
/-! rows of the judgement jG -/
theorem jS.warm {g : jg} {s U : State} (h : jS g s) (hW : s.WarmedH U.vm) (hq : ∀ a : Nat, a < s.heap.size → ¬ jA g a → U.heap[a]? = s.heap[a]?) (hb : jgb g ≤ s.heap.size) : jS g U := by
  obtain ⟨h1, h2, h3, h4, h5, h6, h7, h8, h9, h10, h11⟩ := h
  refine ⟨va_K.moved hW.alike h1, vx_Zq.moved hW.alike (h2.kept hq), vx_Zq.moved hW.alike (h3.kept hq), fun q hq => va_Nw.warmC hW (h4 q hq), fun q hq => va_Nw.warmM hW (h5 q hq), fun own k tx hm => ?_, ?_, h8, va_AO.moved hW.alike h9, h10, fun x hx => va_Nw.warmD hW (h11 x hx)⟩
  · obtain ⟨a, ha⟩ := h6 own k tx hm
    exact ⟨a, vk_R.warm hW ha⟩
  · obtain ⟨scr, e1, e2, e3⟩ := h7
    refine ⟨scr, ?_, State.isArrayOf_alike hW.alike e2, e3⟩
    rw [hq _ (Nat.lt_of_lt_of_le h8 hb) (Nat.not_le.mpr h8)]
    exact e1
theorem jP.blind (g : jg) (as : List jv) (h : jh) : FrameBlind (jP g as h) := by
  intro a U gf mk q
  obtain ⟨q1, q2, q3⟩ := q
  obtain ⟨h1, h2, h3, h4, h5, h6, h7, h8, h9, h10, h11⟩ := q3
  refine ⟨q1, q2, va_K.moved (u := U) (U := U.calling gf mk a) (Vm.Alike.refl U.vm) h1, vx_Zq.moved (u := U) (U := U.calling gf mk a) (Vm.Alike.refl U.vm) h2, vx_Zq.moved (u := U) (U := U.calling gf mk a) (Vm.Alike.refl U.vm) h3,
    fun q hq => va_Nw.same rfl (u := U) (U := U.calling gf mk a) rfl (h4 q hq), fun q hq => va_Nw.same rfl (u := U) (U := U.calling gf mk a) rfl (h5 q hq), fun own k tx hm => ?_, ?_, h8, va_AO.moved (u := U) (U := U.calling gf mk a) (Vm.Alike.refl U.vm) h9, h10, fun x hx => va_Nw.same rfl (u := U) (U := U.calling gf mk a) rfl (h11 x hx)⟩
  · obtain ⟨a1, ha⟩ := h6 own k tx hm
    exact ⟨a1, vk_R.same (u := U) (U := U.calling gf mk a) rfl ha⟩
  · obtain ⟨scr, e1, e2, e3⟩ := h7
    exact ⟨scr, e1, State.isArrayOf_alike (Vm.Alike.refl U.vm) e2, e3⟩
/-- a long takes two places -/
def jlong : jv → Bool
  | .inr (.inl _) => true
  | _ => false
theorem jlong_cat (v : jv) : ((jw v).category == 2) = jlong v := by
  rcases v with x | x | x
  · rfl
  · rfl
  · cases x <;> rfl
def jlen : List jv → Nat
  | [] => 0
  | v :: r => (if jlong v then 2 else 1) + jlen r
def jla : Nat → List jv → List (Nat × jv)
  | _, [] => []
  | i, v :: r => (i, v) :: jla (i + (if jlong v then 2 else 1)) r
theorem jlong_if (v : jv) : (jw v).category = 2 ↔ jlong v = true := by
  rw [← jlong_cat]; simp
theorem jlen_eq (as : List jv) : (lg_sl (as.map jw)).length = jlen as := by
  induction as with
  | nil => rfl
  | cons v r ih =>
    have h : (lg_sl ((v :: r).map jw)).length = (if (jw v).category = 2 then 2 else 1) + (lg_sl (r.map jw)).length := by
      unfold lg_sl
      simp only [List.map_cons, List.flatMap_cons, List.length_append]
      split <;> rfl
    rw [h, ih]
    show _ = (if jlong v = true then 2 else 1) + jlen r
    simp only [jlong_if]
theorem jla_eq (as : List jv) : ∀ i, lv_args i (as.map jw) = jlv (jla i as) := by
  induction as with
  | nil => intro i; rfl
  | cons v r ih =>
    intro i
    show (i, jw v) :: lv_args (if (jw v).category = 2 then i + 2 else i + 1) (r.map jw) = (i, jw v) :: jlv (jla (i + (if jlong v then 2 else 1)) r)
    rw [ih]
    have e : (if (jw v).category = 2 then i + 2 else i + 1) = i + (if jlong v then 2 else 1) := by
      by_cases hh : jlong v = true
      · rw [if_pos ((jlong_if v).mpr hh), if_pos hh]
      · rw [if_neg (fun q => hh ((jlong_if v).mp q)), if_neg hh]
    rw [e]
/-- a contract out of the judgement at the method's entry -/
theorem jM.of {g : jg} {y : jm} {as : List jv} {h : jh} {mc ms : Nat} {Q : jq} (hy : plainName y.1.cls = true) (hn : jlen as ≤ y.2.2.1) {lv : List (Nat × jv)} (hlv : jla 0 as = lv)
    (K : jG g y 0 lv [] h mc ms Q) : jM g y as h mc ms Q := by
  refine vx_ofW (cc := y.2.1) (maxL := y.2.2.1) (ret := y.2.2.2.1) hy rfl ?_
  intro p e s m args below meth c s₁ B hml ht hv
  obtain ⟨rfl, hH, hS⟩ := hv
  have hts := atoms_spec (ws := jws y) B.pre
  have hl := lv_entry (as.map jw) (by rw [jlen_eq]; exact hn)
  rw [lg_entry_eq]
  rw [jla_eq, hlv] at hl
  have hb : jgb g ≤ s.heap.size := by rw [hH.1]; exact hH.2.1
  exact K p e s m _ below meth c s.heap [] 0 0 mc ms _ ⟨B.exec, B.bytes, B.returns, hml, findClass_of_methodNamed B.named, fun w hw => hts w (List.mem_cons_of_mem _ hw), B.notSynchronized, (name_of_methodNamed B.named B.method).1, ht, hS, hS.2.2.2.2.2.2.2.2.2.1, hb⟩ hH va_S.rf (Nat.le_of_eq (Nat.zero_add _)) (Nat.le_of_eq (Nat.zero_add _)) hl
section JR
variable {g : jg} {y : jm} {pc : Nat} {lv : List (Nat × jv)} {st : List jv} {h : jh} {k n : Nat} {Q : jq}
/-- fewer locals -/
theorem jG.sub {lv' : List (Nat × jv)} (hl : ∀ q ∈ lv', q ∈ lv) (K : jG g y pc lv' st h k n Q) : jG g y pc lv st h k n Q := by
  intro p e s m args below meth c H locs cells slots mc ms ls C hH hS hc hs hL
  refine K p e s m args below meth c H locs cells slots mc ms ls C hH hS hc hs ⟨hL.1, hL.2.1, fun q hq => hL.2.2 q ?_⟩
  obtain ⟨q0, h0, rfl⟩ := List.mem_map.mp hq
  exact List.mem_map.mpr ⟨q0, hl q0 h0, rfl⟩
theorem jlv_at {ls : Array Slot} {nL : Nat} {i : Nat} {v : jv} (hl : lv_has ls nL (jlv lv)) (hv : (i, v) ∈ lv) : ls[i]? = some (.val (jw v)) := hl.2.2 (i, jw v) (List.mem_map.mpr ⟨(i, v), hv, rfl⟩)
theorem jg_iconst {c0 : Int} {v : Int32} (hd : decode y.2.1 pc = .ok (.iconst c0, 1)) (hv : Int32.ofInt c0 = v) (K : jG g y (pc + 1) lv (.inl v :: st) h k n Q) : jG g y pc lv st h k n Q := by
  intro p e s m args below meth c H locs cells slots mc ms ls C hH hS hc hs hL
  exact lv_iconst C.1 C.2.1 hd hv (K p e s m args below meth c H locs cells slots mc ms ls C hH hS hc hs hL)
theorem jg_bipush {c0 : Int} {v : Int32} (hd : decode y.2.1 pc = .ok (.bipush c0, 2)) (hv : (Int8.ofInt c0).toInt32 = v) (K : jG g y (pc + 2) lv (.inl v :: st) h k n Q) : jG g y pc lv st h k n Q := by
  intro p e s m args below meth c H locs cells slots mc ms ls C hH hS hc hs hL
  exact lv_bipush C.1 C.2.1 hd hv (K p e s m args below meth c H locs cells slots mc ms ls C hH hS hc hs hL)
theorem jg_sipush {c0 : Int} {v : Int32} (hd : decode y.2.1 pc = .ok (.sipush c0, 3)) (hv : (Int16.ofInt c0).toInt32 = v) (K : jG g y (pc + 3) lv (.inl v :: st) h k n Q) : jG g y pc lv st h k n Q := by
  intro p e s m args below meth c H locs cells slots mc ms ls C hH hS hc hs hL
  exact lv_sipush C.1 C.2.1 hd hv (K p e s m args below meth c H locs cells slots mc ms ls C hH hS hc hs hL)
theorem jg_lconst {c0 : Fin 2} {v : Int64} (hd : decode y.2.1 pc = .ok (.lconst c0, 1)) (hv : Int64.ofNat (c0 : Nat) = v) (K : jG g y (pc + 1) lv (.inr (.inl v) :: st) h k n Q) : jG g y pc lv st h k n Q := by
  intro p e s m args below meth c H locs cells slots mc ms ls C hH hS hc hs hL
  exact lv_lconst C.1 C.2.1 hd hv (K p e s m args below meth c H locs cells slots mc ms ls C hH hS hc hs hL)
theorem jg_ldc2 {i : Nat} {v : Int64} (hd : decode y.2.1 pc = .ok (.ldc2_w i, 3)) (hw : Cond.constantLong y.1.cls i v ∈ jtb) (K : jG g y (pc + 3) lv (.inr (.inl v) :: st) h k n Q) : jG g y pc lv st h k n Q := by
  intro p e s m args below meth c H locs cells slots mc ms ls C hH hS hc hs hL
  exact lv_ldc2 C.1 C.2.1 C.2.2.2.2.1 (C.2.2.2.2.2.1 _ hw) hd (K p e s m args below meth c H locs cells slots mc ms ls C hH hS hc hs hL)
theorem jg_null (hd : decode y.2.1 pc = .ok (.aconst_null, 1)) (K : jG g y (pc + 1) lv (.inr (.inr none) :: st) h k n Q) : jG g y pc lv st h k n Q := by
  intro p e s m args below meth c H locs cells slots mc ms ls C hH hS hc hs hL
  exact lv_null C.1 C.2.1 hd (K p e s m args below meth c H locs cells slots mc ms ls C hH hS hc hs hL)
theorem jg_iload_n {i : Fin 4} {j : Nat} {x : Int32} (hd : decode y.2.1 pc = .ok (.iload_n i, 1)) (hi : (i : Nat) = j) (hv : (j, .inl x) ∈ lv) (K : jG g y (pc + 1) lv (.inl x :: st) h k n Q) : jG g y pc lv st h k n Q := by
  intro p e s m args below meth c H locs cells slots mc ms ls C hH hS hc hs hL
  exact lv_iload_n C.1 C.2.1 hd hi (jlv_at hL hv) (K p e s m args below meth c H locs cells slots mc ms ls C hH hS hc hs hL)
theorem jg_iload {j : Nat} {x : Int32} (hd : decode y.2.1 pc = .ok (.iload j, 2)) (hv : (j, .inl x) ∈ lv) (K : jG g y (pc + 2) lv (.inl x :: st) h k n Q) : jG g y pc lv st h k n Q := by
  intro p e s m args below meth c H locs cells slots mc ms ls C hH hS hc hs hL
  exact lv_iload C.1 C.2.1 hd (jlv_at hL hv) (K p e s m args below meth c H locs cells slots mc ms ls C hH hS hc hs hL)
theorem jg_lload_n {i : Fin 4} {j : Nat} {x : Int64} (hd : decode y.2.1 pc = .ok (.lload_n i, 1)) (hi : (i : Nat) = j) (hv : (j, .inr (.inl x)) ∈ lv) (K : jG g y (pc + 1) lv (.inr (.inl x) :: st) h k n Q) : jG g y pc lv st h k n Q := by
  intro p e s m args below meth c H locs cells slots mc ms ls C hH hS hc hs hL
  exact lv_lload_n C.1 C.2.1 hd hi (jlv_at hL hv) (K p e s m args below meth c H locs cells slots mc ms ls C hH hS hc hs hL)
theorem jg_lload {j : Nat} {x : Int64} (hd : decode y.2.1 pc = .ok (.lload j, 2)) (hv : (j, .inr (.inl x)) ∈ lv) (K : jG g y (pc + 2) lv (.inr (.inl x) :: st) h k n Q) : jG g y pc lv st h k n Q := by
  intro p e s m args below meth c H locs cells slots mc ms ls C hH hS hc hs hL
  exact lv_lload C.1 C.2.1 hd (jlv_at hL hv) (K p e s m args below meth c H locs cells slots mc ms ls C hH hS hc hs hL)
theorem jg_aload_n {i : Fin 4} {j : Nat} {o : Option Nat} (hd : decode y.2.1 pc = .ok (.aload_n i, 1)) (hi : (i : Nat) = j) (hv : (j, .inr (.inr o)) ∈ lv) (K : jG g y (pc + 1) lv (.inr (.inr o) :: st) h k n Q) : jG g y pc lv st h k n Q := by
  intro p e s m args below meth c H locs cells slots mc ms ls C hH hS hc hs hL
  have k1 := K p e s m args below meth c H locs cells slots mc ms ls C hH hS hc hs hL
  have k2 := jlv_at hL hv
  cases o with
  | none => exact lv_aload_nN C.1 C.2.1 hd hi k2 k1
  | some a => exact lv_aload_n C.1 C.2.1 hd hi k2 k1
theorem jg_aload {j : Nat} {o : Option Nat} (hd : decode y.2.1 pc = .ok (.aload j, 2)) (hv : (j, .inr (.inr o)) ∈ lv) (K : jG g y (pc + 2) lv (.inr (.inr o) :: st) h k n Q) : jG g y pc lv st h k n Q := by
  intro p e s m args below meth c H locs cells slots mc ms ls C hH hS hc hs hL
  have k1 := K p e s m args below meth c H locs cells slots mc ms ls C hH hS hc hs hL
  have k2 := jlv_at hL hv
  cases o with
  | none => exact lv_aloadN C.1 C.2.1 hd k2 k1
  | some a => exact lv_aload C.1 C.2.1 hd k2 k1
/-- locals behind a store: those of a long kept apart -/
def jst1 (lv : List (Nat × jv)) (i : Nat) : List (Nat × jv) := lv.filter (fun q => !(q.1 == i) && !(q.1 + 1 == i && jlong q.2))
def jst2 (lv : List (Nat × jv)) (i : Nat) : List (Nat × jv) := lv.filter (fun q => !(q.1 == i) && (!(q.1 == i + 1) && !(q.1 + 1 == i && jlong q.2)))
theorem jst1_lv (lv : List (Nat × jv)) (i : Nat) : (jlv lv).filter (fun q => !(q.1 == i) && !(q.1 + 1 == i && q.2.category == 2)) = jlv (jst1 lv i) := by
  unfold jlv jst1
  rw [List.filter_map]
  congr 1
  apply List.filter_congr
  intro q _
  simp only [Function.comp, jlong_cat]
theorem jst2_lv (lv : List (Nat × jv)) (i : Nat) : (jlv lv).filter (fun q => !(q.1 == i) && (!(q.1 == i + 1) && !(q.1 + 1 == i && q.2.category == 2))) = jlv (jst2 lv i) := by
  unfold jlv jst2
  rw [List.filter_map]
  congr 1
  apply List.filter_congr
  intro q _
  simp only [Function.comp, jlong_cat]
theorem jg_istore_n {i : Fin 4} {j : Nat} {x : Int32} {lv' : List (Nat × jv)} (hd : decode y.2.1 pc = .ok (.istore_n i, 1)) (hi : (i : Nat) = j) (hn : j < y.2.2.1) (hl : (j, .inl x) :: jst1 lv j = lv') (K : jG g y (pc + 1) lv' st h k n Q) : jG g y pc lv (.inl x :: st) h k n Q := by
  intro p e s m args below meth c H locs cells slots mc ms ls C hH hS hc hs hL
  subst hl
  exact lv_istore_n (lv' := jlv ((j, .inl x) :: jst1 lv j)) C.1 C.2.1 hd hi hL hn (by rw [jst1_lv]; rfl) (fun ls hl => K p e s m args below meth c H locs cells slots mc ms ls C hH hS hc hs hl)
theorem jg_istore {j : Nat} {x : Int32} {lv' : List (Nat × jv)} (hd : decode y.2.1 pc = .ok (.istore j, 2)) (hn : j < y.2.2.1) (hl : (j, .inl x) :: jst1 lv j = lv') (K : jG g y (pc + 2) lv' st h k n Q) : jG g y pc lv (.inl x :: st) h k n Q := by
  intro p e s m args below meth c H locs cells slots mc ms ls C hH hS hc hs hL
  subst hl
  exact lv_istore (lv' := jlv ((j, .inl x) :: jst1 lv j)) C.1 C.2.1 hd hL hn (by rw [jst1_lv]; rfl) (fun ls hl => K p e s m args below meth c H locs cells slots mc ms ls C hH hS hc hs hl)
theorem jg_lstore_n {i : Fin 4} {j : Nat} {x : Int64} {lv' : List (Nat × jv)} (hd : decode y.2.1 pc = .ok (.lstore_n i, 1)) (hi : (i : Nat) = j) (hn : j + 1 < y.2.2.1) (hl : (j, .inr (.inl x)) :: jst2 lv j = lv') (K : jG g y (pc + 1) lv' st h k n Q) : jG g y pc lv (.inr (.inl x) :: st) h k n Q := by
  intro p e s m args below meth c H locs cells slots mc ms ls C hH hS hc hs hL
  subst hl
  exact lv_lstore_n (lv' := jlv ((j, .inr (.inl x)) :: jst2 lv j)) C.1 C.2.1 hd hi hL hn (by rw [jst2_lv]; rfl) (fun ls hl => K p e s m args below meth c H locs cells slots mc ms ls C hH hS hc hs hl)
theorem jg_lstore {j : Nat} {x : Int64} {lv' : List (Nat × jv)} (hd : decode y.2.1 pc = .ok (.lstore j, 2)) (hn : j + 1 < y.2.2.1) (hl : (j, .inr (.inl x)) :: jst2 lv j = lv') (K : jG g y (pc + 2) lv' st h k n Q) : jG g y pc lv (.inr (.inl x) :: st) h k n Q := by
  intro p e s m args below meth c H locs cells slots mc ms ls C hH hS hc hs hL
  subst hl
  exact lv_lstore (lv' := jlv ((j, .inr (.inl x)) :: jst2 lv j)) C.1 C.2.1 hd hL hn (by rw [jst2_lv]; rfl) (fun ls hl => K p e s m args below meth c H locs cells slots mc ms ls C hH hS hc hs hl)
theorem jg_astore_n {i : Fin 4} {j : Nat} {o : Option Nat} {lv' : List (Nat × jv)} (hd : decode y.2.1 pc = .ok (.astore_n i, 1)) (hi : (i : Nat) = j) (hn : j < y.2.2.1) (hl : (j, .inr (.inr o)) :: jst1 lv j = lv') (K : jG g y (pc + 1) lv' st h k n Q) : jG g y pc lv (.inr (.inr o) :: st) h k n Q := by
  intro p e s m args below meth c H locs cells slots mc ms ls C hH hS hc hs hL
  subst hl
  cases o with
  | none => exact lv_astore_nN (lv' := jlv ((j, .inr (.inr none)) :: jst1 lv j)) C.1 C.2.1 hd hi hL hn (by rw [jst1_lv]; rfl) (fun ls hl => K p e s m args below meth c H locs cells slots mc ms ls C hH hS hc hs hl)
  | some a => exact lv_astore_n (lv' := jlv ((j, .inr (.inr (some a))) :: jst1 lv j)) C.1 C.2.1 hd hi hL hn (by rw [jst1_lv]; rfl) (fun ls hl => K p e s m args below meth c H locs cells slots mc ms ls C hH hS hc hs hl)
theorem jg_astore {j : Nat} {o : Option Nat} {lv' : List (Nat × jv)} (hd : decode y.2.1 pc = .ok (.astore j, 2)) (hn : j < y.2.2.1) (hl : (j, .inr (.inr o)) :: jst1 lv j = lv') (K : jG g y (pc + 2) lv' st h k n Q) : jG g y pc lv (.inr (.inr o) :: st) h k n Q := by
  intro p e s m args below meth c H locs cells slots mc ms ls C hH hS hc hs hL
  subst hl
  cases o with
  | none => exact lv_astoreN (lv' := jlv ((j, .inr (.inr none)) :: jst1 lv j)) C.1 C.2.1 hd hL hn (by rw [jst1_lv]; rfl) (fun ls hl => K p e s m args below meth c H locs cells slots mc ms ls C hH hS hc hs hl)
  | some a => exact lv_astore (lv' := jlv ((j, .inr (.inr (some a))) :: jst1 lv j)) C.1 C.2.1 hd hL hn (by rw [jst1_lv]; rfl) (fun ls hl => K p e s m args below meth c H locs cells slots mc ms ls C hH hS hc hs hl)
theorem jg_iinc {j : Nat} {c0 : Int} {x v : Int32} {lv' : List (Nat × jv)} (hd : decode y.2.1 pc = .ok (.iinc j c0, 3)) (hx : (j, .inl x) ∈ lv) (hv : x + Int32.ofInt c0 = v) (hn : j < y.2.2.1) (hl : (j, .inl v) :: jst1 lv j = lv') (K : jG g y (pc + 3) lv' st h k n Q) : jG g y pc lv st h k n Q := by
  intro p e s m args below meth c H locs cells slots mc ms ls C hH hS hc hs hL
  subst hl
  obtain ⟨i, hi⟩ := List.getElem?_of_mem hx
  exact lv_iinc (k := i) (lv' := jlv ((j, .inl v) :: jst1 lv j)) C.1 C.2.1 hd hL (by rw [jlv, List.getElem?_map, hi]; rfl) hv hn (by rw [jst1_lv]; rfl) (fun ls hl => K p e s m args below meth c H locs cells slots mc ms ls C hH hS hc hs hl)
end JR
end
section
/-! rows of jG: arithmetic, branches (by program) -/
section JA
variable {g : jg} {y : jm} {pc : Nat} {lv : List (Nat × jv)} {st : List jv} {h : jh} {k n : Nat} {Q : jq}
theorem jg_iadd {a b : Int32} (hd : decode y.2.1 pc = .ok (.iadd, 1)) (K : jG g y (pc + 1) lv (.inl (a + b) :: st) h k n Q) : jG g y pc lv (.inl b :: .inl a :: st) h k n Q := by
  intro p e s m args below meth c H locs cells slots mc ms ls C hH hS hc hs hL
  exact lv_iadd C.1 C.2.1 hd (K p e s m args below meth c H locs cells slots mc ms ls C hH hS hc hs hL)
theorem jg_isub {a b : Int32} (hd : decode y.2.1 pc = .ok (.isub, 1)) (K : jG g y (pc + 1) lv (.inl (a - b) :: st) h k n Q) : jG g y pc lv (.inl b :: .inl a :: st) h k n Q := by
  intro p e s m args below meth c H locs cells slots mc ms ls C hH hS hc hs hL
  exact lv_isub C.1 C.2.1 hd (K p e s m args below meth c H locs cells slots mc ms ls C hH hS hc hs hL)
theorem jg_imul {a b : Int32} (hd : decode y.2.1 pc = .ok (.imul, 1)) (K : jG g y (pc + 1) lv (.inl (a * b) :: st) h k n Q) : jG g y pc lv (.inl b :: .inl a :: st) h k n Q := by
  intro p e s m args below meth c H locs cells slots mc ms ls C hH hS hc hs hL
  exact lv_imul C.1 C.2.1 hd (K p e s m args below meth c H locs cells slots mc ms ls C hH hS hc hs hL)
theorem jg_iand {a b : Int32} (hd : decode y.2.1 pc = .ok (.iand, 1)) (K : jG g y (pc + 1) lv (.inl (a &&& b) :: st) h k n Q) : jG g y pc lv (.inl b :: .inl a :: st) h k n Q := by
  intro p e s m args below meth c H locs cells slots mc ms ls C hH hS hc hs hL
  exact lv_iand C.1 C.2.1 hd (K p e s m args below meth c H locs cells slots mc ms ls C hH hS hc hs hL)
theorem jg_ior {a b : Int32} (hd : decode y.2.1 pc = .ok (.ior, 1)) (K : jG g y (pc + 1) lv (.inl (a ||| b) :: st) h k n Q) : jG g y pc lv (.inl b :: .inl a :: st) h k n Q := by
  intro p e s m args below meth c H locs cells slots mc ms ls C hH hS hc hs hL
  exact lv_ior C.1 C.2.1 hd (K p e s m args below meth c H locs cells slots mc ms ls C hH hS hc hs hL)
theorem jg_ishl {a b : Int32} (hd : decode y.2.1 pc = .ok (.ishl, 1)) (K : jG g y (pc + 1) lv (.inl (a <<< (b &&& 31)) :: st) h k n Q) : jG g y pc lv (.inl b :: .inl a :: st) h k n Q := by
  intro p e s m args below meth c H locs cells slots mc ms ls C hH hS hc hs hL
  exact lv_ishl C.1 C.2.1 hd (K p e s m args below meth c H locs cells slots mc ms ls C hH hS hc hs hL)
theorem jg_ishr {a b : Int32} (hd : decode y.2.1 pc = .ok (.ishr, 1)) (K : jG g y (pc + 1) lv (.inl (a >>> (b &&& 31)) :: st) h k n Q) : jG g y pc lv (.inl b :: .inl a :: st) h k n Q := by
  intro p e s m args below meth c H locs cells slots mc ms ls C hH hS hc hs hL
  exact lv_ishr C.1 C.2.1 hd (K p e s m args below meth c H locs cells slots mc ms ls C hH hS hc hs hL)
theorem jg_idiv {a b : Int32} (hd : decode y.2.1 pc = .ok (.idiv, 1)) (hne : ¬ b = 0) (K : jG g y (pc + 1) lv (.inl (a / b) :: st) h k n Q) : jG g y pc lv (.inl b :: .inl a :: st) h k n Q := by
  intro p e s m args below meth c H locs cells slots mc ms ls C hH hS hc hs hL
  exact lv_idiv C.1 C.2.1 hd hne (K p e s m args below meth c H locs cells slots mc ms ls C hH hS hc hs hL)
theorem jg_irem {a b : Int32} (hd : decode y.2.1 pc = .ok (.irem, 1)) (hne : ¬ b = 0) (K : jG g y (pc + 1) lv (.inl (a - a / b * b) :: st) h k n Q) : jG g y pc lv (.inl b :: .inl a :: st) h k n Q := by
  intro p e s m args below meth c H locs cells slots mc ms ls C hH hS hc hs hL
  exact lv_irem C.1 C.2.1 hd hne (K p e s m args below meth c H locs cells slots mc ms ls C hH hS hc hs hL)
theorem jg_ladd {a b : Int64} (hd : decode y.2.1 pc = .ok (.ladd, 1)) (K : jG g y (pc + 1) lv (.inr (.inl (a + b)) :: st) h k n Q) : jG g y pc lv (.inr (.inl b) :: .inr (.inl a) :: st) h k n Q := by
  intro p e s m args below meth c H locs cells slots mc ms ls C hH hS hc hs hL
  exact lv_ladd C.1 C.2.1 hd (K p e s m args below meth c H locs cells slots mc ms ls C hH hS hc hs hL)
theorem jg_lsub {a b : Int64} (hd : decode y.2.1 pc = .ok (.lsub, 1)) (K : jG g y (pc + 1) lv (.inr (.inl (a - b)) :: st) h k n Q) : jG g y pc lv (.inr (.inl b) :: .inr (.inl a) :: st) h k n Q := by
  intro p e s m args below meth c H locs cells slots mc ms ls C hH hS hc hs hL
  exact lv_lsub C.1 C.2.1 hd (K p e s m args below meth c H locs cells slots mc ms ls C hH hS hc hs hL)
theorem jg_lmul {a b : Int64} (hd : decode y.2.1 pc = .ok (.lmul, 1)) (K : jG g y (pc + 1) lv (.inr (.inl (a * b)) :: st) h k n Q) : jG g y pc lv (.inr (.inl b) :: .inr (.inl a) :: st) h k n Q := by
  intro p e s m args below meth c H locs cells slots mc ms ls C hH hS hc hs hL
  exact lv_lmul C.1 C.2.1 hd (K p e s m args below meth c H locs cells slots mc ms ls C hH hS hc hs hL)
theorem jg_land {a b : Int64} (hd : decode y.2.1 pc = .ok (.land, 1)) (K : jG g y (pc + 1) lv (.inr (.inl (a &&& b)) :: st) h k n Q) : jG g y pc lv (.inr (.inl b) :: .inr (.inl a) :: st) h k n Q := by
  intro p e s m args below meth c H locs cells slots mc ms ls C hH hS hc hs hL
  exact lv_land C.1 C.2.1 hd (K p e s m args below meth c H locs cells slots mc ms ls C hH hS hc hs hL)
theorem jg_lor {a b : Int64} (hd : decode y.2.1 pc = .ok (.lor, 1)) (K : jG g y (pc + 1) lv (.inr (.inl (a ||| b)) :: st) h k n Q) : jG g y pc lv (.inr (.inl b) :: .inr (.inl a) :: st) h k n Q := by
  intro p e s m args below meth c H locs cells slots mc ms ls C hH hS hc hs hL
  exact lv_lor C.1 C.2.1 hd (K p e s m args below meth c H locs cells slots mc ms ls C hH hS hc hs hL)
theorem jg_ldiv {a b : Int64} (hd : decode y.2.1 pc = .ok (.ldiv, 1)) (hne : ¬ b = 0) (K : jG g y (pc + 1) lv (.inr (.inl (a / b)) :: st) h k n Q) : jG g y pc lv (.inr (.inl b) :: .inr (.inl a) :: st) h k n Q := by
  intro p e s m args below meth c H locs cells slots mc ms ls C hH hS hc hs hL
  exact lv_ldiv C.1 C.2.1 hd hne (K p e s m args below meth c H locs cells slots mc ms ls C hH hS hc hs hL)
theorem jg_lrem {a b : Int64} (hd : decode y.2.1 pc = .ok (.lrem, 1)) (hne : ¬ b = 0) (K : jG g y (pc + 1) lv (.inr (.inl (a - a / b * b)) :: st) h k n Q) : jG g y pc lv (.inr (.inl b) :: .inr (.inl a) :: st) h k n Q := by
  intro p e s m args below meth c H locs cells slots mc ms ls C hH hS hc hs hL
  exact lv_lrem C.1 C.2.1 hd hne (K p e s m args below meth c H locs cells slots mc ms ls C hH hS hc hs hL)
theorem jg_lneg {a : Int64} (hd : decode y.2.1 pc = .ok (.lneg, 1)) (K : jG g y (pc + 1) lv (.inr (.inl (-a)) :: st) h k n Q) : jG g y pc lv (.inr (.inl a) :: st) h k n Q := by
  intro p e s m args below meth c H locs cells slots mc ms ls C hH hS hc hs hL
  exact lv_lneg C.1 C.2.1 hd (K p e s m args below meth c H locs cells slots mc ms ls C hH hS hc hs hL)
theorem jg_lshl {a : Int64} {b : Int32} (hd : decode y.2.1 pc = .ok (.lshl, 1)) (K : jG g y (pc + 1) lv (.inr (.inl (a <<< (b.toInt64 &&& 63))) :: st) h k n Q) : jG g y pc lv (.inl b :: .inr (.inl a) :: st) h k n Q := by
  intro p e s m args below meth c H locs cells slots mc ms ls C hH hS hc hs hL
  exact lv_lshl C.1 C.2.1 hd rfl (K p e s m args below meth c H locs cells slots mc ms ls C hH hS hc hs hL)
theorem jg_lshr {a : Int64} {b : Int32} (hd : decode y.2.1 pc = .ok (.lshr, 1)) (K : jG g y (pc + 1) lv (.inr (.inl (a >>> (b.toInt64 &&& 63))) :: st) h k n Q) : jG g y pc lv (.inl b :: .inr (.inl a) :: st) h k n Q := by
  intro p e s m args below meth c H locs cells slots mc ms ls C hH hS hc hs hL
  exact lv_lshr C.1 C.2.1 hd rfl (K p e s m args below meth c H locs cells slots mc ms ls C hH hS hc hs hL)
theorem jg_i2l {a : Int32} (hd : decode y.2.1 pc = .ok (.i2l, 1)) (K : jG g y (pc + 1) lv (.inr (.inl a.toInt64) :: st) h k n Q) : jG g y pc lv (.inl a :: st) h k n Q := by
  intro p e s m args below meth c H locs cells slots mc ms ls C hH hS hc hs hL
  exact lv_i2l C.1 C.2.1 hd rfl (K p e s m args below meth c H locs cells slots mc ms ls C hH hS hc hs hL)
theorem jg_l2i {a : Int64} (hd : decode y.2.1 pc = .ok (.l2i, 1)) (K : jG g y (pc + 1) lv (.inl a.toInt32 :: st) h k n Q) : jG g y pc lv (.inr (.inl a) :: st) h k n Q := by
  intro p e s m args below meth c H locs cells slots mc ms ls C hH hS hc hs hL
  exact lv_l2i C.1 C.2.1 hd rfl (K p e s m args below meth c H locs cells slots mc ms ls C hH hS hc hs hL)
theorem jg_i2b {a : Int32} (hd : decode y.2.1 pc = .ok (.i2b, 1)) (K : jG g y (pc + 1) lv (.inl a.toInt8.toInt32 :: st) h k n Q) : jG g y pc lv (.inl a :: st) h k n Q := by
  intro p e s m args below meth c H locs cells slots mc ms ls C hH hS hc hs hL
  exact lv_i2b C.1 C.2.1 hd rfl (K p e s m args below meth c H locs cells slots mc ms ls C hH hS hc hs hL)
theorem jg_if_eq {x : Int32} {off : Int} {tgt : Nat} (hd : decode y.2.1 pc = .ok (.ifCond .eq off, 3)) (ht : (pc : Int) + off = (tgt : Int)) (K : x = 0 → jG g y tgt lv st h k n Q) (L : ¬ x = 0 → jG g y (pc + 3) lv st h k n Q) : jG g y pc lv (.inl x :: st) h k n Q := by
  intro p e s m args below meth c H locs cells slots mc ms ls C hH hS hc hs hL
  exact lv_if_eq C.1 C.2.1 hd ht (fun q => (K q p e s m args below meth c H locs cells slots mc ms ls C hH hS hc hs hL)) (fun q => (L q p e s m args below meth c H locs cells slots mc ms ls C hH hS hc hs hL))
theorem jg_if_ne {x : Int32} {off : Int} {tgt : Nat} (hd : decode y.2.1 pc = .ok (.ifCond .ne off, 3)) (ht : (pc : Int) + off = (tgt : Int)) (K : ¬ x = 0 → jG g y tgt lv st h k n Q) (L : x = 0 → jG g y (pc + 3) lv st h k n Q) : jG g y pc lv (.inl x :: st) h k n Q := by
  intro p e s m args below meth c H locs cells slots mc ms ls C hH hS hc hs hL
  exact lv_if_ne C.1 C.2.1 hd ht (fun q => (K q p e s m args below meth c H locs cells slots mc ms ls C hH hS hc hs hL)) (fun q => (L q p e s m args below meth c H locs cells slots mc ms ls C hH hS hc hs hL))
theorem jg_if_lt {x : Int32} {off : Int} {tgt : Nat} (hd : decode y.2.1 pc = .ok (.ifCond .lt off, 3)) (ht : (pc : Int) + off = (tgt : Int)) (K : x < 0 → jG g y tgt lv st h k n Q) (L : ¬ x < 0 → jG g y (pc + 3) lv st h k n Q) : jG g y pc lv (.inl x :: st) h k n Q := by
  intro p e s m args below meth c H locs cells slots mc ms ls C hH hS hc hs hL
  exact lv_if_lt C.1 C.2.1 hd ht (fun q => (K q p e s m args below meth c H locs cells slots mc ms ls C hH hS hc hs hL)) (fun q => (L q p e s m args below meth c H locs cells slots mc ms ls C hH hS hc hs hL))
theorem jg_if_ge {x : Int32} {off : Int} {tgt : Nat} (hd : decode y.2.1 pc = .ok (.ifCond .ge off, 3)) (ht : (pc : Int) + off = (tgt : Int)) (K : 0 ≤ x → jG g y tgt lv st h k n Q) (L : ¬ 0 ≤ x → jG g y (pc + 3) lv st h k n Q) : jG g y pc lv (.inl x :: st) h k n Q := by
  intro p e s m args below meth c H locs cells slots mc ms ls C hH hS hc hs hL
  exact lv_if_ge C.1 C.2.1 hd ht (fun q => (K q p e s m args below meth c H locs cells slots mc ms ls C hH hS hc hs hL)) (fun q => (L q p e s m args below meth c H locs cells slots mc ms ls C hH hS hc hs hL))
theorem jg_if_gt {x : Int32} {off : Int} {tgt : Nat} (hd : decode y.2.1 pc = .ok (.ifCond .gt off, 3)) (ht : (pc : Int) + off = (tgt : Int)) (K : 0 < x → jG g y tgt lv st h k n Q) (L : ¬ 0 < x → jG g y (pc + 3) lv st h k n Q) : jG g y pc lv (.inl x :: st) h k n Q := by
  intro p e s m args below meth c H locs cells slots mc ms ls C hH hS hc hs hL
  exact lv_if_gt C.1 C.2.1 hd ht (fun q => (K q p e s m args below meth c H locs cells slots mc ms ls C hH hS hc hs hL)) (fun q => (L q p e s m args below meth c H locs cells slots mc ms ls C hH hS hc hs hL))
theorem jg_if_le {x : Int32} {off : Int} {tgt : Nat} (hd : decode y.2.1 pc = .ok (.ifCond .le off, 3)) (ht : (pc : Int) + off = (tgt : Int)) (K : x ≤ 0 → jG g y tgt lv st h k n Q) (L : ¬ x ≤ 0 → jG g y (pc + 3) lv st h k n Q) : jG g y pc lv (.inl x :: st) h k n Q := by
  intro p e s m args below meth c H locs cells slots mc ms ls C hH hS hc hs hL
  exact lv_if_le C.1 C.2.1 hd ht (fun q => (K q p e s m args below meth c H locs cells slots mc ms ls C hH hS hc hs hL)) (fun q => (L q p e s m args below meth c H locs cells slots mc ms ls C hH hS hc hs hL))
theorem jg_icmp_eq {x z : Int32} {off : Int} {tgt : Nat} (hd : decode y.2.1 pc = .ok (.if_icmp .eq off, 3)) (ht : (pc : Int) + off = (tgt : Int)) (K : x = z → jG g y tgt lv st h k n Q) (L : ¬ x = z → jG g y (pc + 3) lv st h k n Q) : jG g y pc lv (.inl z :: .inl x :: st) h k n Q := by
  intro p e s m args below meth c H locs cells slots mc ms ls C hH hS hc hs hL
  exact lv_icmp_eq C.1 C.2.1 hd ht (fun q => (K q p e s m args below meth c H locs cells slots mc ms ls C hH hS hc hs hL)) (fun q => (L q p e s m args below meth c H locs cells slots mc ms ls C hH hS hc hs hL))
theorem jg_icmp_ne {x z : Int32} {off : Int} {tgt : Nat} (hd : decode y.2.1 pc = .ok (.if_icmp .ne off, 3)) (ht : (pc : Int) + off = (tgt : Int)) (K : ¬ x = z → jG g y tgt lv st h k n Q) (L : x = z → jG g y (pc + 3) lv st h k n Q) : jG g y pc lv (.inl z :: .inl x :: st) h k n Q := by
  intro p e s m args below meth c H locs cells slots mc ms ls C hH hS hc hs hL
  exact lv_icmp_ne C.1 C.2.1 hd ht (fun q => (K q p e s m args below meth c H locs cells slots mc ms ls C hH hS hc hs hL)) (fun q => (L q p e s m args below meth c H locs cells slots mc ms ls C hH hS hc hs hL))
theorem jg_icmp_lt {x z : Int32} {off : Int} {tgt : Nat} (hd : decode y.2.1 pc = .ok (.if_icmp .lt off, 3)) (ht : (pc : Int) + off = (tgt : Int)) (K : x < z → jG g y tgt lv st h k n Q) (L : ¬ x < z → jG g y (pc + 3) lv st h k n Q) : jG g y pc lv (.inl z :: .inl x :: st) h k n Q := by
  intro p e s m args below meth c H locs cells slots mc ms ls C hH hS hc hs hL
  exact lv_icmp_lt C.1 C.2.1 hd ht (fun q => (K q p e s m args below meth c H locs cells slots mc ms ls C hH hS hc hs hL)) (fun q => (L q p e s m args below meth c H locs cells slots mc ms ls C hH hS hc hs hL))
theorem jg_icmp_ge {x z : Int32} {off : Int} {tgt : Nat} (hd : decode y.2.1 pc = .ok (.if_icmp .ge off, 3)) (ht : (pc : Int) + off = (tgt : Int)) (K : z ≤ x → jG g y tgt lv st h k n Q) (L : ¬ z ≤ x → jG g y (pc + 3) lv st h k n Q) : jG g y pc lv (.inl z :: .inl x :: st) h k n Q := by
  intro p e s m args below meth c H locs cells slots mc ms ls C hH hS hc hs hL
  exact lv_icmp_ge C.1 C.2.1 hd ht (fun q => (K q p e s m args below meth c H locs cells slots mc ms ls C hH hS hc hs hL)) (fun q => (L q p e s m args below meth c H locs cells slots mc ms ls C hH hS hc hs hL))
theorem jg_icmp_gt {x z : Int32} {off : Int} {tgt : Nat} (hd : decode y.2.1 pc = .ok (.if_icmp .gt off, 3)) (ht : (pc : Int) + off = (tgt : Int)) (K : z < x → jG g y tgt lv st h k n Q) (L : ¬ z < x → jG g y (pc + 3) lv st h k n Q) : jG g y pc lv (.inl z :: .inl x :: st) h k n Q := by
  intro p e s m args below meth c H locs cells slots mc ms ls C hH hS hc hs hL
  exact lv_icmp_gt C.1 C.2.1 hd ht (fun q => (K q p e s m args below meth c H locs cells slots mc ms ls C hH hS hc hs hL)) (fun q => (L q p e s m args below meth c H locs cells slots mc ms ls C hH hS hc hs hL))
theorem jg_icmp_le {x z : Int32} {off : Int} {tgt : Nat} (hd : decode y.2.1 pc = .ok (.if_icmp .le off, 3)) (ht : (pc : Int) + off = (tgt : Int)) (K : x ≤ z → jG g y tgt lv st h k n Q) (L : ¬ x ≤ z → jG g y (pc + 3) lv st h k n Q) : jG g y pc lv (.inl z :: .inl x :: st) h k n Q := by
  intro p e s m args below meth c H locs cells slots mc ms ls C hH hS hc hs hL
  exact lv_icmp_le C.1 C.2.1 hd ht (fun q => (K q p e s m args below meth c H locs cells slots mc ms ls C hH hS hc hs hL)) (fun q => (L q p e s m args below meth c H locs cells slots mc ms ls C hH hS hc hs hL))
theorem jcmp_lt {x z : Int64} : (lg_cmp x z < 0) ↔ x < z := by
  unfold lg_cmp
  by_cases h1 : z < x
  · have h2 : ¬ x < z := fun h => absurd (Int64.lt_iff_toInt_lt.mp h) (by have := Int64.lt_iff_toInt_lt.mp h1; omega)
    simp [h1, h2]
  · by_cases h2 : x = z
    · subst h2; simp [h1]
    · have h3 : x < z := by
        rw [Int64.lt_iff_toInt_lt] at h1 ⊢
        have : x.toInt ≠ z.toInt := fun q => h2 (Int64.toInt_inj.mp q)
        omega
      simp [h1, h2, h3]
theorem jcmp_gt {x z : Int64} : (0 < lg_cmp x z) ↔ z < x := by
  unfold lg_cmp
  by_cases h1 : z < x
  · simp [h1]
  · by_cases h2 : x = z
    · subst h2; simp [h1]
    · simp [h1, h2]
theorem jcmp_eq {x z : Int64} : (lg_cmp x z = 0) ↔ x = z := by
  unfold lg_cmp
  by_cases h1 : z < x
  · have h2 : ¬ x = z := fun h => by subst h; exact absurd (Int64.lt_iff_toInt_lt.mp h1) (by omega)
    simp [h1, h2]
  · by_cases h2 : x = z
    · subst h2; simp [h1]
    · simp [h1, h2]
theorem jcmp_ge {x z : Int64} : (0 ≤ lg_cmp x z) ↔ z ≤ x := by
  have h := @jcmp_lt x z
  rw [Int32.le_iff_toInt_le, Int64.le_iff_toInt_le]
  rw [Int32.lt_iff_toInt_lt, Int64.lt_iff_toInt_lt] at h
  have h0 : (0 : Int32).toInt = 0 := rfl
  omega
theorem jcmp_le {x z : Int64} : (lg_cmp x z ≤ 0) ↔ x ≤ z := by
  have h := @jcmp_gt x z
  rw [Int32.le_iff_toInt_le, Int64.le_iff_toInt_le]
  rw [Int32.lt_iff_toInt_lt, Int64.lt_iff_toInt_lt] at h
  have h0 : (0 : Int32).toInt = 0 := rfl
  omega
theorem jg_lcmp_eq {x z : Int64} {off : Int} {tgt : Nat} (hd : decode y.2.1 pc = .ok (.lcmp, 1)) (hd2 : decode y.2.1 (pc + 1) = .ok (.ifCond .eq off, 3)) (ht : ((pc + 1 : Nat) : Int) + off = (tgt : Int)) (K : x = z → jG g y tgt lv st h k n Q) (L : ¬ x = z → jG g y (pc + 4) lv st h k n Q) : jG g y pc lv (.inr (.inl z) :: .inr (.inl x) :: st) h k n Q := by
  intro p e s m args below meth c H locs cells slots mc ms ls C hH hS hc hs hL
  exact W.lcmp C.1 C.2.1 hd (lv_if_eq C.1 C.2.1 hd2 ht (fun q => (K (jcmp_eq.mp q) p e s m args below meth c H locs cells slots mc ms ls C hH hS hc hs hL)) (fun q => (L (fun z9 => q (jcmp_eq.mpr z9)) p e s m args below meth c H locs cells slots mc ms ls C hH hS hc hs hL)))
theorem jg_lcmp_ne {x z : Int64} {off : Int} {tgt : Nat} (hd : decode y.2.1 pc = .ok (.lcmp, 1)) (hd2 : decode y.2.1 (pc + 1) = .ok (.ifCond .ne off, 3)) (ht : ((pc + 1 : Nat) : Int) + off = (tgt : Int)) (K : ¬ x = z → jG g y tgt lv st h k n Q) (L : x = z → jG g y (pc + 4) lv st h k n Q) : jG g y pc lv (.inr (.inl z) :: .inr (.inl x) :: st) h k n Q := by
  intro p e s m args below meth c H locs cells slots mc ms ls C hH hS hc hs hL
  exact W.lcmp C.1 C.2.1 hd (lv_if_ne C.1 C.2.1 hd2 ht (fun q => (K (fun z9 => q (jcmp_eq.mpr z9)) p e s m args below meth c H locs cells slots mc ms ls C hH hS hc hs hL)) (fun q => (L (jcmp_eq.mp q) p e s m args below meth c H locs cells slots mc ms ls C hH hS hc hs hL)))
theorem jg_lcmp_lt {x z : Int64} {off : Int} {tgt : Nat} (hd : decode y.2.1 pc = .ok (.lcmp, 1)) (hd2 : decode y.2.1 (pc + 1) = .ok (.ifCond .lt off, 3)) (ht : ((pc + 1 : Nat) : Int) + off = (tgt : Int)) (K : x < z → jG g y tgt lv st h k n Q) (L : ¬ x < z → jG g y (pc + 4) lv st h k n Q) : jG g y pc lv (.inr (.inl z) :: .inr (.inl x) :: st) h k n Q := by
  intro p e s m args below meth c H locs cells slots mc ms ls C hH hS hc hs hL
  exact W.lcmp C.1 C.2.1 hd (lv_if_lt C.1 C.2.1 hd2 ht (fun q => (K (jcmp_lt.mp q) p e s m args below meth c H locs cells slots mc ms ls C hH hS hc hs hL)) (fun q => (L (fun z9 => q (jcmp_lt.mpr z9)) p e s m args below meth c H locs cells slots mc ms ls C hH hS hc hs hL)))
theorem jg_lcmp_ge {x z : Int64} {off : Int} {tgt : Nat} (hd : decode y.2.1 pc = .ok (.lcmp, 1)) (hd2 : decode y.2.1 (pc + 1) = .ok (.ifCond .ge off, 3)) (ht : ((pc + 1 : Nat) : Int) + off = (tgt : Int)) (K : z ≤ x → jG g y tgt lv st h k n Q) (L : ¬ z ≤ x → jG g y (pc + 4) lv st h k n Q) : jG g y pc lv (.inr (.inl z) :: .inr (.inl x) :: st) h k n Q := by
  intro p e s m args below meth c H locs cells slots mc ms ls C hH hS hc hs hL
  exact W.lcmp C.1 C.2.1 hd (lv_if_ge C.1 C.2.1 hd2 ht (fun q => (K (jcmp_ge.mp q) p e s m args below meth c H locs cells slots mc ms ls C hH hS hc hs hL)) (fun q => (L (fun z9 => q (jcmp_ge.mpr z9)) p e s m args below meth c H locs cells slots mc ms ls C hH hS hc hs hL)))
theorem jg_lcmp_gt {x z : Int64} {off : Int} {tgt : Nat} (hd : decode y.2.1 pc = .ok (.lcmp, 1)) (hd2 : decode y.2.1 (pc + 1) = .ok (.ifCond .gt off, 3)) (ht : ((pc + 1 : Nat) : Int) + off = (tgt : Int)) (K : z < x → jG g y tgt lv st h k n Q) (L : ¬ z < x → jG g y (pc + 4) lv st h k n Q) : jG g y pc lv (.inr (.inl z) :: .inr (.inl x) :: st) h k n Q := by
  intro p e s m args below meth c H locs cells slots mc ms ls C hH hS hc hs hL
  exact W.lcmp C.1 C.2.1 hd (lv_if_gt C.1 C.2.1 hd2 ht (fun q => (K (jcmp_gt.mp q) p e s m args below meth c H locs cells slots mc ms ls C hH hS hc hs hL)) (fun q => (L (fun z9 => q (jcmp_gt.mpr z9)) p e s m args below meth c H locs cells slots mc ms ls C hH hS hc hs hL)))
theorem jg_lcmp_le {x z : Int64} {off : Int} {tgt : Nat} (hd : decode y.2.1 pc = .ok (.lcmp, 1)) (hd2 : decode y.2.1 (pc + 1) = .ok (.ifCond .le off, 3)) (ht : ((pc + 1 : Nat) : Int) + off = (tgt : Int)) (K : x ≤ z → jG g y tgt lv st h k n Q) (L : ¬ x ≤ z → jG g y (pc + 4) lv st h k n Q) : jG g y pc lv (.inr (.inl z) :: .inr (.inl x) :: st) h k n Q := by
  intro p e s m args below meth c H locs cells slots mc ms ls C hH hS hc hs hL
  exact W.lcmp C.1 C.2.1 hd (lv_if_le C.1 C.2.1 hd2 ht (fun q => (K (jcmp_le.mp q) p e s m args below meth c H locs cells slots mc ms ls C hH hS hc hs hL)) (fun q => (L (fun z9 => q (jcmp_le.mpr z9)) p e s m args below meth c H locs cells slots mc ms ls C hH hS hc hs hL)))
theorem jg_goto {off : Int} {tgt : Nat} (hd : decode y.2.1 pc = .ok (.goto off, 3)) (ht : (pc : Int) + off = (tgt : Int)) (K : jG g y tgt lv st h k n Q) : jG g y pc lv st h k n Q := by
  intro p e s m args below meth c H locs cells slots mc ms ls C hH hS hc hs hL
  exact lv_goto C.1 C.2.1 hd ht (K p e s m args below meth c H locs cells slots mc ms ls C hH hS hc hs hL)
theorem jg_ifnull {o : Option Nat} {off : Int} {tgt : Nat} (hd : decode y.2.1 pc = .ok (.ifnull off, 3)) (ht : (pc : Int) + off = (tgt : Int)) (K : o = none → jG g y tgt lv st h k n Q) (L : ¬ o = none → jG g y (pc + 3) lv st h k n Q) : jG g y pc lv (.inr (.inr o) :: st) h k n Q := by
  intro p e s m args below meth c H locs cells slots mc ms ls C hH hS hc hs hL
  cases o with
  | none => exact lv_ifnullN C.1 C.2.1 hd ht (K rfl p e s m args below meth c H locs cells slots mc ms ls C hH hS hc hs hL)
  | some a => exact lv_ifnull C.1 C.2.1 hd (L (fun q => by cases q) p e s m args below meth c H locs cells slots mc ms ls C hH hS hc hs hL)
theorem jg_ifnonnull {o : Option Nat} {off : Int} {tgt : Nat} (hd : decode y.2.1 pc = .ok (.ifnonnull off, 3)) (ht : (pc : Int) + off = (tgt : Int)) (K : ¬ o = none → jG g y tgt lv st h k n Q) (L : o = none → jG g y (pc + 3) lv st h k n Q) : jG g y pc lv (.inr (.inr o) :: st) h k n Q := by
  intro p e s m args below meth c H locs cells slots mc ms ls C hH hS hc hs hL
  cases o with
  | none => exact lv_ifnonnullN C.1 C.2.1 hd (L rfl p e s m args below meth c H locs cells slots mc ms ls C hH hS hc hs hL)
  | some a => exact lv_ifnonnull C.1 C.2.1 hd ht (K (fun q => by cases q) p e s m args below meth c H locs cells slots mc ms ls C hH hS hc hs hL)
theorem jg_acmp_eq {x z : Option Nat} {off : Int} {tgt : Nat} (hd : decode y.2.1 pc = .ok (.if_acmp .eq off, 3)) (ht : (pc : Int) + off = (tgt : Int)) (K : x = z → jG g y tgt lv st h k n Q) (L : ¬ x = z → jG g y (pc + 3) lv st h k n Q) : jG g y pc lv (.inr (.inr z) :: .inr (.inr x) :: st) h k n Q := by
  intro p e s m args below meth c H locs cells slots mc ms ls C hH hS hc hs hL
  exact lv_acmp_eq C.1 C.2.1 hd ht (fun q => (K q p e s m args below meth c H locs cells slots mc ms ls C hH hS hc hs hL)) (fun q => (L q p e s m args below meth c H locs cells slots mc ms ls C hH hS hc hs hL))
theorem jg_acmp_ne {x z : Option Nat} {off : Int} {tgt : Nat} (hd : decode y.2.1 pc = .ok (.if_acmp .ne off, 3)) (ht : (pc : Int) + off = (tgt : Int)) (K : ¬ x = z → jG g y tgt lv st h k n Q) (L : x = z → jG g y (pc + 3) lv st h k n Q) : jG g y pc lv (.inr (.inr z) :: .inr (.inr x) :: st) h k n Q := by
  intro p e s m args below meth c H locs cells slots mc ms ls C hH hS hc hs hL
  exact lv_acmp_ne C.1 C.2.1 hd ht (fun q => (K q p e s m args below meth c H locs cells slots mc ms ls C hH hS hc hs hL)) (fun q => (L q p e s m args below meth c H locs cells slots mc ms ls C hH hS hc hs hL))
theorem jw_cat {v : jv} (hv : ∀ x, v ≠ .inr (.inl x)) : (jw v).category = 1 := by
  rcases v with x | x | x
  · rfl
  · exact absurd rfl (hv x)
  · cases x <;> rfl
theorem jg_dup {v : jv} (hd : decode y.2.1 pc = .ok (.dup, 1)) (hv : (jw v).category = 1) (K : jG g y (pc + 1) lv (v :: v :: st) h k n Q) : jG g y pc lv (v :: st) h k n Q := by
  intro p e s m args below meth c H locs cells slots mc ms ls C hH hS hc hs hL
  exact lv_dup C.1 C.2.1 hd hv (K p e s m args below meth c H locs cells slots mc ms ls C hH hS hc hs hL)
theorem jg_dup2 {v w : jv} (hd : decode y.2.1 pc = .ok (.dup2, 1)) (hv : (jw v).category = 1) (hw : (jw w).category = 1) (K : jG g y (pc + 1) lv (v :: w :: v :: w :: st) h k n Q) : jG g y pc lv (v :: w :: st) h k n Q := by
  intro p e s m args below meth c H locs cells slots mc ms ls C hH hS hc hs hL
  exact lv_dup2_11 C.1 C.2.1 hd hv hw (K p e s m args below meth c H locs cells slots mc ms ls C hH hS hc hs hL)
theorem jg_tsIn {dflt lo hi : Int} {offs : Array Int} {len : Nat} {x : Int32} (x0 : Int32) (i0 : Nat) {off : Int} {tgt : Nat} (hd : decode y.2.1 pc = .ok (.tableswitch dflt lo hi offs, len)) (hx : x = x0) (h1 : x0.toInt = lo + i0) (h2 : lo + i0 ≤ hi) (ho : offs[i0]? = some off) (ht : (pc : Int) + off = (tgt : Int)) (K : jG g y tgt lv st h k n Q) : jG g y pc lv (.inl x :: st) h k n Q := by
  intro p e s m args below meth c H locs cells slots mc ms ls C hH hS hc hs hL
  subst hx
  exact lv_tableIn C.1 C.2.1 hd (by omega) (by omega) (by rw [h1, show (lo + (i0 : Int) - lo).toNat = i0 by omega]; exact ho) ht (K p e s m args below meth c H locs cells slots mc ms ls C hH hS hc hs hL)
theorem jg_tsOut {dflt lo hi : Int} {offs : Array Int} {len : Nat} {x : Int32} {tgt : Nat} (hd : decode y.2.1 pc = .ok (.tableswitch dflt lo hi offs, len)) (hx : x.toInt < lo ∨ hi < x.toInt) (ht : (pc : Int) + dflt = (tgt : Int)) (K : jG g y tgt lv st h k n Q) : jG g y pc lv (.inl x :: st) h k n Q := by
  intro p e s m args below meth c H locs cells slots mc ms ls C hH hS hc hs hL
  exact lv_tableOut C.1 C.2.1 hd hx ht (K p e s m args below meth c H locs cells slots mc ms ls C hH hS hc hs hL)
theorem jg_ls {dflt : Int} {ps : Array (Int × Int)} {len : Nat} {x : Int32} {off : Int} {tgt : Nat} (hd : decode y.2.1 pc = .ok (.lookupswitch dflt ps, len)) (hp : (ps.toList.zip (ps.toList.drop 1)).all (fun (a, next) => a.1 < next.1) = true) (ho : Op.lookupswitch.offset ps.toList dflt x.toInt = off) (ht : (pc : Int) + off = (tgt : Int)) (K : jG g y tgt lv st h k n Q) : jG g y pc lv (.inl x :: st) h k n Q := by
  intro p e s m args below meth c H locs cells slots mc ms ls C hH hS hc hs hL
  exact lv_lookup C.1 C.2.1 hd hp ho ht (K p e s m args below meth c H locs cells slots mc ms ls C hH hS hc hs hL)
end JA
end
section
/-! rows of jG: fields, rows, new cells -/
/-- entry 'index' of a class's pool is field k of class ci -/
def jfl (own : String) (index ci k : Nat) : Prop := ∃ (C : String) (T : u_T) (N : Nat), jcl[ci]? = some (C, T, N) ∧ N = jNc ci ∧ (∀ w ∈ u_ws C T N, w ∈ jtb) ∧ (∀ k, k < N → parseFieldDescriptor (T k).2.2.1 = some (jtyc ci k)) ∧ (∀ a, a < N → ∀ b, b < N → a ≠ b → (T a).2.1 ≠ (T b).2.1) ∧ k < N ∧ Cond.fieldLink own index C (T k).2.1 (T k).2.2.1 ∈ jtb ∧ (T k).1 = C
/-- .. and may be written there: it isn't final, or it's the constructor of its class -/
def jfp (y : jm) (index ci k : Nat) : Prop := ∃ (C : String) (T : u_T) (N : Nat), jcl[ci]? = some (C, T, N) ∧ N = jNc ci ∧ (∀ w ∈ u_ws C T N, w ∈ jtb) ∧ (∀ k, k < N → parseFieldDescriptor (T k).2.2.1 = some (jtyc ci k)) ∧ (∀ a, a < N → ∀ b, b < N → a ≠ b → (T a).2.1 ≠ (T b).2.1) ∧ k < N ∧ Cond.fieldLink y.1.cls index C (T k).2.1 (T k).2.2.1 ∈ jtb ∧ (T k).1 = C ∧ ((T k).2.2.2 = false ∨ ((T k).2.2.2 = true ∧ y.1.name = "<init>" ∧ C = y.1.cls))
theorem jcl_lt {ci : Nat} {q : vw_C} (h : jcl[ci]? = some q) : ci < 9 := (List.getElem?_eq_some_iff.mp h).1
theorem jd_some {o : Option Nat} (h : ¬ o = none) : o = some (jd o) := by
  cases o with
  | none => exact absurd rfl h
  | some a => rfl
section JHp
variable {g : jg} {y : jm} {pc : Nat} {lv : List (Nat × jv)} {st : List jv} {h : jh} {k n : Nat} {Q : jq}
theorem jg_get {o : Option Nat} {index ci fk : Nat} (hd : decode y.2.1 pc = .ok (.getfield index, 3)) (hf : jfl y.1.cls index ci fk) (ho : ¬ o = none) (ht : jt h (jd o) = ci + 1)
    (K : jG g y (pc + 3) lv (jf h ci fk (jd o) :: st) h k n Q) : jG g y pc lv (.inr (.inr o) :: st) h k n Q := by
  intro p e s m args below meth c H locs cells slots mc ms ls C hH hS hc hs hL
  obtain ⟨Cn, T, N, h1, h2, h3, -, -, h4, h5, h6⟩ := hf
  have hts := C.2.2.2.2.2.1
  have hK := C.2.2.2.2.2.2.2.2.2.1.1
  have hob := hH.2.2.2.1 (jd o) ci ht (jcl_lt h1)
  obtain ⟨cell, q1, q2, q3, q4⟩ := hob
  obtain ⟨hSl, hfc, kC, hkC, hkind⟩ := hK.1 ci _ h1
  obtain ⟨cf, kf, fi, f, hi, hsl⟩ := hSl fk h4
  generalize hA : jd o = a at *
  have ho' : o = some a := by rw [← hA]; exact jd_some ho
  subst ho'
  have hi2 : s.fieldFound? Cn (T fk).2.1 (T fk).2.2.1 = some (cf, kf, fi, f) := by rw [← hi]; exact congrArg (fun z => s.fieldFound? z (T fk).2.1 (T fk).2.2.1) h6.symm
  refine W.getf C.1 C.2.1 C.2.2.2.2.1 (hts _ h5) hi2 (u_facts hfc hkC (u_lays hts h3 h4) hi).1 q1 (by rw [q3]; exact fun q => by cases q) (v := jw (jf h ci fk a)) ?_ rfl rfl hd (K p e s m args below meth c H locs cells slots mc ms ls C hH hS hc hs hL)
  rw [hsl]
  exact q4 fk (by rw [← h2]; exact h4)
theorem jg_geti {o : Option Nat} {index ci fk : Nat} (hd : decode y.2.1 pc = .ok (.getfield index, 3)) (hf : jfl y.1.cls index ci fk) (hk : jkd (jtyc ci fk) = 0) (ho : ¬ o = none) (ht : jt h (jd o) = ci + 1)
    (K : jG g y (pc + 3) lv (.inl (ji h (64 * ci + fk) (jd o)) :: st) h k n Q) : jG g y pc lv (.inr (.inr o) :: st) h k n Q := jg_get hd hf ho ht (by unfold jf; rw [hk]; exact K)
theorem jg_getl {o : Option Nat} {index ci fk : Nat} (hd : decode y.2.1 pc = .ok (.getfield index, 3)) (hf : jfl y.1.cls index ci fk) (hk : jkd (jtyc ci fk) = 1) (ho : ¬ o = none) (ht : jt h (jd o) = ci + 1)
    (K : jG g y (pc + 3) lv (.inr (.inl (jl h (64 * ci + fk) (jd o))) :: st) h k n Q) : jG g y pc lv (.inr (.inr o) :: st) h k n Q := jg_get hd hf ho ht (by unfold jf; rw [hk]; exact K)
theorem jg_getr {o : Option Nat} {index ci fk : Nat} (hd : decode y.2.1 pc = .ok (.getfield index, 3)) (hf : jfl y.1.cls index ci fk) (hk : jkd (jtyc ci fk) = 2) (ho : ¬ o = none) (ht : jt h (jd o) = ci + 1)
    (K : jG g y (pc + 3) lv (.inr (.inr (jr h (64 * ci + fk) (jd o))) :: st) h k n Q) : jG g y pc lv (.inr (.inr o) :: st) h k n Q := jg_get hd hf ho ht (by unfold jf; rw [hk]; exact K)
/-- h' is h with field fk of the object a (of class ci) changed to v -/
def jput (h h' : jh) (ci fk a : Nat) (v : jv) : Prop := jz h' = jz h ∧ jt h' = jt h ∧ jn h' = jn h ∧ (∀ t, jrow h' t = jrow h t) ∧ jf h' ci fk a = v ∧ ∀ ci' k' a', ci' < 9 → k' < 64 → ¬ (a' = a ∧ ci' = ci ∧ k' = fk) → jf h' ci' k' a' = jf h ci' k' a'
theorem jH.put {H H' : Heap} {h' : jh} {ci fk a : Nat} {v : jv} (hH : jH g h H) (hp : jput h h' ci fk a v) (ht : jt h a = ci + 1) (hci : ci < 9) (hN : ∀ c, jNc c ≤ 64) (hap : ∀ x z, x < jNc ci → z < jNc ci → x ≠ z → (jgD g).2 ci x ≠ (jgD g).2 ci z) (hfk : fk < jNc ci) {cell : Cell}
    (q1 : H[a]? = some cell) (e1 : H'[a]? = some (cell.setSlot ((jgD g).2 ci fk) (jw v))) (e2 : H'.size = H.size) (e3 : ∀ q, q ≠ a → H'[q]? = H[q]?) : jH g h' H' := by
  obtain ⟨p1, p2, p3, p4, p5, p6⟩ := hp
  obtain ⟨a1, a2, a3, a4, a5⟩ := hH
  refine ⟨by rw [e2, a1, p1], by rw [p1]; exact a2, fun b hb => by rw [p2] at hb; rw [p1]; exact a3 b hb, fun b cj hb hcj => ?_, fun b t hb ht5 => ?_⟩
  · rw [p2] at hb
    by_cases hba : b = a
    · subst hba
      have hcc : cj = ci := by omega
      subst hcc
      obtain ⟨cell', z1, z2, z3, z4⟩ := a4 b cj hb hcj
      cases Option.some.inj (q1.symm.trans z1)
      refine ⟨_, e1, z2, z3, ?_⟩
      have hts := t_set z4 hap hfk (jw v)
      intro k' hk'
      rw [hts k' hk']
      by_cases hkk : k' = fk
      · subst hkk
        simp [updV, p5]
      · simp only [updV, if_neg hkk]
        rw [p6 cj k' b hcj (Nat.lt_of_lt_of_le hk' (hN cj)) (fun q => hkk q.2.2)]
    · obtain ⟨cell', z1, z2, z3, z4⟩ := a4 b cj hb hcj
      refine ⟨cell', by rw [e3 b hba]; exact z1, z2, z3, fun k' hk' => ?_⟩
      rw [z4 k' hk']
      show some (jw (jf h cj k' b)) = some (jw (jf h' cj k' b))
      rw [p6 cj k' b hcj (Nat.lt_of_lt_of_le hk' (hN cj)) (fun q => hba q.1)]
  · rw [p2] at hb
    have hba : b ≠ a := fun q => by subst q; omega
    rw [e3 b hba, a5 b t hb ht5, p3, p4]
theorem jNc_le (c : Nat) : jNc c ≤ 64 := by
  unfold jNc
  split <;> decide
theorem jg_put {h' : jh} {o : Option Nat} {index ci fk : Nat} {v : jv} (hd : decode y.2.1 pc = .ok (.putfield index, 3)) (hf : jfp y index ci fk) (ho : ¬ o = none) (ht : jt h (jd o) = ci + 1) (hn : narrow (jtyc ci fk) (jw v) = jw v) (hfit : fits (jtyc ci fk) (jw v) = true) (hp : jput h h' ci fk (jd o) v)
    (K : jG g y (pc + 3) lv st h' k n Q) : jG g y pc lv (v :: .inr (.inr o) :: st) h k n Q := by
  intro p e s m args below meth c H locs cells slots mc ms ls C hH hS hc hs hL
  obtain ⟨Cn, T, N, h1, h2, h3, hty, hnm, h4, h5, h6, h7⟩ := hf
  have hts := C.2.2.2.2.2.1
  have hK := C.2.2.2.2.2.2.2.2.2.1.1
  have hci := jcl_lt h1
  obtain ⟨cell, q1, q2, q3, q4⟩ := hH.2.2.2.1 (jd o) ci ht hci
  obtain ⟨hSl, hfc, kC, hkC, hkind⟩ := hK.1 ci _ h1
  obtain ⟨cf, kf, fi, f, hi, hsl⟩ := hSl fk h4
  generalize hA : jd o = a at *
  have ho' : o = some a := by rw [← hA]; exact jd_some ho
  subst ho'
  have hap := va_apart (own := y.1.cls) hts h3 (jtyc ci) hty hnm hK h1
  have hba : jA g a := (hH.2.2.1 a (by omega)).1
  have hi2 : s.fieldFound? Cn (T fk).2.1 (T fk).2.2.1 = some (cf, kf, fi, f) := by rw [← hi]; exact congrArg (fun z => s.fieldFound? z (T fk).2.1 (T fk).2.2.1) h6.symm
  have hlt : f.slot < cell.slots.size := by rw [hsl]; exact k2_hasslot (q4 fk (by rw [← h2]; exact h4))
  have hst := (u_facts hfc hkC (u_lays hts h3 h4) hi).1
  have fin : ∀ H' : Heap, H'[a]? = some (cell.setSlot f.slot (jw v)) → H'.size = H.size → (∀ q, q ≠ a → H'[q]? = H[q]?) → W p g.1 e (jrm y mc ms) s m args below meth c H' (locs ++ [⟨a, f.slot⟩]) cells slots (vx_MQ below (jQ g Q) (jX g Q) args s mc ms (jA g)) (F0 m (pc + 3) ls (st.map jw)) := by
    intro H' e1 e2 e3
    rw [hsl] at e1
    exact K p e s m args below meth c H' _ cells slots mc ms ls C (hH.put hp ht hci jNc_le (by rw [← h2]; exact hap) (by rw [← h2]; exact h4) q1 e1 e2 e3) (hS.put e2 e3 hba) hc hs hL
  rcases h7 with h7 | ⟨h7, h8, h9⟩
  · have hlay := hts _ (h3 _ (u_in_lay h4))
    unfold u_lay at hlay
    rw [if_neg (by rw [h7]; decide)] at hlay
    have h6' := u_store hfc hkC hkind hlay hi (hty fk h4) hn hfit
    exact W.putK C.1 C.2.1 (f := f) ⟨C.2.2.2.2.1, hts _ h5, ⟨_, _, _, hi2⟩, hst⟩ (by rw [q2]; exact h6') q1 q3 hlt rfl rfl hd fin
  · have hlay := hts _ (h3 _ (u_in_lay h4))
    unfold u_lay at hlay
    rw [if_pos h7] at hlay
    have hcf : m.cls = cf := by
      obtain ⟨_, _, c', _, _, _, -, -, hf', -, -, -, hown2, -⟩ := Cond.laysFinal_spec hlay
      have e1 : c' = cf := by have := hi.symm.trans hf'; simp at this; exact this.1.symm
      rw [h6, h9] at hown2
      rw [← e1]; exact Option.some.inj (C.2.2.2.2.1.symm.trans hown2)
    have h6' := u_fits hfc hkC hkind (Or.inr hlay) hi (hty fk h4) hn hfit
    exact W.putFinK C.1 C.2.1 C.2.2.2.2.1 (hts _ h5) hi2 hst hcf (C.2.2.2.2.2.2.2.1.trans h8) (by rw [q2]; exact h6') q1 q3 hlt rfl rfl hd fin
theorem jkey {c k c' k' : Nat} (h1 : k < 64) (h2 : k' < 64) (h : 64 * c' + k' = 64 * c + k) : c' = c ∧ k' = k := by omega
theorem jput_i {ci fk a : Nat} {x : Int32} (hk : jkd (jtyc ci fk) = 0) (hfk : fk < 64) : jput h (jsi h (64 * ci + fk) a x) ci fk a (.inl x) := by
  refine ⟨rfl, rfl, rfl, fun _ => rfl, ?_, fun ci' k' a' _ h2 hne => ?_⟩
  · unfold jf; rw [hk]; simp [jsi, ji, jup]
  · unfold jf
    split
    · have : ji (jsi h (64 * ci + fk) a x) (64 * ci' + k') a' = ji h (64 * ci' + k') a' := by
        simp only [jsi, ji, jup]
        rw [if_neg]
        rintro ⟨e1, e2⟩
        obtain ⟨z1, z2⟩ := jkey hfk h2 e1
        exact hne ⟨e2, z1, z2⟩
      rw [this]
    · rfl
    · rfl
theorem jput_l {ci fk a : Nat} {x : Int64} (hk : jkd (jtyc ci fk) = 1) (hfk : fk < 64) : jput h (jsl h (64 * ci + fk) a x) ci fk a (.inr (.inl x)) := by
  refine ⟨rfl, rfl, rfl, fun _ => rfl, ?_, fun ci' k' a' _ h2 hne => ?_⟩
  · unfold jf; rw [hk]; simp [jsl, jl, jup]
  · unfold jf
    split
    · rfl
    · have : jl (jsl h (64 * ci + fk) a x) (64 * ci' + k') a' = jl h (64 * ci' + k') a' := by
        simp only [jsl, jl, jup]
        rw [if_neg]
        rintro ⟨e1, e2⟩
        obtain ⟨z1, z2⟩ := jkey hfk h2 e1
        exact hne ⟨e2, z1, z2⟩
      rw [this]
    · rfl
theorem jput_r {ci fk a : Nat} {x : Option Nat} (hk : jkd (jtyc ci fk) = 2) (hfk : fk < 64) : jput h (jsr h (64 * ci + fk) a x) ci fk a (.inr (.inr x)) := by
  refine ⟨rfl, rfl, rfl, fun _ => rfl, ?_, fun ci' k' a' _ h2 hne => ?_⟩
  · unfold jf; rw [hk]; simp [jsr, jr, jup]
  · unfold jf
    split
    · rfl
    · rfl
    · have : jr (jsr h (64 * ci + fk) a x) (64 * ci' + k') a' = jr h (64 * ci' + k') a' := by
        simp only [jsr, jr, jup]
        rw [if_neg]
        rintro ⟨e1, e2⟩
        obtain ⟨z1, z2⟩ := jkey hfk h2 e1
        exact hne ⟨e2, z1, z2⟩
      rw [this]
theorem jfp_lt {index ci fk : Nat} (h : jfp y index ci fk) : fk < 64 := by
  obtain ⟨_, _, N, -, h2, -, -, -, h4, -⟩ := h
  exact Nat.lt_of_lt_of_le (by rw [← h2]; exact h4) (jNc_le ci)
theorem jg_puti {o : Option Nat} {index ci fk : Nat} {x : Int32} (hd : decode y.2.1 pc = .ok (.putfield index, 3)) (hf : jfp y index ci fk) (hk : jtyc ci fk = .int) (ho : ¬ o = none) (ht : jt h (jd o) = ci + 1)
    (K : jG g y (pc + 3) lv st (jsi h (64 * ci + fk) (jd o) x) k n Q) : jG g y pc lv (.inl x :: .inr (.inr o) :: st) h k n Q :=
  jg_put hd hf ho ht (by rw [hk]; rfl) (by rw [hk]; rfl) (jput_i (by rw [hk]; rfl) (jfp_lt hf)) K
/-- a boolean: 0 or 1 -/
theorem jg_putz {o : Option Nat} {index ci fk : Nat} {x : Int32} (hd : decode y.2.1 pc = .ok (.putfield index, 3)) (hf : jfp y index ci fk) (hk : jtyc ci fk = .boolean) (ho : ¬ o = none) (ht : jt h (jd o) = ci + 1) (hx : x = 0 ∨ x = 1)
    (K : jG g y (pc + 3) lv st (jsi h (64 * ci + fk) (jd o) x) k n Q) : jG g y pc lv (.inl x :: .inr (.inr o) :: st) h k n Q :=
  jg_put hd hf ho ht (by rw [hk]; rcases hx with rfl | rfl <;> rfl) (by rw [hk]; rcases hx with rfl | rfl <;> rfl) (jput_i (by rw [hk]; rfl) (jfp_lt hf)) K
theorem jg_putl {o : Option Nat} {index ci fk : Nat} {x : Int64} (hd : decode y.2.1 pc = .ok (.putfield index, 3)) (hf : jfp y index ci fk) (hk : jtyc ci fk = .long) (ho : ¬ o = none) (ht : jt h (jd o) = ci + 1)
    (K : jG g y (pc + 3) lv st (jsl h (64 * ci + fk) (jd o) x) k n Q) : jG g y pc lv (.inr (.inl x) :: .inr (.inr o) :: st) h k n Q :=
  jg_put hd hf ho ht (by rw [hk]; rfl) (by rw [hk]; rfl) (jput_l (by rw [hk]; rfl) (jfp_lt hf)) K
theorem jg_putr {o x : Option Nat} {index ci fk : Nat} (hd : decode y.2.1 pc = .ok (.putfield index, 3)) (hf : jfp y index ci fk) (hk : jkd (jtyc ci fk) = 2) (ho : ¬ o = none) (ht : jt h (jd o) = ci + 1)
    (K : jG g y (pc + 3) lv st (jsr h (64 * ci + fk) (jd o) x) k n Q) : jG g y pc lv (.inr (.inr x) :: .inr (.inr o) :: st) h k n Q := by
  refine jg_put hd hf ho ht ?_ ?_ (jput_r hk (jfp_lt hf)) K
  · generalize jtyc ci fk = ty at hk
    cases ty <;> first | (cases x <;> rfl) | (simp [jkd] at hk)
  · generalize jtyc ci fk = ty at hk
    cases ty <;> first | (cases x <;> rfl) | (simp [jkd] at hk)
/-- rows: reads -/
theorem jtys_at (g : jg) : (jtys g)[0]? = some (jgA g 0, .int) ∧ (jtys g)[1]? = some (jgA g 1, .byte) ∧ (jtys g)[2]? = some (jgA g 2, .long) ∧ (jtys g)[3]? = some (jgA g 3, .object RX0) ∧ (jtys g)[4]? = some (jgA g 4, .boolean) := ⟨rfl, rfl, rfl, rfl, rfl⟩
theorem jg_iald {o : Option Nat} {i : Int32} (hd : decode y.2.1 pc = .ok (.iaload, 1)) (ho : ¬ o = none) (ht : jt h (jd o) = 20) (hi : vp_in i (jn h (jd o))) (K : jG g y (pc + 1) lv (.inl (jI h (jd o) i.toNatClampNeg) :: st) h k n Q) : jG g y pc lv (.inl i :: .inr (.inr o) :: st) h k n Q := by
  intro p e s m args below meth c H locs cells slots mc ms ls C hH hS hc hs hL
  have ha := hH.2.2.2.2 (jd o) 0 ht (by decide)
  generalize hA : jd o = a at *
  have ho' : o = some a := by rw [← hA]; exact jd_some ho
  subst ho'
  have hlt : i.toNatClampNeg < jn h a := Nat.not_le.mp fun q => hi (Or.inr q)
  exact W.iald (v := .int (jI h a i.toNatClampNeg)) C.1 C.2.1 ha ((C.2.2.2.2.2.2.2.2.2.1.1.2 0 _ (jtys_at g).1).1 _ _) (fun q => by cases q) (by rw [arrV_size]; exact hi) (by rw [arrV_read _ _ hlt]; rfl) rfl rfl hd (K p e s m args below meth c H locs cells slots mc ms ls C hH hS hc hs hL)
theorem jg_bald {o : Option Nat} {i : Int32} (hd : decode y.2.1 pc = .ok (.baload, 1)) (ho : ¬ o = none) (ht : jt h (jd o) = 21) (hi : vp_in i (jn h (jd o))) (K : jG g y (pc + 1) lv (.inl (jI h (jd o) i.toNatClampNeg) :: st) h k n Q) : jG g y pc lv (.inl i :: .inr (.inr o) :: st) h k n Q := by
  intro p e s m args below meth c H locs cells slots mc ms ls C hH hS hc hs hL
  have ha := hH.2.2.2.2 (jd o) 1 ht (by decide)
  generalize hA : jd o = a at *
  have ho' : o = some a := by rw [← hA]; exact jd_some ho
  subst ho'
  have hlt : i.toNatClampNeg < jn h a := Nat.not_le.mp fun q => hi (Or.inr q)
  exact W.bald (v := .int (jI h a i.toNatClampNeg)) C.1 C.2.1 ha ((C.2.2.2.2.2.2.2.2.2.1.1.2 1 _ (jtys_at g).2.1).1 _ _) (fun q => by cases q) (by rw [arrV_size]; exact hi) (by rw [arrV_read _ _ hlt]; rfl) rfl rfl hd (K p e s m args below meth c H locs cells slots mc ms ls C hH hS hc hs hL)
theorem jg_zald {o : Option Nat} {i : Int32} (hd : decode y.2.1 pc = .ok (.baload, 1)) (ho : ¬ o = none) (ht : jt h (jd o) = 24) (hi : vp_in i (jn h (jd o))) (K : jG g y (pc + 1) lv (.inl (jI h (jd o) i.toNatClampNeg) :: st) h k n Q) : jG g y pc lv (.inl i :: .inr (.inr o) :: st) h k n Q := by
  intro p e s m args below meth c H locs cells slots mc ms ls C hH hS hc hs hL
  have ha := hH.2.2.2.2 (jd o) 4 ht (by decide)
  generalize hA : jd o = a at *
  have ho' : o = some a := by rw [← hA]; exact jd_some ho
  subst ho'
  have hlt : i.toNatClampNeg < jn h a := Nat.not_le.mp fun q => hi (Or.inr q)
  exact W.zald (v := .int (jI h a i.toNatClampNeg)) C.1 C.2.1 ha ((C.2.2.2.2.2.2.2.2.2.1.1.2 4 _ (jtys_at g).2.2.2.2).1 _ _) (fun q => by cases q) (by rw [arrV_size]; exact hi) (by rw [arrV_read _ _ hlt]; rfl) rfl rfl hd (K p e s m args below meth c H locs cells slots mc ms ls C hH hS hc hs hL)
theorem jg_lald {o : Option Nat} {i : Int32} (hd : decode y.2.1 pc = .ok (.laload, 1)) (ho : ¬ o = none) (ht : jt h (jd o) = 22) (hi : vp_in i (jn h (jd o))) (K : jG g y (pc + 1) lv (.inr (.inl (jL h (jd o) i.toNatClampNeg)) :: st) h k n Q) : jG g y pc lv (.inl i :: .inr (.inr o) :: st) h k n Q := by
  intro p e s m args below meth c H locs cells slots mc ms ls C hH hS hc hs hL
  have ha := hH.2.2.2.2 (jd o) 2 ht (by decide)
  generalize hA : jd o = a at *
  have ho' : o = some a := by rw [← hA]; exact jd_some ho
  subst ho'
  have hlt : i.toNatClampNeg < jn h a := Nat.not_le.mp fun q => hi (Or.inr q)
  exact W.lald (v := .long (jL h a i.toNatClampNeg)) C.1 C.2.1 ha ((C.2.2.2.2.2.2.2.2.2.1.1.2 2 _ (jtys_at g).2.2.1).1 _ _) (fun q => by cases q) (by rw [arrV_size]; exact hi) (by rw [arrV_read _ _ hlt]; rfl) rfl rfl hd (K p e s m args below meth c H locs cells slots mc ms ls C hH hS hc hs hL)
theorem jg_aald {o : Option Nat} {i : Int32} (hd : decode y.2.1 pc = .ok (.aaload, 1)) (ho : ¬ o = none) (ht : jt h (jd o) = 23) (hi : vp_in i (jn h (jd o))) (K : jG g y (pc + 1) lv (.inr (.inr (jR h (jd o) i.toNatClampNeg)) :: st) h k n Q) : jG g y pc lv (.inl i :: .inr (.inr o) :: st) h k n Q := by
  intro p e s m args below meth c H locs cells slots mc ms ls C hH hS hc hs hL
  have ha := hH.2.2.2.2 (jd o) 3 ht (by decide)
  generalize hA : jd o = a at *
  have ho' : o = some a := by rw [← hA]; exact jd_some ho
  subst ho'
  have hlt : i.toNatClampNeg < jn h a := Nat.not_le.mp fun q => hi (Or.inr q)
  exact W.aald (v := va_rf (jR h a i.toNatClampNeg)) (ty := .object RX0) C.1 C.2.1 ha ((C.2.2.2.2.2.2.2.2.2.1.1.2 3 _ (jtys_at g).2.2.2.1).1 _ _) rfl (fun q => by cases q) (by rw [arrV_size]; exact hi) (by rw [arrV_read _ _ hlt]; rfl) rfl rfl hd (K p e s m args below meth c H locs cells slots mc ms ls C hH hS hc hs hL)
theorem jg_alen {o : Option Nat} {t : Nat} (hd : decode y.2.1 pc = .ok (.arraylength, 1)) (ho : ¬ o = none) (ht : jt h (jd o) = t + 20) (h5 : t < 5) (K : jG g y (pc + 1) lv (.inl (nI (jn h (jd o))) :: st) h k n Q) : jG g y pc lv (.inr (.inr o) :: st) h k n Q := by
  intro p e s m args below meth c H locs cells slots mc ms ls C hH hS hc hs hL
  have ha := hH.2.2.2.2 (jd o) t ht h5
  generalize hA : jd o = a at *
  have ho' : o = some a := by rw [← hA]; exact jd_some ho
  subst ho'
  have hKt := C.2.2.2.2.2.2.2.2.2.1.1.2
  have k1 := K p e s m args below meth c H locs cells slots mc ms ls C hH hS hc hs hL
  match t, h5, ha with
  | 0, _, ha => exact W.alen (n := nI (jn h a)) C.1 C.2.1 ha ((hKt 0 _ (jtys_at g).1).1 _ _) (by rw [arrV_size] <;> rfl) rfl rfl hd k1
  | 1, _, ha => exact W.alen (n := nI (jn h a)) C.1 C.2.1 ha ((hKt 1 _ (jtys_at g).2.1).1 _ _) (by rw [arrV_size] <;> rfl) rfl rfl hd k1
  | 2, _, ha => exact W.alen (n := nI (jn h a)) C.1 C.2.1 ha ((hKt 2 _ (jtys_at g).2.2.1).1 _ _) (by rw [arrV_size] <;> rfl) rfl rfl hd k1
  | 3, _, ha => exact W.alen (n := nI (jn h a)) C.1 C.2.1 ha ((hKt 3 _ (jtys_at g).2.2.2.1).1 _ _) (by rw [arrV_size] <;> rfl) rfl rfl hd k1
  | 4, _, ha => exact W.alen (n := nI (jn h a)) C.1 C.2.1 ha ((hKt 4 _ (jtys_at g).2.2.2.2).1 _ _) (by rw [arrV_size] <;> rfl) rfl rfl hd k1
/-- the script -/
theorem jg_slen (hd : decode y.2.1 pc = .ok (.arraylength, 1)) (K : jG g y (pc + 1) lv (.inl (nI (jgL g)) :: st) h k n Q) : jG g y pc lv (.inr (.inr (some (jgs g))) :: st) h k n Q := by
  intro p e s m args below meth c H locs cells slots mc ms ls C hH hS hc hs hL
  obtain ⟨-, -, -, -, -, -, h7, h8, -⟩ := C.2.2.2.2.2.2.2.2.2.1
  exact va_slen C.1 C.2.1 h7 (Nat.lt_of_lt_of_le h8 C.2.2.2.2.2.2.2.2.2.2.2) (Nat.not_le.mpr h8) hS hd (K p e s m args below meth c H locs cells slots mc ms ls C hH hS hc hs hL)
theorem jg_sld {i : Int32} (hd : decode y.2.1 pc = .ok (.iaload, 1)) (hi : vp_in i (jgL g)) (K : jG g y (pc + 1) lv (.inl (jgx g i.toNatClampNeg) :: st) h k n Q) : jG g y pc lv (.inl i :: .inr (.inr (some (jgs g))) :: st) h k n Q := by
  intro p e s m args below meth c H locs cells slots mc ms ls C hH hS hc hs hL
  obtain ⟨-, -, -, -, -, -, h7, h8, -⟩ := C.2.2.2.2.2.2.2.2.2.1
  exact va_sld C.1 C.2.1 h7 (Nat.lt_of_lt_of_le h8 C.2.2.2.2.2.2.2.2.2.2.2) (Nat.not_le.mpr h8) hS hi hd (K p e s m args below meth c H locs cells slots mc ms ls C hH hS hc hs hL)
end JHp
end
section
/-! rows of jG: writes into rows, new cells, returns -/
section JCe
variable {g : jg} {y : jm} {pc : Nat} {lv : List (Nat × jv)} {st : List jv} {h : jh} {k n : Nat} {Q : jq}
theorem jH.row {H H' : Heap} {h' : jh} {a t : Nat} (hH : jH g h H) (hz : jz h' = jz h) (ht : jt h' = jt h) (hn : jn h' = jn h) (hf : ∀ ci k b, jf h' ci k b = jf h ci k b) (hr : ∀ t b, b ≠ a → jrow h' t b = jrow h t b) (ha : jt h a = t + 20) (h5 : t < 5)
    (e1 : H'[a]? = some (arrV (jgA g t) (jn h a) (jrow h' t a))) (e2 : H'.size = H.size) (e3 : ∀ q, q ≠ a → H'[q]? = H[q]?) : jH g h' H' := by
  obtain ⟨a1, a2, a3, a4, a5⟩ := hH
  refine ⟨by rw [e2, a1, hz], by rw [hz]; exact a2, fun b hb => by rw [ht] at hb; rw [hz]; exact a3 b hb, fun b cj hb hcj => ?_, fun b t' hb h5' => ?_⟩
  · rw [ht] at hb
    have hba : b ≠ a := fun q => by subst q; omega
    obtain ⟨cell', z1, z2, z3, z4⟩ := a4 b cj hb hcj
    refine ⟨cell', by rw [e3 b hba]; exact z1, z2, z3, fun k' hk' => ?_⟩
    rw [z4 k' hk']
    show some (jw (jf h cj k' b)) = some (jw (jf h' cj k' b))
    rw [hf]
  · rw [ht] at hb
    by_cases hba : b = a
    · subst hba
      have : t' = t := by omega
      subst this
      rw [e1, hn]
    · rw [e3 b hba, a5 b t' hb h5', hn, hr t' b hba]
theorem jrow_I {a i : Nat} {x : Int32} {t : Nat} (h2 : t ≠ 2) (h3 : t ≠ 3) : jrow (jsI h a i x) t a = updV (jrow h t a) i (.int x) := by
  funext j
  unfold jrow updV
  split
  · exact absurd rfl h2
  · exact absurd rfl h3
  · by_cases hj : j = i
    · simp [hj, jsI, jI, jup]
    · simp [hj, jsI, jI, jup]
theorem jrow_L {a i : Nat} {x : Int64} : jrow (jsL h a i x) 2 a = updV (jrow h 2 a) i (.long x) := by
  funext j
  unfold jrow updV
  by_cases hj : j = i
  · simp [hj, jsL, jL, jup]
  · simp [hj, jsL, jL, jup]
theorem jrow_R {a i : Nat} {x : Option Nat} : jrow (jsR h a i x) 3 a = updV (jrow h 3 a) i (va_rf x) := by
  funext j
  unfold jrow updV
  by_cases hj : j = i
  · simp [hj, jsR, jR, jup]
  · simp [hj, jsR, jR, jup]
theorem jrow_Io {a b i : Nat} {x : Int32} {t : Nat} (hb : b ≠ a) : jrow (jsI h a i x) t b = jrow h t b := by
  funext j
  unfold jrow
  split <;> simp [jsI, jI, jL, jR, jup, hb]
theorem jrow_Lo {a b i : Nat} {x : Int64} {t : Nat} (hb : b ≠ a) : jrow (jsL h a i x) t b = jrow h t b := by
  funext j
  unfold jrow
  split <;> simp [jsL, jI, jL, jR, jup, hb]
theorem jrow_Ro {a b i : Nat} {x : Option Nat} {t : Nat} (hb : b ≠ a) : jrow (jsR h a i x) t b = jrow h t b := by
  funext j
  unfold jrow
  split <;> simp [jsR, jI, jL, jR, jup, hb]
theorem jg_iast {o : Option Nat} {i x : Int32} (hd : decode y.2.1 pc = .ok (.iastore, 1)) (ho : ¬ o = none) (ht : jt h (jd o) = 20) (hi : vp_in i (jn h (jd o))) (K : jG g y (pc + 1) lv st (jsI h (jd o) i.toNatClampNeg x) k n Q) : jG g y pc lv (.inl x :: .inl i :: .inr (.inr o) :: st) h k n Q := by
  intro p e s m args below meth c H locs cells slots mc ms ls C hH hS hc hs hL
  have ha := hH.2.2.2.2 (jd o) 0 ht (by decide)
  generalize hA : jd o = a at *
  have ho' : o = some a := by rw [← hA]; exact jd_some ho
  subst ho'
  have hba : jA g a := (hH.2.2.1 a (by omega)).1
  refine W.iast C.1 C.2.1 ha ((C.2.2.2.2.2.2.2.2.2.1.1.2 0 _ (jtys_at g).1).1 _ _) (fun q => by cases q) (by rw [arrV_size]; exact hi) rfl rfl hd fun H1 e1 e2 e3 => ?_
  rw [arrV_store] at e1
  exact K p e s m args below meth c H1 _ cells slots mc ms ls C (hH.row rfl rfl rfl (fun _ _ _ => rfl) (fun _ _ hb => jrow_Io hb) ht (by decide) (by rw [e1, jrow_I (by decide) (by decide)]) e2 e3) (hS.put e2 e3 hba) hc hs hL
theorem jg_bast {o : Option Nat} {i x : Int32} (hd : decode y.2.1 pc = .ok (.bastore, 1)) (ho : ¬ o = none) (ht : jt h (jd o) = 21) (hi : vp_in i (jn h (jd o))) (K : jG g y (pc + 1) lv st (jsI h (jd o) i.toNatClampNeg x.toInt8.toInt32) k n Q) : jG g y pc lv (.inl x :: .inl i :: .inr (.inr o) :: st) h k n Q := by
  intro p e s m args below meth c H locs cells slots mc ms ls C hH hS hc hs hL
  have ha := hH.2.2.2.2 (jd o) 1 ht (by decide)
  generalize hA : jd o = a at *
  have ho' : o = some a := by rw [← hA]; exact jd_some ho
  subst ho'
  have hba : jA g a := (hH.2.2.1 a (by omega)).1
  refine W.bast C.1 C.2.1 ha ((C.2.2.2.2.2.2.2.2.2.1.1.2 1 _ (jtys_at g).2.1).1 _ _) (fun q => by cases q) (by rw [arrV_size]; exact hi) rfl rfl hd fun H1 e1 e2 e3 => ?_
  rw [arrV_store] at e1
  exact K p e s m args below meth c H1 _ cells slots mc ms ls C (hH.row rfl rfl rfl (fun _ _ _ => rfl) (fun _ _ hb => jrow_Io hb) ht (by decide) (by rw [e1, jrow_I (by decide) (by decide)]; rfl) e2 e3) (hS.put e2 e3 hba) hc hs hL
theorem jg_zast {o : Option Nat} {i x : Int32} (hd : decode y.2.1 pc = .ok (.bastore, 1)) (ho : ¬ o = none) (ht : jt h (jd o) = 24) (hi : vp_in i (jn h (jd o))) (hx : x = 0 ∨ x = 1) (K : jG g y (pc + 1) lv st (jsI h (jd o) i.toNatClampNeg x) k n Q) : jG g y pc lv (.inl x :: .inl i :: .inr (.inr o) :: st) h k n Q := by
  intro p e s m args below meth c H locs cells slots mc ms ls C hH hS hc hs hL
  have ha := hH.2.2.2.2 (jd o) 4 ht (by decide)
  generalize hA : jd o = a at *
  have ho' : o = some a := by rw [← hA]; exact jd_some ho
  subst ho'
  have hba : jA g a := (hH.2.2.1 a (by omega)).1
  refine W.zast C.1 C.2.1 ha ((C.2.2.2.2.2.2.2.2.2.1.1.2 4 _ (jtys_at g).2.2.2.2).1 _ _) (fun q => by cases q) (by rw [arrV_size]; exact hi) rfl rfl hd fun H1 e1 e2 e3 => ?_
  rw [arrV_store] at e1
  exact K p e s m args below meth c H1 _ cells slots mc ms ls C (hH.row rfl rfl rfl (fun _ _ _ => rfl) (fun _ _ hb => jrow_Io hb) ht (by decide) (by rw [e1, jrow_I (by decide) (by decide)]; rcases hx with rfl | rfl <;> rfl) e2 e3) (hS.put e2 e3 hba) hc hs hL
theorem jg_last {o : Option Nat} {i : Int32} {x : Int64} (hd : decode y.2.1 pc = .ok (.lastore, 1)) (ho : ¬ o = none) (ht : jt h (jd o) = 22) (hi : vp_in i (jn h (jd o))) (K : jG g y (pc + 1) lv st (jsL h (jd o) i.toNatClampNeg x) k n Q) : jG g y pc lv (.inr (.inl x) :: .inl i :: .inr (.inr o) :: st) h k n Q := by
  intro p e s m args below meth c H locs cells slots mc ms ls C hH hS hc hs hL
  have ha := hH.2.2.2.2 (jd o) 2 ht (by decide)
  generalize hA : jd o = a at *
  have ho' : o = some a := by rw [← hA]; exact jd_some ho
  subst ho'
  have hba : jA g a := (hH.2.2.1 a (by omega)).1
  refine W.last C.1 C.2.1 ha ((C.2.2.2.2.2.2.2.2.2.1.1.2 2 _ (jtys_at g).2.2.1).1 _ _) (fun q => by cases q) (by rw [arrV_size]; exact hi) rfl rfl hd fun H1 e1 e2 e3 => ?_
  rw [arrV_store] at e1
  exact K p e s m args below meth c H1 _ cells slots mc ms ls C (hH.row rfl rfl rfl (fun _ _ _ => rfl) (fun _ _ hb => jrow_Lo hb) ht (by decide) (by rw [e1, jrow_L]) e2 e3) (hS.put e2 e3 hba) hc hs hL
theorem jg_aast {o : Option Nat} {i : Int32} {v : Nat} (hd : decode y.2.1 pc = .ok (.aastore, 1)) (ho : ¬ o = none) (ht : jt h (jd o) = 23) (hi : vp_in i (jn h (jd o))) (hv : jt h v = 1) (K : jG g y (pc + 1) lv st (jsR h (jd o) i.toNatClampNeg (some v)) k n Q) : jG g y pc lv (.inr (.inr (some v)) :: .inl i :: .inr (.inr o) :: st) h k n Q := by
  intro p e s m args below meth c H locs cells slots mc ms ls C hH hS hc hs hL
  have ha := hH.2.2.2.2 (jd o) 3 ht (by decide)
  generalize hA : jd o = a at *
  have ho' : o = some a := by rw [← hA]; exact jd_some ho
  subst ho'
  have hba : jA g a := (hH.2.2.1 a (by omega)).1
  have hK := C.2.2.2.2.2.2.2.2.2.1.1
  have hlt : i.toNatClampNeg < jn h a := Nat.not_le.mp fun q => hi (Or.inr q)
  have h0 : ¬ i < 0 := fun q => hi (Or.inl q)
  obtain ⟨cellV, g1, g2, g3, -⟩ := hH.2.2.2.1 v 0 hv (by decide)
  have hcls := (hK.1 0 (RX0, TX0, 20) rfl).2
  obtain ⟨kA, comp, k1, k2, k3, -⟩ := (hK.2 3 _ (jtys_at g).2.2.2.1).2
  have hcomp : comp = (jgD g).1 0 := Option.some.inj (k3.symm.trans hcls.1)
  subst hcomp
  obtain ⟨kC, hkC, -⟩ := hcls.2
  refine W.aast C.1 C.2.1 ha (fun q h => by cases h) (fun h => by cases h) k1 k2 rfl hkC ⟨h0, by rw [arrV_size]; exact hlt⟩ g1 (fun q h => by rw [g3] at h; cases h) (by rw [g2]; exact hkC) (by rw [g2]; exact va_assign hcls) rfl rfl hd fun H1 e1 e2 e3 => ?_
  rw [arrV_store] at e1
  exact K p e s m args below meth c H1 _ cells slots mc ms ls C (hH.row rfl rfl rfl (fun _ _ _ => rfl) (fun _ _ hb => jrow_Ro hb) ht (by decide) (by rw [e1, jrow_R]; rfl) e2 e3) (hS.put e2 e3 hba) hc hs hL
/-- one cell more -/
theorem jH.more {H H' : Heap} {t N : Nat} (hH : jH g h H) (ht : (∃ ci, t = ci + 1 ∧ ci < 9 ∧ t_OB (jz h) ((jgD g).1 ci) (jNc ci) ((jgD g).2 ci) H' (fun k => jw (jf (jmk h t N) ci k (jz h)))) ∨ (∃ r, t = r + 20 ∧ r < 5 ∧ H'[jz h]? = some (arrV (jgA g r) N (jrow (jmk h t N) r (jz h)))))
    (e2 : H'.size = jz h + 1) (e3 : ∀ q, q < jz h → H'[q]? = H[q]?) : jH g (jmk h t N) H' := by
  obtain ⟨a1, a2, a3, a4, a5⟩ := hH
  have hnew : jt (jmk h t N) (jz h) = t := by simp [jmk, jt]
  have hold : ∀ b, b ≠ jz h → jt (jmk h t N) b = jt h b := fun b hb => by simp [jmk, jt, hb]
  refine ⟨e2, Nat.le_succ_of_le a2, fun b hb => ?_, fun b cj hb hcj => ?_, fun b t' hb h5' => ?_⟩
  · by_cases hbz : b = jz h
    · subst hbz; exact ⟨a2, Nat.lt_succ_self _⟩
    · rw [hold b hbz] at hb
      exact ⟨(a3 b hb).1, Nat.lt_succ_of_lt (a3 b hb).2⟩
  · by_cases hbz : b = jz h
    · subst hbz
      rw [hnew] at hb
      rcases ht with ⟨ci, e, hci, ob⟩ | ⟨r, e, hr, -⟩
      · have : cj = ci := by omega
        subst this; exact ob
      · omega
    · rw [hold b hbz] at hb
      have hlt := (a3 b (by omega)).2
      obtain ⟨cell', z1, z2, z3, z4⟩ := a4 b cj hb hcj
      refine ⟨cell', by rw [e3 b hlt]; exact z1, z2, z3, fun k' hk' => ?_⟩
      rw [z4 k' hk']
      show some (jw (jf h cj k' b)) = some (jw (jf (jmk h t N) cj k' b))
      have : jf (jmk h t N) cj k' b = jf h cj k' b := by
        unfold jf
        split <;> simp [jmk, ji, jl, jr, hbz]
      rw [this]
  · by_cases hbz : b = jz h
    · subst hbz
      rw [hnew] at hb
      rcases ht with ⟨ci, e, hci, -⟩ | ⟨r, e, hr, ob⟩
      · omega
      · have : t' = r := by omega
        subst this
        rw [ob]
        have : jn (jmk h t N) (jz h) = N := by simp [jmk, jn]
        rw [this]
    · rw [hold b hbz] at hb
      have hlt := (a3 b (by omega)).2
      have hn : jn (jmk h t N) b = jn h b := by simp [jmk, jn, hbz]
      have hr : jrow (jmk h t N) t' b = jrow h t' b := by
        funext j
        unfold jrow
        split <;> simp [jmk, jI, jL, jR, hbz]
      rw [e3 b hlt, a5 b t' hb h5', hn, hr]
theorem jdef : ∀ ci, ci < 9 → ∀ k, k < jNc ci → (jkd (jtyc ci k) = 0 → defaultValue (jtyc ci k) = .int 0) ∧ (jkd (jtyc ci k) = 1 → defaultValue (jtyc ci k) = .long 0) ∧ (jkd (jtyc ci k) = 2 → defaultValue (jtyc ci k) = .null) := by decide +kernel
theorem jkd_le (ty : FieldType) : jkd ty = 0 ∨ jkd ty = 1 ∨ jkd ty = 2 := by
  cases ty <;> simp [jkd]
/-- entry 'index' of a class's pool is class ci, of N fields, which can be made -/
def jnl (own : String) (index ci N : Nat) : Prop := ∃ (C : String) (T : u_T), jcl[ci]? = some (C, T, N) ∧ N = jNc ci ∧ (∀ w ∈ u_ws C T N, w ∈ jtb) ∧ (∀ k, k < N → parseFieldDescriptor (T k).2.2.1 = some (jtyc ci k)) ∧ Cond.classLink own index C ∈ jtb ∧ Cond.instantiable C N ∈ jtb ∧ Cond.initialized C ∈ jtb
theorem jg_new {index ci N : Nat} (hd : decode y.2.1 pc = .ok (.new index, 3)) (hf : jnl y.1.cls index ci N) (hk : 1 ≤ k) (hn : N ≤ n) (K : jG g y (pc + 3) lv (.inr (.inr (some (jz h))) :: st) (jmk h (ci + 1) 0) (k - 1) (n - N) Q) : jG g y pc lv st h k n Q := by
  intro p e s m args below meth c H locs cells slots mc ms ls C hH hS hc hs hL
  obtain ⟨Cn, T, h1, h2, h3, hty, h4, h5, h6⟩ := hf
  have hts := C.2.2.2.2.2.1
  have hK := C.2.2.2.2.2.2.2.2.2.1.1
  have hKn := hK.1 ci _ h1
  refine W.newcK C.1 C.2.1 C.2.2.2.2.1 (hts _ h4) (hts _ h5) (hts _ h6) rfl hd (show cells + 1 ≤ mc by omega) (show slots + N ≤ ms by omega) hKn.2.1 hH.1 fun H1 kC hkC e1 e2 e3 => ?_
  have ob := u_born (jtyc ci) hts h3 hKn hkC e1 hty
  have hci := jcl_lt h1
  refine K p e s m args below meth c H1 locs (cells + 1) (slots + N) mc ms ls C (hH.more (Or.inl ⟨ci, rfl, hci, ?_⟩) e2 e3) ⟨Nat.le_trans hS.1 (by rw [hH.1, e2]; omega), fun q q1 q2 => (e3 q (by have := hS.1; rw [hH.1] at this; omega)).trans (hS.2.1 q q1 q2), hS.2.2⟩ (by omega) (by omega) hL
  rw [← h2]
  refine ob.to fun k' hk' => ?_
  have hdd := jdef ci hci k' (by rw [← h2]; exact hk')
  unfold jf
  rcases jkd_le (jtyc ci k') with hz | hz | hz
  · rw [hz, hdd.1 hz]; simp [jmk, ji, jw]
  · rw [hz, hdd.2.1 hz]; simp [jmk, jl, jw]
  · rw [hz, hdd.2.2 hz]; simp [jmk, jr, jw, va_rf]
theorem jg_newa {at0 : ArrayType} {t : Nat} {i : Int32} (hd : decode y.2.1 pc = .ok (.newarray at0, 2)) (h5 : t < 5) (hw : Cond.arrayClass (newarray.typeOf at0) ∈ jtb) (hty : (jtys g)[t]? = some (jgA g t, newarray.typeOf at0)) (hdv : ∀ N, (fun _ => defaultValue (newarray.typeOf at0)) = jrow (jmk h (t + 20) N) t (jz h)) (hi : ¬ i < 0) (hb : i.toNatClampNeg * componentBytes (newarray.typeOf at0) ≤ 536870912)
    (hk : 1 ≤ k) (hn : i.toNatClampNeg ≤ n) (K : jG g y (pc + 2) lv (.inr (.inr (some (jz h))) :: st) (jmk h (t + 20) i.toNatClampNeg) (k - 1) (n - i.toNatClampNeg) Q) : jG g y pc lv (.inl i :: st) h k n Q := by
  intro p e s m args below meth c H locs cells slots mc ms ls C hH hS hc hs hL
  have hts := C.2.2.2.2.2.1
  have hK := C.2.2.2.2.2.2.2.2.2.1.1
  refine va_newaK C.1 C.2.1 (hts _ hw) rfl hd rfl hi rfl hb (show cells + 1 ≤ mc by omega) (show slots + i.toNatClampNeg ≤ ms by omega) hH.1 fun H1 cA e1 e2 e3 hAr hNm => ?_
  have hcA : cA = jgA g t := by
    have hra := (hK.2 t _ hty).2
    have : s.vm.findClass ("[" ++ (newarray.typeOf at0).toString) = some (jgA g t) := by cases at0 <;> exact hra
    exact Option.some.inj (hNm.symm.trans this)
  subst hcA
  refine K p e s m args below meth c H1 locs (cells + 1) (slots + i.toNatClampNeg) mc ms ls C (hH.more (Or.inr ⟨t, rfl, h5, ?_⟩) e2 e3) ⟨Nat.le_trans hS.1 (by rw [hH.1, e2]; omega), fun q q1 q2 => (e3 q (by have := hS.1; rw [hH.1] at this; omega)).trans (hS.2.1 q q1 q2), hS.2.2⟩ (by omega) (by omega) hL
  rw [e1, hdv]
theorem jg_newI {i : Int32} (hd : decode y.2.1 pc = .ok (.newarray .int, 2)) (hw : Cond.arrayClass .int ∈ jtb) (hi : ¬ i < 0) (hb : i.toNatClampNeg * 4 ≤ 536870912) (hk : 1 ≤ k) (hn : i.toNatClampNeg ≤ n) (K : jG g y (pc + 2) lv (.inr (.inr (some (jz h))) :: st) (jmk h 20 i.toNatClampNeg) (k - 1) (n - i.toNatClampNeg) Q) : jG g y pc lv (.inl i :: st) h k n Q :=
  jg_newa (t := 0) hd (by decide) hw rfl (fun N => by funext j; simp [jrow, jmk, jI]; rfl) hi hb hk hn K
theorem jg_newB {i : Int32} (hd : decode y.2.1 pc = .ok (.newarray .byte, 2)) (hw : Cond.arrayClass .byte ∈ jtb) (hi : ¬ i < 0) (hb : i.toNatClampNeg * 1 ≤ 536870912) (hk : 1 ≤ k) (hn : i.toNatClampNeg ≤ n) (K : jG g y (pc + 2) lv (.inr (.inr (some (jz h))) :: st) (jmk h 21 i.toNatClampNeg) (k - 1) (n - i.toNatClampNeg) Q) : jG g y pc lv (.inl i :: st) h k n Q :=
  jg_newa (t := 1) hd (by decide) hw rfl (fun N => by funext j; simp [jrow, jmk, jI]; rfl) hi hb hk hn K
theorem jg_newZ {i : Int32} (hd : decode y.2.1 pc = .ok (.newarray .boolean, 2)) (hw : Cond.arrayClass .boolean ∈ jtb) (hi : ¬ i < 0) (hb : i.toNatClampNeg * 1 ≤ 536870912) (hk : 1 ≤ k) (hn : i.toNatClampNeg ≤ n) (K : jG g y (pc + 2) lv (.inr (.inr (some (jz h))) :: st) (jmk h 24 i.toNatClampNeg) (k - 1) (n - i.toNatClampNeg) Q) : jG g y pc lv (.inl i :: st) h k n Q :=
  jg_newa (t := 4) hd (by decide) hw rfl (fun N => by funext j; simp [jrow, jmk, jI]; rfl) hi hb hk hn K
theorem jg_newJ {i : Int32} (hd : decode y.2.1 pc = .ok (.newarray .long, 2)) (hw : Cond.arrayClass .long ∈ jtb) (hi : ¬ i < 0) (hb : i.toNatClampNeg * 8 ≤ 536870912) (hk : 1 ≤ k) (hn : i.toNatClampNeg ≤ n) (K : jG g y (pc + 2) lv (.inr (.inr (some (jz h))) :: st) (jmk h 22 i.toNatClampNeg) (k - 1) (n - i.toNatClampNeg) Q) : jG g y pc lv (.inl i :: st) h k n Q :=
  jg_newa (t := 2) hd (by decide) hw rfl (fun N => by funext j; simp [jrow, jmk, jL]; rfl) hi hb hk hn K
theorem jg_newR {index : Nat} {i : Int32} (hd : decode y.2.1 pc = .ok (.anewarray index, 3)) (hw : Cond.classLink y.1.cls index RX0 ∈ jtb) (hi : ¬ i < 0) (hb : i.toNatClampNeg * 4 ≤ 536870912) (hk : 1 ≤ k) (hn : i.toNatClampNeg ≤ n) (K : jG g y (pc + 3) lv (.inr (.inr (some (jz h))) :: st) (jmk h 23 i.toNatClampNeg) (k - 1) (n - i.toNatClampNeg) Q) : jG g y pc lv (.inl i :: st) h k n Q := by
  intro p e s m args below meth c H locs cells slots mc ms ls C hH hS hc hs hL
  have hts := C.2.2.2.2.2.1
  have hK := C.2.2.2.2.2.2.2.2.2.1.1
  have hAO := C.2.2.2.2.2.2.2.2.2.1.2.2.2.2.2.2.2.2.1
  refine W.anew C.1 C.2.1 C.2.2.2.2.1 (hts _ hw) (va_AO.use hAO) rfl hd rfl hi hb (show cells + 1 ≤ mc by omega) (show slots + i.toNatClampNeg ≤ ms by omega) fun cA kA comp f1 f2 f3 f4 => ?_
  have hcA : cA = jgA g 3 := by
    obtain ⟨kA', comp', z1, z2, z3, z4⟩ := (hK.2 3 _ (jtys_at g).2.2.2.1).2
    exact Option.some.inj (f1.symm.trans z4)
  subst hcA
  have e3 : ∀ q, q < jz h → (H.push { cls := jgA g 3, slots := Array.replicate i.toNatClampNeg .null, vm := .none })[q]? = H[q]? := fun q hq => by
    rw [Array.getElem?_push, if_neg (by rw [hH.1]; exact Nat.ne_of_lt hq)]
  have e2 : (H.push { cls := jgA g 3, slots := Array.replicate i.toNatClampNeg Value.null, vm := .none }).size = jz h + 1 := by rw [Array.size_push, hH.1]
  have hzz : Value.ref H.size = Value.ref (jz h) := by rw [hH.1]
  rw [hzz]
  refine K p e s m args below meth c _ locs (cells + 1) (slots + i.toNatClampNeg) mc ms ls C (hH.more (Or.inr ⟨3, rfl, by decide, ?_⟩) e2 e3) ⟨Nat.le_trans hS.1 (by rw [hH.1, e2]; omega), fun q q1 q2 => (e3 q (by have := hS.1; rw [hH.1] at this; omega)).trans (hS.2.1 q q1 q2), hS.2.2⟩ (by omega) (by omega) hL
  have e1 : (H.push { cls := jgA g 3, slots := Array.replicate i.toNatClampNeg Value.null, vm := .none })[jz h]? = some { cls := jgA g 3, slots := Array.replicate i.toNatClampNeg Value.null, vm := .none } := by
    rw [← hH.1]; simp
  rw [e1]
  congr 1
  have hr : jrow (jmk h (3 + 20) i.toNatClampNeg) 3 (jz h) = fun _ => Value.null := by
    funext j
    simp [jrow, jmk, jR, va_rf]
  rw [hr]
  unfold arrV
  congr 1
  apply Array.ext
  · simp
  · intro j h1 h2; simp
/-- Object's constructor -/
theorem jg_objInit {o : Option Nat} {index : Nat} (hd : decode y.2.1 pc = .ok (.invokespecial index, 3)) (ho : ¬ o = none) (h1 : Cond.methodLink y.1.cls index Lib.objectInit ∈ jtb) (h2 : Cond.instanceMethod Lib.objectInit ∈ jtb) (h3 : Cond.code Lib.objectInit ⟨#[0xb1]⟩ 1 none ∈ jtb) (hf : 1 ≤ y.2.2.2.2.1) (hl : ((st.map jw).map fun v => v.category).sum + 12 ≤ y.2.2.2.2.2)
    (K : jG g y (pc + 3) lv st h k n Q) : jG g y pc lv (.inr (.inr o) :: st) h k n Q := by
  intro p e s m args below meth c H locs cells slots mc ms ls C hH hS hc hs hL
  have hts := C.2.2.2.2.2.1
  generalize hA : jd o = a at *
  have ho' : o = some a := by rw [← hA]; exact jd_some ho
  subst ho'
  refine W.objInit C.1 C.2.1 C.2.2.2.2.1 (hts _ h1) (hts _ h2) (hts _ h3) rfl (hL.1.trans C.2.2.2.1.symm) rfl hd hf ?_ (K p e s m args below meth c H locs cells slots mc ms ls C hH hS hc hs hL)
  show 2 * 0 + _ + 12 ≤ _
  rw [Nat.mul_zero, Nat.zero_add]
  exact hl
/-- returns -/
theorem jg_iret {x : Int32} (hd : decode y.2.1 pc = .ok (.ireturn, 1)) (hr : y.2.2.2.1 = some .int) (hq : Q (.inl (some (.inl x))) h) : jG g y pc lv [.inl x] h k n Q := by
  intro p e s m args below meth c H locs cells slots mc ms ls C hH hS hc hs hL
  refine vx_ret (W.widen (k := mc) (n := ms) (by omega) (by omega) ?_)
  exact W.iret (v := x) C.1 C.2.1 (C.2.2.1.trans hr) (fun t ht hW => ⟨⟨_, h, rfl, hq, by rw [ht]; exact hH⟩, hS.F ht⟩) hS.2.2 hd C.2.2.2.2.2.2.1
theorem jg_zret {x : Int32} {ty : FieldType} (hd : decode y.2.1 pc = .ok (.ireturn, 1)) (hr : y.2.2.2.1 = some ty) (hx : narrow ty (.int x) = .int x) (hq : Q (.inl (some (.inl x))) h) : jG g y pc lv [.inl x] h k n Q := by
  intro p e s m args below meth c H locs cells slots mc ms ls C hH hS hc hs hL
  refine vx_ret (W.widen (k := mc) (n := ms) (by omega) (by omega) ?_)
  exact W.zret (v := x) C.1 C.2.1 (C.2.2.1.trans hr) hx (fun t ht hW => ⟨⟨_, h, rfl, hq, by rw [ht]; exact hH⟩, hS.F ht⟩) hS.2.2 hd C.2.2.2.2.2.2.1
theorem jg_bret {x : Int32} (hd : decode y.2.1 pc = .ok (.ireturn, 1)) (hr : y.2.2.2.1 = some .boolean) (hx : x = 0 ∨ x = 1) (hq : Q (.inl (some (.inl x))) h) : jG g y pc lv [.inl x] h k n Q :=
  jg_zret hd hr (by rcases hx with rfl | rfl <;> rfl) hq
theorem jg_lret {x : Int64} (hd : decode y.2.1 pc = .ok (.lreturn, 1)) (hr : y.2.2.2.1 = some .long) (hq : Q (.inl (some (.inr (.inl x)))) h) : jG g y pc lv [.inr (.inl x)] h k n Q := by
  intro p e s m args below meth c H locs cells slots mc ms ls C hH hS hc hs hL
  refine vx_ret (W.widen (k := mc) (n := ms) (by omega) (by omega) ?_)
  exact W.lret (v := x) C.1 C.2.1 (C.2.2.1.trans hr) (fun t ht hW => ⟨⟨_, h, rfl, hq, by rw [ht]; exact hH⟩, hS.F ht⟩) hS.2.2 hd C.2.2.2.2.2.2.1
theorem jg_aret {o : Option Nat} {cn : String} (hd : decode y.2.1 pc = .ok (.areturn, 1)) (hr : y.2.2.2.1 = some (.object cn)) (hq : Q (.inl (some (.inr (.inr o)))) h) : jG g y pc lv [.inr (.inr o)] h k n Q := by
  intro p e s m args below meth c H locs cells slots mc ms ls C hH hS hc hs hL
  refine vx_ret (W.widen (k := mc) (n := ms) (by omega) (by omega) ?_)
  exact W.aret (v := va_rf o) C.1 C.2.1 (C.2.2.1.trans hr) (Or.inl ⟨cn, rfl⟩) (by cases o with | none => exact Or.inl rfl | some a => exact Or.inr ⟨a, rfl⟩) (fun t ht hW => ⟨⟨_, h, rfl, hq, by rw [ht]; exact hH⟩, hS.F ht⟩) hS.2.2 hd C.2.2.2.2.2.2.1
theorem jg_vret (hd : decode y.2.1 pc = .ok (.return_, 1)) (hr : y.2.2.2.1 = none) (hq : Q (.inl none) h) : jG g y pc lv [] h k n Q := by
  intro p e s m args below meth c H locs cells slots mc ms ls C hH hS hc hs hL
  refine vx_ret (W.widen (k := mc) (n := ms) (by omega) (by omega) ?_)
  exact W.vret C.1 C.2.1 (C.2.2.1.trans hr) (fun t ht hW => ⟨⟨none, h, rfl, hq, by rw [ht]; exact hH⟩, hS.F ht⟩) hS.2.2 hd C.2.2.2.2.2.2.1
end JCe
end
section
/-! rows of jG: calls, throws -/
def jki (K : Int32 → jh → Prop) (X : Nat → jh → Prop) : jq := fun r h => match r with
  | .inl (some (.inl x)) => K x h
  | .inl _ => False
  | .inr e => X e h
def jkl (K : Int64 → jh → Prop) (X : Nat → jh → Prop) : jq := fun r h => match r with
  | .inl (some (.inr (.inl x))) => K x h
  | .inl _ => False
  | .inr e => X e h
def jkr (K : Option Nat → jh → Prop) (X : Nat → jh → Prop) : jq := fun r h => match r with
  | .inl (some (.inr (.inr x))) => K x h
  | .inl _ => False
  | .inr e => X e h
def jkv (K : jh → Prop) (X : Nat → jh → Prop) : jq := fun r h => match r with
  | .inl none => K h
  | .inl _ => False
  | .inr e => X e h
def jk (K : Option jv → jh → Prop) (X : Nat → jh → Prop) : jq := fun r h => match r with
  | .inl v => K v h
  | .inr e => X e h
theorem jM.mono {g : jg} {y : jm} {as : List jv} {h : jh} {mc ms : Nat} {Q Q' : jq} (hQ : ∀ r h, Q r h → Q' r h) (hM : jM g y as h mc ms Q) : jM g y as h mc ms Q' := by
  refine MetFree.mono hM (fun _ _ z => z) (fun _ _ _ _ _ z => z) ?_
  intro a s o s' _ hq
  rcases hq with ⟨⟨⟨r, h', q1, q2, q3⟩, q4⟩, q5⟩ | ⟨q, q0, E, ce, L, ⟨⟨x, h', q1, q2, q3⟩, q4⟩, q5⟩
  · exact Or.inl ⟨⟨⟨r, h', q1, hQ _ _ q2, q3⟩, q4⟩, q5⟩
  · exact Or.inr ⟨q, q0, E, ce, L, ⟨⟨x, h', q1, hQ _ _ q2, q3⟩, q4⟩, q5⟩
theorem jki_mono {K K' : Int32 → jh → Prop} {X X' : Nat → jh → Prop} (hK : ∀ x h, K x h → K' x h) (hX : ∀ e h, X e h → X' e h) : ∀ r h, jki K X r h → jki K' X' r h := by
  intro r h
  match r with
  | .inl (some (.inl x)) => exact hK x h
  | .inl none => exact fun z => z
  | .inl (some (.inr x)) => exact fun z => z
  | .inr e => exact hX e h
theorem jkl_mono {K K' : Int64 → jh → Prop} {X X' : Nat → jh → Prop} (hK : ∀ x h, K x h → K' x h) (hX : ∀ e h, X e h → X' e h) : ∀ r h, jkl K X r h → jkl K' X' r h := by
  intro r h
  match r with
  | .inl (some (.inr (.inl x))) => exact hK x h
  | .inl none => exact fun z => z
  | .inl (some (.inl x)) => exact fun z => z
  | .inl (some (.inr (.inr x))) => exact fun z => z
  | .inr e => exact hX e h
theorem jkr_mono {K K' : Option Nat → jh → Prop} {X X' : Nat → jh → Prop} (hK : ∀ x h, K x h → K' x h) (hX : ∀ e h, X e h → X' e h) : ∀ r h, jkr K X r h → jkr K' X' r h := by
  intro r h
  match r with
  | .inl (some (.inr (.inr x))) => exact hK x h
  | .inl none => exact fun z => z
  | .inl (some (.inl x)) => exact fun z => z
  | .inl (some (.inr (.inl x))) => exact fun z => z
  | .inr e => exact hX e h
theorem jkv_mono {K K' : jh → Prop} {X X' : Nat → jh → Prop} (hK : ∀ h, K h → K' h) (hX : ∀ e h, X e h → X' e h) : ∀ r h, jkv K X r h → jkv K' X' r h := by
  intro r h
  match r with
  | .inl none => exact hK h
  | .inl (some x) => exact fun z => z
  | .inr e => exact hX e h
theorem jki_k {K : Int32 → jh → Prop} {K' : Option jv → jh → Prop} {X : Nat → jh → Prop} (hK : ∀ x h, K x h → K' (some (.inl x)) h) : ∀ r h, jki K X r h → jk K' X r h := by
  intro r h
  match r with
  | .inl (some (.inl x)) => exact hK x h
  | .inl none => exact fun z => z.elim
  | .inl (some (.inr x)) => exact fun z => z.elim
  | .inr e => exact fun z => z
theorem jkl_k {K : Int64 → jh → Prop} {K' : Option jv → jh → Prop} {X : Nat → jh → Prop} (hK : ∀ x h, K x h → K' (some (.inr (.inl x))) h) : ∀ r h, jkl K X r h → jk K' X r h := by
  intro r h
  match r with
  | .inl (some (.inr (.inl x))) => exact hK x h
  | .inl none => exact fun z => z.elim
  | .inl (some (.inl x)) => exact fun z => z.elim
  | .inl (some (.inr (.inr x))) => exact fun z => z.elim
  | .inr e => exact fun z => z
theorem jkr_k {K : Option Nat → jh → Prop} {K' : Option jv → jh → Prop} {X : Nat → jh → Prop} (hK : ∀ x h, K x h → K' (some (.inr (.inr x))) h) : ∀ r h, jkr K X r h → jk K' X r h := by
  intro r h
  match r with
  | .inl (some (.inr (.inr x))) => exact hK x h
  | .inl none => exact fun z => z.elim
  | .inl (some (.inl x)) => exact fun z => z.elim
  | .inl (some (.inr (.inl x))) => exact fun z => z.elim
  | .inr e => exact fun z => z
theorem jkv_k {K : jh → Prop} {K' : Option jv → jh → Prop} {X : Nat → jh → Prop} (hK : ∀ h, K h → K' none h) : ∀ r h, jkv K X r h → jk K' X r h := by
  intro r h
  match r with
  | .inl none => exact hK h
  | .inl (some x) => exact fun z => z.elim
  | .inr e => exact fun z => z
/-- a call's links: virtual (of class ci), static, a constructor -/
def jcc (own : String) (index : Nat) (x : jm) (n : Nat) : Prop := Cond.methodLink own index x.1 ∈ jtb ∧ Cond.initialized x.1.cls ∈ jtb ∧ Cond.code x.1 x.2.1 x.2.2.1 x.2.2.2.1 ∈ jtb ∧ (x.1.cls ≠ "java/lang/invoke/MethodHandle" ∧ x.1.cls ≠ "java/lang/invoke/VarHandle" ∧ (parseMethodDescriptor x.1.desc).map (fun d => d.parameters.length) = some n)
def jcv (own : String) (index : Nat) (x : jm) (n ci : Nat) : Prop := jcc own index x n ∧ Cond.instanceMethod x.1 ∈ jtb ∧ Cond.selects x.1.cls x.1 x.1 ∈ jtb ∧ ∃ q, jcl[ci]? = some q ∧ q.1 = x.1.cls
def jcs (own : String) (index : Nat) (x : jm) (n : Nat) : Prop := jcc own index x n ∧ Cond.static x.1 ∈ jtb
def jci (own : String) (index : Nat) (x : jm) (n : Nat) : Prop := jcc own index x n ∧ Cond.instanceMethod x.1 ∈ jtb ∧ x.1.name = "<init>" ∧ x.2.2.2.1 = none
def jcn (own : String) (index : Nat) (x : jm) (n : Nat) : Prop := (∃ host, (own, index, x.1, host) ∈ jnst) ∧ Cond.initialized x.1.cls ∈ jtb ∧ Cond.code x.1 x.2.1 x.2.2.1 x.2.2.2.1 ∈ jtb ∧ (x.1.cls ≠ "java/lang/invoke/MethodHandle" ∧ x.1.cls ≠ "java/lang/invoke/VarHandle" ∧ (parseMethodDescriptor x.1.desc).map (fun d => d.parameters.length) = some n) ∧ Cond.instanceMethod x.1 ∈ jtb ∧ x.1.name = "<init>" ∧ x.2.2.2.1 = none
/-- the callee's room in the caller's -/
def jrr (y x : jm) (rest : List jv) : Prop := (x.2.2.2.2.1 + 1 ≤ y.2.2.2.2.1 ∧ 8 + (x.2.2.1 + 11) + x.2.2.2.2.2 ≤ y.2.2.2.2.2) ∧ ((rest.map jw).map fun v => v.category).sum ≤ 8
section JCa
variable {g : jg} {y : jm} {pc : Nat} {lv : List (Nat × jv)} {st : List jv} {h : jh} {k n : Nat} {Q : jq}
theorem jg_run {p : Program} {e : Env} {s : State} {m : MethodId} {args : Array Value} {below : List Frame} {meth : Method} {c : Code} {H : Heap} {locs : List Loc} {cells slots mc ms mcx msx : Nat} {ls : Array Slot} {a : Array Value} {rest : List jv} {st0 : List Value}
    (C : jC g y p s m args meth c) (hS : va_S (jA g) s.heap H locs) (hc : cells + k ≤ mc) (hs : slots + n ≤ ms) (hL : lv_has ls y.2.2.1 (jlv lv)) (hk : mcx ≤ k) (hn : msx ≤ n)
    (hr : vx_Run p g.1 e (jrm y mc ms) s m args below meth c H locs cells slots mcx msx (F0 m pc ls st0) (rest.map jw) (jQ g (jk (fun v h' => jG g y (pc + 3) lv (v.toList ++ rest) h' (k - mcx) (n - msx) Q) (fun e h' => Q (.inr e) h')) a) (jX g (jk (fun v h' => jG g y (pc + 3) lv (v.toList ++ rest) h' (k - mcx) (n - msx) Q) (fun e h' => Q (.inr e) h'))) (jA g)) :
    W p g.1 e (jrm y mc ms) s m args below meth c H locs cells slots (vx_MQ below (jQ g Q) (jX g Q) args s mc ms (jA g)) (F0 m pc ls st0) := by
  intro T hT X
  rcases hr T hT X with ⟨v, st₀, t, T', L, h0, X', hLf, e1, e2, ⟨⟨r, h', hv, hQ, hH'⟩, hF⟩, go⟩ | ⟨q, st₀, t, T', L, E, ce, h0, X', hLf, e1, e2, ⟨⟨x, h', hE, hQ, hH'⟩, hF⟩, hce, hcv, hcl, go⟩
  · obtain ⟨k1, k2, k3⟩ := vx_keep h0 e1 hS (fun _ _ z => z) (fun _ z => z) hLf hF
    have hv' : v = r.map jw := by cases hv; rfl
    subst hv'
    have hG : jG g y (pc + 3) lv (r.toList ++ rest) h' (k - mcx) (n - msx) Q := hQ
    obtain ⟨t2, a1, b1⟩ := hG p e s m args below meth c T'.heap (locs ++ L) (cells + mcx) (slots + msx) mc ms ls C (by rw [e1]; exact hH') k3 (by omega) (by omega) hL T' rfl X'
    refine ⟨t2, go t2 ?_, b1⟩
    have : (r.map jw).toList ++ rest.map jw = (r.toList ++ rest).map jw := by cases r <;> simp
    show Steps p.tables e below (T'.setTop { method := m, pc := pc + 3, locals := ls, stack := (r.map jw).toList ++ rest.map jw, locked := none }) t2
    rw [this]
    exact a1
  · obtain ⟨k1, k2, k3⟩ := vx_keep h0 e1 hS (fun _ _ z => z) (fun _ z => z) hLf hF
    have hQx : Q (.inr x) h' := hQ
    have hout : vx_W p g.1 e (jrm y mc ms) s m args below meth c T'.heap (locs ++ L) (cells + mcx) (slots + msx) (vx_MQ below (jQ g Q) (jX g Q) args s mc ms (jA g)) (F0 m pc ls (rest.map jw)) q :=
      vx_out (fun x hx => (C.2.2.2.2.2.2.2.2.1 x hx).elim) C.2.2.2.2.2.2.1 (by rw [e1]; exact hce) hcv hcl (fun t9 ht9 _ => ⟨⟨x, h', hE, hQx, by rw [ht9, e1]; exact hH'⟩, k3.F ht9⟩) k3.2.2 (by omega) (by omega)
    obtain ⟨t2, a1, b1⟩ := hout T' rfl X'
    exact ⟨t2, go.trans a1, b1⟩
theorem jP.now {s U : State} {H : Heap} {locs : List Loc} {as : List jv} (hH : jH g h H) (hJ : jS g s) (hS : va_S (jA g) s.heap H locs) (hb : jgb g ≤ s.heap.size) (hU : U.heap = H) (hW : s.WarmedH U.vm) : jP g as h (as.map jw).toArray U :=
  ⟨rfl, by rw [hU]; exact hH, hJ.warm hW (fun a h1 h2 => by rw [hU]; exact hS.2.1 a h1 h2) hb⟩
theorem jg_callV (x : jm) (as rest : List jv) {b index ci mcx msx : Nat} (hd : decode y.2.1 pc = .ok (.invokevirtual index, 3)) (hst : st = as.reverse ++ .inr (.inr (some b)) :: rest) (hl : jcv y.1.cls index x as.length ci) (hR : jrr y x rest) (hb : jt h b = ci + 1) (hk : mcx ≤ k) (hn : msx ≤ n)
    (hM : jM g x (.inr (.inr (some b)) :: as) h mcx msx (jk (fun v h' => jG g y (pc + 3) lv (v.toList ++ rest) h' (k - mcx) (n - msx) Q) (fun e h' => Q (.inr e) h'))) : jG g y pc lv st h k n Q := by
  subst hst
  intro p e s m args below meth c H locs cells slots mc ms ls C hH hS hc hs hL
  obtain ⟨⟨h1, h2, h3, h4⟩, h5, h6, q, h7, h8⟩ := hl
  have hts := C.2.2.2.2.2.1
  have hcb := callB_of (R := jrm y mc ms) (own := y.1.cls) (index := index) (rm := jrm x mcx msx) (mc := mcx) (ms := msx) (ret := x.2.2.2.1) as.length hts (jtb_good h3) rfl rfl rfl (hts _ h2) (hts _ h1) h4 hR.1
  obtain ⟨cell, q1, q2, q3, q4⟩ := hH.2.2.2.1 b ci hb (jcl_lt h7)
  have hr := vx_runV (g := F0 m pc ls ((as.reverse ++ .inr (.inr (some b)) :: rest).map jw)) (rest := rest.map jw) (As := as.map jw) (b := b) (C := x.1.cls) (locs := locs) (cells := cells) (slots := slots) (below := below) (e := e) (H := H) (meth := meth) (nL := y.2.2.1) (Ts := jtb) ⟨C.1, C.2.1, C.2.2.2.1, C.2.2.2.2.1, hts⟩ hM ⟨hcb, hts _ h5, hts _ h6⟩
    ⟨jP.blind g _ h, ⟨cell, q1, by rw [q3]; rfl, by rw [q2, ← h8]; exact (C.2.2.2.2.2.2.2.2.2.1.1.1 ci q h7).2.1⟩, fun U hU hW => jP.now hH C.2.2.2.2.2.2.2.2.2.1 hS C.2.2.2.2.2.2.2.2.2.2.2 hU hW⟩
    rfl (by simp) hL.1 (by simp [jw, va_rf]) (lv_room hR.2) hd ⟨(by show cells + mcx ≤ mc; omega), (by show slots + msx ≤ ms; omega)⟩
  exact jg_run C hS hc hs hL hk hn hr
theorem jg_callS (x : jm) (as rest : List jv) {index mcx msx : Nat} (hd : decode y.2.1 pc = .ok (.invokestatic index, 3)) (hst : st = as.reverse ++ rest) (hl : jcs y.1.cls index x as.length) (hR : jrr y x rest) (hk : mcx ≤ k) (hn : msx ≤ n)
    (hM : jM g x as h mcx msx (jk (fun v h' => jG g y (pc + 3) lv (v.toList ++ rest) h' (k - mcx) (n - msx) Q) (fun e h' => Q (.inr e) h'))) : jG g y pc lv st h k n Q := by
  subst hst
  intro p e s m args below meth c H locs cells slots mc ms ls C hH hS hc hs hL
  obtain ⟨⟨h1, h2, h3, h4⟩, h5⟩ := hl
  have hts := C.2.2.2.2.2.1
  have hcb := callB_of (R := jrm y mc ms) (own := y.1.cls) (index := index) (rm := jrm x mcx msx) (mc := mcx) (ms := msx) (ret := x.2.2.2.1) as.length hts (jtb_good h3) rfl rfl rfl (hts _ h2) (hts _ h1) h4 hR.1
  have hr := vx_runS (g := F0 m pc ls ((as.reverse ++ rest).map jw)) (rest := rest.map jw) (As := as.map jw) (locs := locs) (cells := cells) (slots := slots) (below := below) (e := e) (H := H) (meth := meth) (nL := y.2.2.1) (Ts := jtb) ⟨C.1, C.2.1, C.2.2.2.1, C.2.2.2.2.1, hts⟩ hM ⟨hcb, hts _ h5⟩
    ⟨jP.blind g _ h, fun U hU hW => jP.now hH C.2.2.2.2.2.2.2.2.2.1 hS C.2.2.2.2.2.2.2.2.2.2.2 hU hW⟩
    rfl (by simp) hL.1 (by simp) (lv_room hR.2) hd ⟨(by show cells + mcx ≤ mc; omega), (by show slots + msx ≤ ms; omega)⟩
  exact jg_run C hS hc hs hL hk hn hr
/-- a contract that throws nothing, as the kit's Met -/
theorem jM.met {x : jm} {as : List jv} {mc ms : Nat} {K : Option jv → jh → Prop} (hM : jM g x as h mc ms (jk K (fun _ _ => False))) : Met g.1 x.1 (jws x) (jrm x mc ms) (jP g as h) (jQ g (jk K (fun _ _ => False))) mc ms (jA g) := by
  refine MetFree.mono hM (fun _ _ z => z) (fun _ _ _ _ _ z => z) ?_
  intro a s o s' _ hq
  rcases hq with hq | ⟨q, q0, E, ce, L, ⟨⟨x, h', q1, q2, q3⟩, q4⟩, q5⟩
  · exact hq
  · exact q2.elim
theorem jg_runM {p : Program} {e : Env} {s : State} {m : MethodId} {args : Array Value} {below : List Frame} {meth : Method} {c : Code} {H : Heap} {locs : List Loc} {cells slots mc ms mcx msx : Nat} {ls : Array Slot} {a : Array Value} {rest : List jv} {st0 : List Value}
    (C : jC g y p s m args meth c) (hS : va_S (jA g) s.heap H locs) (hc : cells + k ≤ mc) (hs : slots + n ≤ ms) (hL : lv_has ls y.2.2.1 (jlv lv)) (hk : mcx ≤ k) (hn : msx ≤ n)
    (hr : va_Run p g.1 e (jrm y mc ms) s m args below meth c H locs cells slots mcx msx (F0 m pc ls st0) (rest.map jw) (jQ g (jk (fun v h' => jG g y (pc + 3) lv (v.toList ++ rest) h' (k - mcx) (n - msx) Q) (fun _ _ => False)) a) (jA g)) :
    W p g.1 e (jrm y mc ms) s m args below meth c H locs cells slots (vx_MQ below (jQ g Q) (jX g Q) args s mc ms (jA g)) (F0 m pc ls st0) := by
  intro T hT X
  obtain ⟨v, st₀, t, T', L, h0, X', hLf, e1, e2, ⟨⟨r, h', hv, hQ, hH'⟩, hF⟩, go⟩ := hr T hT X
  obtain ⟨k1, k2, k3⟩ := vx_keep h0 e1 hS (fun _ _ z => z) (fun _ z => z) hLf hF
  have hv' : v = r.map jw := by cases hv; rfl
  subst hv'
  have hG : jG g y (pc + 3) lv (r.toList ++ rest) h' (k - mcx) (n - msx) Q := hQ
  obtain ⟨t2, a1, b1⟩ := hG p e s m args below meth c T'.heap (locs ++ L) (cells + mcx) (slots + msx) mc ms ls C (by rw [e1]; exact hH') k3 (by omega) (by omega) hL T' rfl X'
  refine ⟨t2, go t2 ?_, b1⟩
  have : (r.map jw).toList ++ rest.map jw = (r.toList ++ rest).map jw := by cases r <;> simp
  show Steps p.tables e below (T'.setTop { method := m, pc := pc + 3, locals := ls, stack := (r.map jw).toList ++ rest.map jw, locked := none }) t2
  rw [this]
  exact a1
theorem jg_callI (x : jm) (as rest : List jv) {b index mcx msx : Nat} (hd : decode y.2.1 pc = .ok (.invokespecial index, 3)) (hst : st = as.reverse ++ .inr (.inr (some b)) :: rest) (hl : jci y.1.cls index x as.length) (hR : jrr y x rest) (hk : mcx ≤ k) (hn : msx ≤ n)
    (hM : jM g x (.inr (.inr (some b)) :: as) h mcx msx (jk (fun v h' => jG g y (pc + 3) lv (v.toList ++ rest) h' (k - mcx) (n - msx) Q) (fun _ _ => False))) : jG g y pc lv st h k n Q := by
  subst hst
  intro p e s m args below meth c H locs cells slots mc ms ls C hH hS hc hs hL
  obtain ⟨⟨h1, h2, h3, h4⟩, h5, h6, h7⟩ := hl
  have hts := C.2.2.2.2.2.1
  have hcb := callB_of (R := jrm y mc ms) (own := y.1.cls) (index := index) (rm := jrm x mcx msx) (mc := mcx) (ms := msx) (ret := x.2.2.2.1) as.length hts (jtb_good h3) rfl rfl rfl (hts _ h2) (hts _ h1) h4 hR.1
  rw [h7] at hcb
  have hr := va_runI (g := F0 m pc ls ((as.reverse ++ .inr (.inr (some b)) :: rest).map jw)) (rest := rest.map jw) (As := as.map jw) (b := b) (locs := locs) (cells := cells) (slots := slots) (below := below) (e := e) (H := H) (meth := meth) (nL := y.2.2.1) (Ts := jtb) ⟨C.1, C.2.1, C.2.2.2.1, C.2.2.2.2.1, hts⟩ hM.met ⟨hcb, h6, hts _ h5⟩
    ⟨jP.blind g _ h, fun U hU hW => jP.now hH C.2.2.2.2.2.2.2.2.2.1 hS C.2.2.2.2.2.2.2.2.2.2.2 hU hW⟩
    rfl (by simp) hL.1 (by simp [jw, va_rf]) (lv_room hR.2) hd ⟨(by show cells + mcx ≤ mc; omega), (by show slots + msx ≤ ms; omega)⟩
  exact jg_runM C hS hc hs hL hk hn hr
theorem jg_callN (x : jm) (as rest : List jv) {b index mcx msx : Nat} (hd : decode y.2.1 pc = .ok (.invokespecial index, 3)) (hst : st = as.reverse ++ .inr (.inr (some b)) :: rest) (hl : jcn y.1.cls index x as.length) (hR : jrr y x rest) (hk : mcx ≤ k) (hn : msx ≤ n)
    (hM : jM g x (.inr (.inr (some b)) :: as) h mcx msx (jk (fun v h' => jG g y (pc + 3) lv (v.toList ++ rest) h' (k - mcx) (n - msx) Q) (fun _ _ => False))) : jG g y pc lv st h k n Q := by
  subst hst
  intro p e s m args below meth c H locs cells slots mc ms ls C hH hS hc hs hL
  obtain ⟨⟨host, h1⟩, h2, h3, h4, h5, h6, h7⟩ := hl
  have hts := C.2.2.2.2.2.1
  have hcb := va_cnB (R := jrm y mc ms) (own := y.1.cls) (index := index) (rm := jrm x mcx msx) (mc := mcx) (ms := msx) (ret := x.2.2.2.1) as.length hts (jtb_good h3) rfl rfl rfl (C.2.2.2.2.2.2.2.2.2.1.2.2.2.2.1 _ h1) (hts _ h2) h4 hR.1
  rw [h7] at hcb
  have hr := va_runIN (g := F0 m pc ls ((as.reverse ++ .inr (.inr (some b)) :: rest).map jw)) (rest := rest.map jw) (As := as.map jw) (b := b) (locs := locs) (cells := cells) (slots := slots) (below := below) (e := e) (H := H) (meth := meth) (nL := y.2.2.1) (Ts := jtb) ⟨C.1, C.2.1, C.2.2.2.1, C.2.2.2.2.1, hts⟩ hM.met ⟨hcb, h6, hts _ h5⟩
    ⟨jP.blind g _ h, fun U hU hW => jP.now hH C.2.2.2.2.2.2.2.2.2.1 hS C.2.2.2.2.2.2.2.2.2.2.2 hU hW⟩
    rfl (by simp) hL.1 (by simp [jw, va_rf]) (lv_room hR.2) hd ⟨(by show cells + mcx ≤ mc; omega), (by show slots + msx ≤ ms; omega)⟩
  exact jg_runM C hS hc hs hL hk hn hr
end JCa
end
section
/-! rows of jG: 'throw new E("text")' -/
/-- the links of a throw: class, text, constructor; exception x of jxn -/
def jtw (own : String) (ik is ic x : Nat) (names : List String) (text : String) : Prop :=
  Bundle.fit (jxn x) = true ∧ (∀ n ∈ names, Bundle.fit n = true) ∧ Cond.classLink own ik (jxn x) ∈ jtb ∧ Cond.initialized (jxn x) ∈ jtb ∧ Cond.stringRef own is text ∈ lw_tbl ∧
  (∀ w ∈ vx_atS own ic (jxn x) names, w ∈ jtb ∨ w = Cond.castable (jxn x) (jxn x) ∨ ∃ q ∈ jdcl, w = Cond.declares q) ∧ (jxn x, jxn x) ∈ jcst ∧ (∀ w ∈ Cond.classLink own ik (jxn x) :: Cond.initialized (jxn x) :: vx_atS own ic (jxn x) names, vx_ot w = true)
theorem jH.grow {g : jg} {h : jh} {H H' : Heap} (hH : jH g h H) (e2 : H.size ≤ H'.size) (e3 : ∀ q, q < H.size → H'[q]? = H[q]?) : jH g (jgr h H'.size) H' := by
  obtain ⟨a1, a2, a3, a4, a5⟩ := hH
  refine ⟨rfl, Nat.le_trans a2 (by rw [← a1]; exact e2), fun b hb => ⟨(a3 b hb).1, Nat.lt_of_lt_of_le (a3 b hb).2 (by rw [← a1]; exact e2)⟩, fun b cj hb hcj => ?_, fun b t' hb h5' => ?_⟩
  · have hlt : b < H.size := by rw [a1]; exact (a3 b (by show jt h b ≠ 0; have : jt h b = cj + 1 := hb; omega)).2
    exact (a4 b cj hb hcj).kept (e3 b hlt)
  · have hlt : b < H.size := by rw [a1]; exact (a3 b (by show jt h b ≠ 0; have : jt h b = t' + 20 := hb; omega)).2
    rw [e3 b hlt]
    exact a5 b t' hb h5'
theorem jg_throw {g : jg} {y : jm} {pc : Nat} {lv : List (Nat × jv)} {st : List jv} {h : jh} {k n : Nat} {Q : jq} (x : Nat) (names : List String) (text : String) {ik is ic : Nat}
    (d0 : decode y.2.1 pc = .ok (.new ik, 3)) (d3 : decode y.2.1 (pc + 3) = .ok (.dup, 1)) (d4 : decode y.2.1 (pc + 4) = .ok (.ldc is, 2)) (d6 : decode y.2.1 (pc + 6) = .ok (.invokespecial ic, 3)) (d9 : decode y.2.1 (pc + 9) = .ok (.athrow, 1))
    (hl : jtw y.1.cls ik is ic x names text) (hf : names.length + 3 < y.2.2.2.2.1) (hlo : ((st.map jw).map fun v => v.category).sum + (13 * (names.length + 1) + 43) ≤ y.2.2.2.2.2) (hk : 1 ≤ k) (hn : 6 ≤ n)
    (hQ : ∀ z, jz h ≤ z → Q (.inr x) (jgr h z)) : jG g y pc lv st h k n Q := by
  intro p e s m args below meth c H locs cells slots mc ms ls C hH hS hc hs hL
  obtain ⟨t1, t2, t3, t4, t5, t6, t7, t8⟩ := hl
  have hts := C.2.2.2.2.2.1
  obtain ⟨-, z2, z3, z4, -, z6, -, -, -, -, z11⟩ := C.2.2.2.2.2.2.2.2.2.1
  obtain ⟨sa, hsa⟩ := z6 _ _ _ t5
  refine vx_throwS (names := names) (ik := ik) (ic := ic) (is := is) C.1 C.2.1 C.2.2.2.2.2.2.2.2.2.2.1 C.2.2.2.2.1 t1 t2 (hts _ t3) (hts _ t4) hsa (fun w hw => ?_) t8 z2 z3 hS (hL.1.trans C.2.2.2.1.symm) d0 d3 d4 d6 d9 (fun x hx => (C.2.2.2.2.2.2.2.2.1 x hx).elim) hf hlo (show cells + 1 ≤ mc by omega) (show slots + 6 ≤ ms by omega) C.2.2.2.2.2.2.1 (fun t _ w1 w2 => ?_) hS.2.2 (by omega) (by omega)
  · rcases t6 w hw with hw | rfl | ⟨q, hq, rfl⟩
    · exact hts _ hw
    · exact va_Nw.use rfl (z4 _ t7)
    · exact va_Nw.use rfl (z11 q hq)
  · refine ⟨⟨x, jgr h t.heap.size, rfl, hQ _ (by rw [← hH.1]; exact w1), hH.grow w1 w2⟩, Nat.le_trans hS.1 w1, fun q q1 q2 => ?_⟩
    rw [w2 q (Nat.lt_of_lt_of_le q1 hS.1)]
    exact hS.2.1 q q1 q2
end
section
theorem jcat1 (v : jv) : (jw v).category ≤ 2 := by
  rcases v with x | x | x
  · exact Nat.le_of_ble_eq_true rfl
  · exact Nat.le_of_ble_eq_true rfl
  · cases x <;> exact Nat.le_of_ble_eq_true rfl
/-- at most four values lie below a call -/
theorem jcat_le (st : List jv) (h : st.length ≤ 4) : ((st.map jw).map fun v => v.category).sum ≤ 8 := by
  have : ∀ l : List jv, ((l.map jw).map fun v => v.category).sum ≤ 2 * l.length := by
    intro l
    induction l with
    | nil => simp
    | cons a t ih =>
      have := jcat1 a
      simp only [List.map_cons, List.sum_cons, List.length_cons]
      omega
  have := this st
  omega
end
section
/-! methods, links (by program) -/
theorem jtb_at {w : Cond} (i : Nat) (h : lw_tbl[i]? = some w) (hg : goodWord w = true) : w ∈ jtb := jtb_mem (List.mem_of_getElem? h) hg
theorem jtb_r {ws : List Cond} (ps : List Nat) (hp : ws = ps.filterMap (fun i => lw_tbl[i]?)) (h : ws.all goodWord = true) : ∀ w ∈ ws, w ∈ jtb := by
  intro w hw
  have h1 := List.all_eq_true.mp h w hw
  rw [hp] at hw
  obtain ⟨i, -, hi⟩ := List.mem_filterMap.mp hw
  exact jtb_mem (List.mem_of_getElem? hi) h1
theorem jsn {a : Nat} : ¬ some a = none := fun q => by cases q
theorem jd_s (a : Nat) : jd (some a) = a := rfl
theorem jfp.nf {y : jm} {index ci k : Nat} (h : jfl y.1.cls index ci k) (hf : ∀ q, jcl[ci]? = some q → (q.2.1 k).2.2.2 = false) : jfp y index ci k := by
  obtain ⟨C, T, N, h1, h2, h3, h4, h5, h6, h7, h8⟩ := h
  exact ⟨C, T, N, h1, h2, h3, h4, h5, h6, h7, h8, Or.inl (hf _ h1)⟩
theorem jfp.fin {y : jm} {index ci k : Nat} (h : jfl y.1.cls index ci k) (hf : ∀ q, jcl[ci]? = some q → (q.2.1 k).2.2.2 = true ∧ q.1 = y.1.cls) (hn : y.1.name = "<init>") : jfp y index ci k := by
  obtain ⟨C, T, N, h1, h2, h3, h4, h5, h6, h7, h8⟩ := h
  exact ⟨C, T, N, h1, h2, h3, h4, h5, h6, h7, h8, Or.inr ⟨(hf _ h1).1, hn, (hf _ h1).2⟩⟩
section JNm
variable {g : jg} {y : jm} {pc : Nat} {lv : List (Nat × jv)} {st : List jv} {h h' : jh} {k n : Nat} {Q : jq}
theorem jp_puti {o : Option Nat} {index ci fk : Nat} {x : Int32} (hd : decode y.2.1 pc = .ok (.putfield index, 3)) (hf : jfp y index ci fk) (hk : jtyc ci fk = .int) (ho : ¬ o = none) (ht : jt h (jd o) = ci + 1) (he : h' = jsi h (64 * ci + fk) (jd o) x) (K : jG g y (pc + 3) lv st h' k n Q) : jG g y pc lv (.inl x :: .inr (.inr o) :: st) h k n Q := by
  subst he
  exact jg_puti hd hf hk ho ht K
theorem jp_putz {o : Option Nat} {index ci fk : Nat} {x : Int32} (hd : decode y.2.1 pc = .ok (.putfield index, 3)) (hf : jfp y index ci fk) (hk : jtyc ci fk = .boolean) (ho : ¬ o = none) (ht : jt h (jd o) = ci + 1) (hx : x = 0 ∨ x = 1) (he : h' = jsi h (64 * ci + fk) (jd o) x) (K : jG g y (pc + 3) lv st h' k n Q) : jG g y pc lv (.inl x :: .inr (.inr o) :: st) h k n Q := by
  subst he
  exact jg_putz hd hf hk ho ht hx K
theorem jp_putl {o : Option Nat} {index ci fk : Nat} {x : Int64} (hd : decode y.2.1 pc = .ok (.putfield index, 3)) (hf : jfp y index ci fk) (hk : jtyc ci fk = .long) (ho : ¬ o = none) (ht : jt h (jd o) = ci + 1) (he : h' = jsl h (64 * ci + fk) (jd o) x) (K : jG g y (pc + 3) lv st h' k n Q) : jG g y pc lv (.inr (.inl x) :: .inr (.inr o) :: st) h k n Q := by
  subst he
  exact jg_putl hd hf hk ho ht K
theorem jp_putr {o : Option Nat} {index ci fk : Nat} {x : Option Nat} (hd : decode y.2.1 pc = .ok (.putfield index, 3)) (hf : jfp y index ci fk) (hk : jkd (jtyc ci fk) = 2) (ho : ¬ o = none) (ht : jt h (jd o) = ci + 1) (he : h' = jsr h (64 * ci + fk) (jd o) x) (K : jG g y (pc + 3) lv st h' k n Q) : jG g y pc lv (.inr (.inr x) :: .inr (.inr o) :: st) h k n Q := by
  subst he
  exact jg_putr hd hf hk ho ht K
theorem jp_iast {o : Option Nat} {i : Int32} {x : Int32} (hd : decode y.2.1 pc = .ok (.iastore, 1)) (ho : ¬ o = none) (ht : jt h (jd o) = 20) (hi : vp_in i (jn h (jd o))) (he : h' = jsI h (jd o) i.toNatClampNeg x) (K : jG g y (pc + 1) lv st h' k n Q) : jG g y pc lv (.inl x :: .inl i :: .inr (.inr o) :: st) h k n Q := by
  subst he
  exact jg_iast hd ho ht hi K
theorem jp_bast {o : Option Nat} {i : Int32} {x : Int32} (hd : decode y.2.1 pc = .ok (.bastore, 1)) (ho : ¬ o = none) (ht : jt h (jd o) = 21) (hi : vp_in i (jn h (jd o))) (he : h' = jsI h (jd o) i.toNatClampNeg x.toInt8.toInt32) (K : jG g y (pc + 1) lv st h' k n Q) : jG g y pc lv (.inl x :: .inl i :: .inr (.inr o) :: st) h k n Q := by
  subst he
  exact jg_bast hd ho ht hi K
theorem jp_zast {o : Option Nat} {i : Int32} {x : Int32} (hd : decode y.2.1 pc = .ok (.bastore, 1)) (ho : ¬ o = none) (ht : jt h (jd o) = 24) (hi : vp_in i (jn h (jd o))) (hx : x = 0 ∨ x = 1) (he : h' = jsI h (jd o) i.toNatClampNeg x) (K : jG g y (pc + 1) lv st h' k n Q) : jG g y pc lv (.inl x :: .inl i :: .inr (.inr o) :: st) h k n Q := by
  subst he
  exact jg_zast hd ho ht hi hx K
theorem jp_last {o : Option Nat} {i : Int32} {x : Int64} (hd : decode y.2.1 pc = .ok (.lastore, 1)) (ho : ¬ o = none) (ht : jt h (jd o) = 22) (hi : vp_in i (jn h (jd o))) (he : h' = jsL h (jd o) i.toNatClampNeg x) (K : jG g y (pc + 1) lv st h' k n Q) : jG g y pc lv (.inr (.inl x) :: .inl i :: .inr (.inr o) :: st) h k n Q := by
  subst he
  exact jg_last hd ho ht hi K
theorem jp_aast {o : Option Nat} {i : Int32} {v : Nat} (hd : decode y.2.1 pc = .ok (.aastore, 1)) (ho : ¬ o = none) (ht : jt h (jd o) = 23) (hi : vp_in i (jn h (jd o))) (hv : jt h v = 1) (he : h' = jsR h (jd o) i.toNatClampNeg (some v)) (K : jG g y (pc + 1) lv st h' k n Q) : jG g y pc lv (.inr (.inr (some v)) :: .inl i :: .inr (.inr o) :: st) h k n Q := by
  subst he
  exact jg_aast hd ho ht hi hv K
theorem jp_new {index ci N : Nat} (hd : decode y.2.1 pc = .ok (.new index, 3)) (hf : jnl y.1.cls index ci N) (hk : 1 ≤ k) (hn : N ≤ n) (he : h' = jmk h (ci + 1) 0) (K : jG g y (pc + 3) lv (.inr (.inr (some (jz h))) :: st) h' (k - 1) (n - N) Q) : jG g y pc lv st h k n Q := by
  subst he
  exact jg_new hd hf hk hn K
theorem jp_newI {i : Int32} (hd : decode y.2.1 pc = .ok (.newarray .int, 2)) (hw : Cond.arrayClass .int ∈ jtb) (hi : ¬ i < 0) (hb : i.toNatClampNeg * 4 ≤ 536870912) (hk : 1 ≤ k) (hn : i.toNatClampNeg ≤ n) (he : h' = jmk h 20 i.toNatClampNeg) (K : jG g y (pc + 2) lv (.inr (.inr (some (jz h))) :: st) h' (k - 1) (n - i.toNatClampNeg) Q) : jG g y pc lv (.inl i :: st) h k n Q := by
  subst he
  exact jg_newI hd hw hi hb hk hn K
theorem jp_newB {i : Int32} (hd : decode y.2.1 pc = .ok (.newarray .byte, 2)) (hw : Cond.arrayClass .byte ∈ jtb) (hi : ¬ i < 0) (hb : i.toNatClampNeg * 1 ≤ 536870912) (hk : 1 ≤ k) (hn : i.toNatClampNeg ≤ n) (he : h' = jmk h 21 i.toNatClampNeg) (K : jG g y (pc + 2) lv (.inr (.inr (some (jz h))) :: st) h' (k - 1) (n - i.toNatClampNeg) Q) : jG g y pc lv (.inl i :: st) h k n Q := by
  subst he
  exact jg_newB hd hw hi hb hk hn K
theorem jp_newZ {i : Int32} (hd : decode y.2.1 pc = .ok (.newarray .boolean, 2)) (hw : Cond.arrayClass .boolean ∈ jtb) (hi : ¬ i < 0) (hb : i.toNatClampNeg * 1 ≤ 536870912) (hk : 1 ≤ k) (hn : i.toNatClampNeg ≤ n) (he : h' = jmk h 24 i.toNatClampNeg) (K : jG g y (pc + 2) lv (.inr (.inr (some (jz h))) :: st) h' (k - 1) (n - i.toNatClampNeg) Q) : jG g y pc lv (.inl i :: st) h k n Q := by
  subst he
  exact jg_newZ hd hw hi hb hk hn K
theorem jp_newJ {i : Int32} (hd : decode y.2.1 pc = .ok (.newarray .long, 2)) (hw : Cond.arrayClass .long ∈ jtb) (hi : ¬ i < 0) (hb : i.toNatClampNeg * 8 ≤ 536870912) (hk : 1 ≤ k) (hn : i.toNatClampNeg ≤ n) (he : h' = jmk h 22 i.toNatClampNeg) (K : jG g y (pc + 2) lv (.inr (.inr (some (jz h))) :: st) h' (k - 1) (n - i.toNatClampNeg) Q) : jG g y pc lv (.inl i :: st) h k n Q := by
  subst he
  exact jg_newJ hd hw hi hb hk hn K
theorem jp_newR {index : Nat} {i : Int32} (hd : decode y.2.1 pc = .ok (.anewarray index, 3)) (hw : Cond.classLink y.1.cls index RX0 ∈ jtb) (hi : ¬ i < 0) (hb : i.toNatClampNeg * 4 ≤ 536870912) (hk : 1 ≤ k) (hn : i.toNatClampNeg ≤ n) (he : h' = jmk h 23 i.toNatClampNeg) (K : jG g y (pc + 3) lv (.inr (.inr (some (jz h))) :: st) h' (k - 1) (n - i.toNatClampNeg) Q) : jG g y pc lv (.inl i :: st) h k n Q := by
  subst he
  exact jg_newR hd hw hi hb hk hn K
theorem jp_callV (x : jm) (as rest : List jv) {o : Option Nat} {index ci mcx msx : Nat} (hd : decode y.2.1 pc = .ok (.invokevirtual index, 3)) (hst : st = as.reverse ++ .inr (.inr o) :: rest) (hl : jcv y.1.cls index x as.length ci) (hR : jrr y x rest) (ho : ¬ o = none) (hb : jt h (jd o) = ci + 1) (hk : mcx ≤ k) (hn : msx ≤ n)
    (hM : jM g x (.inr (.inr (some (jd o))) :: as) h mcx msx (jk (fun v h' => jG g y (pc + 3) lv (v.toList ++ rest) h' (k - mcx) (n - msx) Q) (fun e h' => Q (.inr e) h'))) : jG g y pc lv st h k n Q :=
  jg_callV x as rest hd (hst.trans (by rw [← jd_some ho])) hl hR hb hk hn hM
end JNm
abbrev mX0_init : jm := (yX0_init, cX0_init, 6, none, 2, 40)
abbrev mX0_isNumber : jm := (yX0_isNumber, cX0_isNumber, 1, some .boolean, 1, 20)
abbrev mX0_isInner : jm := (yX0_isInner, cX0_isInner, 1, some .boolean, 0, 0)
abbrev mX0_lies : jm := (yX0_lies, cX0_lies, 1, some .boolean, 0, 0)
abbrev mX0_isBelow : jm := (yX0_isBelow, cX0_isBelow, 3, some .boolean, 0, 0)
abbrev mX0_liesInRedefining : jm := (yX0_liesInRedefining, cX0_liesInRedefining, 2, some .boolean, 0, 0)
abbrev mX0_tablesWithin : jm := (yX0_tablesWithin, cX0_tablesWithin, 3, some .int, 0, 0)
abbrev mX0_tableOutwards : jm := (yX0_tableOutwards, cX0_tableOutwards, 4, some (.object "DataLayout$Table"), 0, 0)
abbrev mX0_length : jm := (yX0_length, cX0_length, 1, some .long, 0, 0)
abbrev mX0_lengthNow : jm := (yX0_lengthNow, cX0_lengthNow, 2, some .long, 1, 20)
abbrev mX0_extent : jm := (yX0_extent, cX0_extent, 1, some .long, 1, 20)
abbrev mX1_isLevel : jm := (yX1_isLevel, cX1_isLevel, 1, some .boolean, 0, 0)
abbrev mX1_isUsage : jm := (yX1_isUsage, cX1_isUsage, 3, some .boolean, 1, 20)
abbrev mX1_isNumeric : jm := (yX1_isNumeric, cX1_isNumeric, 1, some .boolean, 0, 0)
abbrev mX1_isClause : jm := (yX1_isClause, cX1_isClause, 3, some .boolean, 0, 0)
abbrev mX1_bytesOf : jm := (yX1_bytesOf, cX1_bytesOf, 2, some .int, 0, 0)
abbrev mX2_hasRoomFor : jm := (yX2_hasRoomFor, cX2_hasRoomFor, 5, some .boolean, 0, 0)
abbrev mX2_write : jm := (yX2_write, cX2_write, 3, none, 3, 72)
abbrev mX2_writeBinary : jm := (yX2_writeBinary, cX2_writeBinary, 8, none, 2, 43)
abbrev mX2_writePacked : jm := (yX2_writePacked, cX2_writePacked, 10, none, 2, 43)
abbrev mX2_writeDigits : jm := (yX2_writeDigits, cX2_writeDigits, 9, none, 2, 43)
abbrev mX2_signedDigit : jm := (yX2_signedDigit, cX2_signedDigit, 1, some .int, 0, 0)
abbrev mX2_signByte : jm := (yX2_signByte, cX2_signByte, 2, some .int, 0, 0)
abbrev mX2_read : jm := (yX2_read, cX2_read, 3, some .long, 9, 152)
abbrev mX2_readBinary : jm := (yX2_readBinary, cX2_readBinary, 6, some .long, 2, 42)
abbrev mX2_readPacked : jm := (yX2_readPacked, cX2_readPacked, 8, some .long, 7, 103)
abbrev mX2_halfByte : jm := (yX2_halfByte, cX2_halfByte, 4, some .int, 2, 42)
abbrev mX2_readDigits : jm := (yX2_readDigits, cX2_readDigits, 10, some .long, 8, 123)
abbrev mX2_readsMinus : jm := (yX2_readsMinus, cX2_readsMinus, 1, some .boolean, 7, 103)
abbrev mX3_init : jm := (yX3_init, cX3_init, 2, none, 1, 20)
abbrev mX3_layAll : jm := (yX3_layAll, cX3_layAll, 4, none, 4, 86)
abbrev mX3_gatherUnits : jm := (yX3_gatherUnits, cX3_gatherUnits, 3, none, 1, 21)
abbrev mX3_begin : jm := (yX3_begin, cX3_begin, 5, none, 2, 44)
abbrev mX3_beginOfRecord : jm := (yX3_beginOfRecord, cX3_beginOfRecord, 3, some .long, 1, 22)
abbrev mX3_beginBelow : jm := (yX3_beginBelow, cX3_beginBelow, 2, some .long, 0, 0)
abbrev mX3_isLaterExternal : jm := (yX3_isLaterExternal, cX3_isLaterExternal, 2, some .boolean, 1, 22)
abbrev mX3_finishUpTo : jm := (yX3_finishUpTo, cX3_finishUpTo, 4, none, 3, 63)
abbrev mX3_finish : jm := (yX3_finish, cX3_finish, 4, none, 2, 40)
abbrev mX3_placeParts : jm := (yX3_placeParts, cX3_placeParts, 3, none, 0, 0)
abbrev mX3_markMoving : jm := (yX3_markMoving, cX3_markMoving, 4, none, 0, 0)
abbrev mX3_firstWrong : jm := (yX3_firstWrong, cX3_firstWrong, 2, some .int, 4, 82)
abbrev mX3_isRight : jm := (yX3_isRight, cX3_isRight, 2, some .boolean, 3, 61)
abbrev mX3_isRightPart : jm := (yX3_isRightPart, cX3_isRightPart, 5, some .boolean, 1, 22)
abbrev mX3_isLastOfRecord : jm := (yX3_isLastOfRecord, cX3_isLastOfRecord, 4, some .boolean, 1, 22)
abbrev mX3_fitsOver : jm := (yX3_fitsOver, cX3_fitsOver, 2, some .boolean, 2, 40)
abbrev mX3_fitsFirstOfName : jm := (yX3_fitsFirstOfName, cX3_fitsFirstOfName, 3, some .boolean, 1, 22)
abbrev mX3_roundUp : jm := (yX3_roundUp, cX3_roundUp, 3, some .long, 0, 0)
abbrev mX4_init : jm := (yX4_init, cX4_init, 1, none, 1, 20)
abbrev mX4_add : jm := (yX4_add, cX4_add, 3, some .boolean, 0, 0)
abbrev mX4_contain : jm := (yX4_contain, cX4_contain, 4, some .boolean, 0, 0)
abbrev mX5_init : jm := (yX5_init, cX5_init, 1, none, 1, 20)
abbrev mX6_init : jm := (yX6_init, cX6_init, 1, none, 1, 20)
abbrev mX6_clear : jm := (yX6_clear, cX6_clear, 3, none, 1, 21)
abbrev mX6_has : jm := (yX6_has, cX6_has, 2, some .boolean, 0, 0)
abbrev mX6_get : jm := (yX6_get, cX6_get, 2, some .int, 1, 21)
abbrev mX6_put : jm := (yX6_put, cX6_put, 3, none, 1, 21)
abbrev mX6_repeat : jm := (yX6_repeat, cX6_repeat, 6, none, 1, 21)
abbrev mX7_init : jm := (yX7_init, cX7_init, 4, none, 1, 20)
abbrev mX8_init : jm := (yX8_init, cX8_init, 1, none, 1, 20)
abbrev mX8_find : jm := (yX8_find, cX8_find, 2, some (.object "DataLayout$Item"), 0, 0)
abbrev mX8_add : jm := (yX8_add, cX8_add, 7, none, 3, 65)
abbrev mX8_hasPlaceFor : jm := (yX8_hasPlaceFor, cX8_hasPlaceFor, 3, some .boolean, 3, 63)
abbrev mX8_around : jm := (yX8_around, cX8_around, 2, some (.object "DataLayout$Item"), 2, 42)
abbrev mX8_latestTopRecord : jm := (yX8_latestTopRecord, cX8_latestTopRecord, 2, some (.object "DataLayout$Item"), 1, 21)
abbrev mX8_latestNotNaming : jm := (yX8_latestNotNaming, cX8_latestNotNaming, 2, some (.object "DataLayout$Item"), 0, 0)
abbrev mX8_latestOfLesserLevel : jm := (yX8_latestOfLesserLevel, cX8_latestOfLesserLevel, 4, some (.object "DataLayout$Item"), 0, 0)
abbrev mX8_mayBeTable : jm := (yX8_mayBeTable, cX8_mayBeTable, 5, some .boolean, 1, 22)
abbrev mX8_mayRedefine : jm := (yX8_mayRedefine, cX8_mayRedefine, 3, some .boolean, 2, 45)
abbrev mX8_allBetweenRedefine : jm := (yX8_allBetweenRedefine, cX8_allBetweenRedefine, 5, some .boolean, 0, 0)
abbrev mX8_hasValues : jm := (yX8_hasValues, cX8_hasValues, 4, some .boolean, 1, 22)
abbrev mX8_firstOfName : jm := (yX8_firstOfName, cX8_firstOfName, 3, some (.object "DataLayout$Item"), 0, 0)
abbrev mX8_records : jm := (yX8_records, cX8_records, 3, some .int, 0, 0)
abbrev mX8_tables : jm := (yX8_tables, cX8_tables, 3, some .int, 0, 0)
abbrev mX8_slackBytes : jm := (yX8_slackBytes, cX8_slackBytes, 3, some .int, 0, 0)
abbrev mX9_init : jm := (yX9_init, cX9_init, 1, none, 2, 41)
abbrev mX9_item : jm := (yX9_item, cX9_item, 4, some .int, 4, 91)
abbrev mX9_clause : jm := (yX9_clause, cX9_clause, 6, some .int, 4, 92)
abbrev mX9_lay : jm := (yX9_lay, cX9_lay, 2, some .int, 5, 117)
abbrev mX9_place : jm := (yX9_place, cX9_place, 4, some .int, 1, 22)
abbrev mX9_size : jm := (yX9_size, cX9_size, 4, some .int, 2, 41)
abbrev mX9_subscript : jm := (yX9_subscript, cX9_subscript, 13, some .int, 7, 103)
abbrev mX9_checks : jm := (yX9_checks, cX9_checks, 2, some .int, 0, 0)
abbrev mX9_depending : jm := (yX9_depending, cX9_depending, 5, some .int, 1, 21)
abbrev mX9_redefines : jm := (yX9_redefines, cX9_redefines, 5, some .int, 3, 67)
abbrev mX9_refer : jm := (yX9_refer, cX9_refer, 6, some .int, 2, 41)
abbrev mX9_slack : jm := (yX9_slack, cX9_slack, 4, some .int, 1, 22)
abbrev mX9_external : jm := (yX9_external, cX9_external, 4, some .int, 1, 21)
abbrev mX9_at : jm := (yX9_at, cX9_at, 2, some .byte, 7, 103)
abbrev mX9_octet : jm := (yX9_octet, cX9_octet, 3, some .int, 2, 43)
abbrev mX9_holds : jm := (yX9_holds, cX9_holds, 5, some .boolean, 10, 174)
abbrev mX9_count : jm := (yX9_count, cX9_count, 2, some .int, 1, 22)
abbrev mX9_refusalFor : jm := (yX9_refusalFor, cX9_refusalFor, 3, some .int, 0, 0)
abbrev mX9_tellClause : jm := (yX9_tellClause, cX9_tellClause, 5, some .boolean, 3, 68)
abbrev mX9_tellTable : jm := (yX9_tellTable, cX9_tellTable, 3, some .boolean, 2, 46)
abbrev mX9_tellSynchronised : jm := (yX9_tellSynchronised, cX9_tellSynchronised, 1, some .boolean, 0, 0)
abbrev mX9_tellValue : jm := (yX9_tellValue, cX9_tellValue, 2, some .boolean, 2, 40)
abbrev mX9_tellRange : jm := (yX9_tellRange, cX9_tellRange, 3, some .boolean, 2, 40)
abbrev mX9_tellPart : jm := (yX9_tellPart, cX9_tellPart, 3, some .boolean, 1, 22)
abbrev mX9_fillFirstEntries : jm := (yX9_fillFirstEntries, cX9_fillFirstEntries, 4, none, 4, 94)
abbrev mX9_fillText : jm := (yX9_fillText, cX9_fillText, 5, none, 2, 43)
abbrev mX9_fillOtherEntries : jm := (yX9_fillOtherEntries, cX9_fillOtherEntries, 3, none, 2, 46)
abbrev mX10_init : jm := (yX10_init, cX10_init, 1, none, 1, 20)
abbrev mX10_thrown : jm := (yX10_thrown, cX10_thrown, 1, some .int, 0, 0)
abbrev mX10_is : jm := (yX10_is, cX10_is, 2, some .boolean, 0, 0)
abbrev mX10_lies : jm := (yX10_lies, cX10_lies, 2, some .boolean, 0, 0)
abbrev mX10_isBelow : jm := (yX10_isBelow, cX10_isBelow, 4, some .boolean, 0, 0)
abbrev mX10_isSize : jm := (yX10_isSize, cX10_isSize, 2, some .boolean, 0, 0)
abbrev mX10_above : jm := (yX10_above, cX10_above, 4, some .int, 1, 21)
abbrev mX10_named : jm := (yX10_named, cX10_named, 2, some .int, 0, 0)
abbrev mX10_item : jm := (yX10_item, cX10_item, 7, some .int, 2, 44)
abbrev mX10_isRedefined : jm := (yX10_isRedefined, cX10_isRedefined, 4, some .boolean, 0, 0)
abbrev mX10_isAside : jm := (yX10_isAside, cX10_isAside, 3, some .boolean, 0, 0)
abbrev mX10_tablesUp : jm := (yX10_tablesUp, cX10_tablesUp, 5, some .int, 0, 0)
abbrev mX10_mayBeTable : jm := (yX10_mayBeTable, cX10_mayBeTable, 7, some .boolean, 1, 24)
abbrev mX10_digitsOf : jm := (yX10_digitsOf, cX10_digitsOf, 4, some .int, 0, 0)
abbrev mX10_isPart : jm := (yX10_isPart, cX10_isPart, 3, some .boolean, 0, 0)
abbrev mX10_isClause : jm := (yX10_isClause, cX10_isClause, 3, some .boolean, 0, 0)
abbrev mX10_clause : jm := (yX10_clause, cX10_clause, 6, some .int, 2, 50)
abbrev mX10_redefines : jm := (yX10_redefines, cX10_redefines, 4, some .int, 1, 23)
abbrev mX10_external : jm := (yX10_external, cX10_external, 3, some .int, 1, 23)
abbrev mX10_depending : jm := (yX10_depending, cX10_depending, 3, some .int, 1, 21)
abbrev mX10_bytesOf : jm := (yX10_bytesOf, cX10_bytesOf, 3, some .int, 0, 0)
abbrev mX10_up : jm := (yX10_up, cX10_up, 3, some .long, 0, 0)
abbrev mX10_firstOf : jm := (yX10_firstOf, cX10_firstOf, 3, some .int, 0, 0)
abbrev mX10_close : jm := (yX10_close, cX10_close, 3, none, 1, 22)
abbrev mX10_layAll : jm := (yX10_layAll, cX10_layAll, 5, none, 2, 47)
abbrev mX10_begin : jm := (yX10_begin, cX10_begin, 6, none, 1, 22)
abbrev mX10_alignment : jm := (yX10_alignment, cX10_alignment, 2, some .int, 0, 0)
abbrev mX10_hasBelow : jm := (yX10_hasBelow, cX10_hasBelow, 4, some .boolean, 1, 21)
abbrev mX10_isBadPart : jm := (yX10_isBadPart, cX10_isBadPart, 6, some .boolean, 1, 24)
abbrev mX10_isLast : jm := (yX10_isLast, cX10_isLast, 4, some .boolean, 1, 23)
abbrev mX10_isWrong : jm := (yX10_isWrong, cX10_isWrong, 2, some .boolean, 2, 49)
abbrev mX10_lay : jm := (yX10_lay, cX10_lay, 3, some .int, 3, 76)
abbrev mX10_findAround : jm := (yX10_findAround, cX10_findAround, 4, none, 1, 24)
abbrev mX10_fillAll : jm := (yX10_fillAll, cX10_fillAll, 10, none, 2, 47)
abbrev mX10_fill : jm := (yX10_fill, cX10_fill, 9, none, 0, 0)
abbrev mX10_refused : jm := (yX10_refused, cX10_refused, 3, some .int, 1, 21)
abbrev mX10_placeOf : jm := (yX10_placeOf, cX10_placeOf, 2, some .long, 0, 0)
abbrev mX10_sizeOf : jm := (yX10_sizeOf, cX10_sizeOf, 4, some .long, 1, 23)
abbrev mX10_place : jm := (yX10_place, cX10_place, 3, some .int, 2, 43)
abbrev mX10_size : jm := (yX10_size, cX10_size, 3, some .int, 2, 46)
abbrev mX10_subscript : jm := (yX10_subscript, cX10_subscript, 10, some .int, 2, 47)
abbrev mX10_checks : jm := (yX10_checks, cX10_checks, 2, some .int, 0, 0)
abbrev mX10_refer : jm := (yX10_refer, cX10_refer, 5, some .int, 2, 46)
abbrev mX10_slack : jm := (yX10_slack, cX10_slack, 3, some .int, 2, 43)
abbrev mX10_at : jm := (yX10_at, cX10_at, 2, some .byte, 0, 0)
abbrev mX10_octet : jm := (yX10_octet, cX10_octet, 3, some .int, 0, 0)
abbrev mX10_isDigit : jm := (yX10_isDigit, cX10_isDigit, 2, some .boolean, 0, 0)
abbrev mX10_says : jm := (yX10_says, cX10_says, 8, some .boolean, 1, 26)
abbrev mX10_saysPacked : jm := (yX10_saysPacked, cX10_saysPacked, 7, some .boolean, 0, 0)
abbrev mX10_holds : jm := (yX10_holds, cX10_holds, 4, some .boolean, 2, 53)
abbrev mX10_count : jm := (yX10_count, cX10_count, 5, some .int, 0, 0)
abbrev mJ9_abs_067f4 : jm := (yJ9_abs_067f4, cJ9_abs_067f4, 2, some .long, 0, 0)
abbrev mJ9_max_7cf53 : jm := (yJ9_max_7cf53, cJ9_max_7cf53, 2, some .int, 0, 0)
abbrev mJ9_max_f86c9 : jm := (yJ9_max_f86c9, cJ9_max_f86c9, 4, some .long, 0, 0)
abbrev mJ9_min_7cf53 : jm := (yJ9_min_7cf53, cJ9_min_7cf53, 2, some .int, 0, 0)
abbrev mL_subscript : jm := (yL_subscript, cL_subscript, 7, some .int, 8, 135)
abbrev mL_at : jm := (yL_at, cL_at, 4, some .int, 8, 124)
abbrev mL_holds : jm := (yL_holds, cL_holds, 4, some .int, 11, 198)
abbrev mL_law : jm := (yL_law, cL_law, 7, some .boolean, 13, 486)
theorem jinX0 : ∀ w ∈ u_ws RX0 TX0 20, w ∈ jtb := jtb_r [297, 299, 301, 303, 305, 307, 309, 311, 313, 315, 317, 319, 321, 323, 325, 327, 329, 331, 333, 335] (by decide +kernel) (by decide +kernel)
theorem jinX3 : ∀ w ∈ u_ws RX3 TX3 2, w ∈ jtb := jtb_r [110, 112] (by decide +kernel) (by decide +kernel)
theorem jinX4 : ∀ w ∈ u_ws RX4 TX4 3, w ∈ jtb := jtb_r [430, 432, 434] (by decide +kernel) (by decide +kernel)
theorem jinX5 : ∀ w ∈ u_ws RX5 TX5 6, w ∈ jtb := jtb_r [223, 225, 227, 229, 231, 233] (by decide +kernel) (by decide +kernel)
theorem jinX6 : ∀ w ∈ u_ws RX6 TX6 2, w ∈ jtb := jtb_r [124, 126] (by decide +kernel) (by decide +kernel)
theorem jinX7 : ∀ w ∈ u_ws RX7 TX7 5, w ∈ jtb := jtb_r [372, 374, 376, 378, 380] (by decide +kernel) (by decide +kernel)
theorem jinX8 : ∀ w ∈ u_ws RX8 TX8 2, w ∈ jtb := jtb_r [96, 98] (by decide +kernel) (by decide +kernel)
theorem jinX9 : ∀ w ∈ u_ws RX9 TX9 6, w ∈ jtb := jtb_r [136, 138, 140, 142, 144, 146] (by decide +kernel) (by decide +kernel)
theorem jinX10 : ∀ w ∈ u_ws RX10 TX10 36, w ∈ jtb := jtb_r [884, 886, 888, 890, 892, 894, 896, 898, 900, 902, 904, 906, 908, 910, 912, 914, 916, 918, 920, 922, 924, 926, 928, 930, 932, 934, 936, 938, 940, 942, 944, 946, 948, 950, 952, 954] (by decide +kernel) (by decide +kernel)
theorem fl_RX9_10 : jfl RX9 10 7 0 := ⟨RX9, TX9, 6, rfl, rfl, jinX9, tyX9_ok, nmX9, by decide, jtb_at 130 (by decide +kernel) rfl, rfl⟩
theorem fl_RX9_21 : jfl RX9 21 7 1 := ⟨RX9, TX9, 6, rfl, rfl, jinX9, tyX9_ok, nmX9, by decide, jtb_at 131 (by decide +kernel) rfl, rfl⟩
theorem fl_RX9_28 : jfl RX9 28 7 2 := ⟨RX9, TX9, 6, rfl, rfl, jinX9, tyX9_ok, nmX9, by decide, jtb_at 132 (by decide +kernel) rfl, rfl⟩
theorem fl_RX9_32 : jfl RX9 32 7 3 := ⟨RX9, TX9, 6, rfl, rfl, jinX9, tyX9_ok, nmX9, by decide, jtb_at 133 (by decide +kernel) rfl, rfl⟩
theorem fl_RX9_36 : jfl RX9 36 7 4 := ⟨RX9, TX9, 6, rfl, rfl, jinX9, tyX9_ok, nmX9, by decide, jtb_at 134 (by decide +kernel) rfl, rfl⟩
theorem fl_RX9_39 : jfl RX9 39 7 5 := ⟨RX9, TX9, 6, rfl, rfl, jinX9, tyX9_ok, nmX9, by decide, jtb_at 135 (by decide +kernel) rfl, rfl⟩
theorem fl_RX9_56 : jfl RX9 56 6 1 := ⟨RX8, TX8, 2, rfl, rfl, jinX8, tyX8_ok, nmX8, by decide, jtb_at 95 (by decide +kernel) rfl, rfl⟩
theorem fl_RX9_81 : jfl RX9 81 1 1 := ⟨RX3, TX3, 2, rfl, rfl, jinX3, tyX3_ok, nmX3, by decide, jtb_at 109 (by decide +kernel) rfl, rfl⟩
theorem fl_RX9_97 : jfl RX9 97 4 1 := ⟨RX6, TX6, 2, rfl, rfl, jinX6, tyX6_ok, nmX6, by decide, jtb_at 123 (by decide +kernel) rfl, rfl⟩
theorem fl_RX9_104 : jfl RX9 104 0 7 := ⟨RX0, TX0, 20, rfl, rfl, jinX0, tyX0_ok, nmX0, by decide, jtb_at 264 (by decide +kernel) rfl, rfl⟩
theorem fl_RX9_110 : jfl RX9 110 3 0 := ⟨RX5, TX5, 6, rfl, rfl, jinX5, tyX5_ok, nmX5, by decide, jtb_at 211 (by decide +kernel) rfl, rfl⟩
theorem fl_RX9_126 : jfl RX9 126 5 3 := ⟨RX7, TX7, 5, rfl, rfl, jinX7, tyX7_ok, nmX7, by decide, jtb_at 366 (by decide +kernel) rfl, rfl⟩
theorem fl_RX9_131 : jfl RX9 131 5 4 := ⟨RX7, TX7, 5, rfl, rfl, jinX7, tyX7_ok, nmX7, by decide, jtb_at 369 (by decide +kernel) rfl, rfl⟩
theorem fl_RX9_144 : jfl RX9 144 0 10 := ⟨RX0, TX0, 20, rfl, rfl, jinX0, tyX0_ok, nmX0, by decide, jtb_at 274 (by decide +kernel) rfl, rfl⟩
theorem fl_RX9_148 : jfl RX9 148 5 2 := ⟨RX7, TX7, 5, rfl, rfl, jinX7, tyX7_ok, nmX7, by decide, jtb_at 362 (by decide +kernel) rfl, rfl⟩
theorem fl_RX9_151 : jfl RX9 151 5 0 := ⟨RX7, TX7, 5, rfl, rfl, jinX7, tyX7_ok, nmX7, by decide, jtb_at 357 (by decide +kernel) rfl, rfl⟩
theorem fl_RX9_154 : jfl RX9 154 5 1 := ⟨RX7, TX7, 5, rfl, rfl, jinX7, tyX7_ok, nmX7, by decide, jtb_at 359 (by decide +kernel) rfl, rfl⟩
theorem fl_RX9_161 : jfl RX9 161 0 17 := ⟨RX0, TX0, 20, rfl, rfl, jinX0, tyX0_ok, nmX0, by decide, jtb_at 290 (by decide +kernel) rfl, rfl⟩
theorem fl_RX9_165 : jfl RX9 165 0 18 := ⟨RX0, TX0, 20, rfl, rfl, jinX0, tyX0_ok, nmX0, by decide, jtb_at 292 (by decide +kernel) rfl, rfl⟩
theorem fl_RX9_168 : jfl RX9 168 3 3 := ⟨RX5, TX5, 6, rfl, rfl, jinX5, tyX5_ok, nmX5, by decide, jtb_at 217 (by decide +kernel) rfl, rfl⟩
theorem fl_RX9_171 : jfl RX9 171 0 1 := ⟨RX0, TX0, 20, rfl, rfl, jinX0, tyX0_ok, nmX0, by decide, jtb_at 243 (by decide +kernel) rfl, rfl⟩
theorem fl_RX9_174 : jfl RX9 174 0 19 := ⟨RX0, TX0, 20, rfl, rfl, jinX0, tyX0_ok, nmX0, by decide, jtb_at 296 (by decide +kernel) rfl, rfl⟩
theorem fl_RX9_190 : jfl RX9 190 0 6 := ⟨RX0, TX0, 20, rfl, rfl, jinX0, tyX0_ok, nmX0, by decide, jtb_at 260 (by decide +kernel) rfl, rfl⟩
theorem fl_RX9_209 : jfl RX9 209 0 14 := ⟨RX0, TX0, 20, rfl, rfl, jinX0, tyX0_ok, nmX0, by decide, jtb_at 282 (by decide +kernel) rfl, rfl⟩
theorem fl_RX9_255 : jfl RX9 255 0 2 := ⟨RX0, TX0, 20, rfl, rfl, jinX0, tyX0_ok, nmX0, by decide, jtb_at 248 (by decide +kernel) rfl, rfl⟩
theorem fl_RX9_258 : jfl RX9 258 0 11 := ⟨RX0, TX0, 20, rfl, rfl, jinX0, tyX0_ok, nmX0, by decide, jtb_at 276 (by decide +kernel) rfl, rfl⟩
theorem fl_RX9_265 : jfl RX9 265 0 12 := ⟨RX0, TX0, 20, rfl, rfl, jinX0, tyX0_ok, nmX0, by decide, jtb_at 278 (by decide +kernel) rfl, rfl⟩
theorem fl_RX9_271 : jfl RX9 271 0 3 := ⟨RX0, TX0, 20, rfl, rfl, jinX0, tyX0_ok, nmX0, by decide, jtb_at 251 (by decide +kernel) rfl, rfl⟩
theorem fl_RX9_278 : jfl RX9 278 0 13 := ⟨RX0, TX0, 20, rfl, rfl, jinX0, tyX0_ok, nmX0, by decide, jtb_at 280 (by decide +kernel) rfl, rfl⟩
theorem fl_RX9_284 : jfl RX9 284 0 15 := ⟨RX0, TX0, 20, rfl, rfl, jinX0, tyX0_ok, nmX0, by decide, jtb_at 284 (by decide +kernel) rfl, rfl⟩
theorem fl_RX9_290 : jfl RX9 290 0 8 := ⟨RX0, TX0, 20, rfl, rfl, jinX0, tyX0_ok, nmX0, by decide, jtb_at 268 (by decide +kernel) rfl, rfl⟩
theorem fl_RX9_293 : jfl RX9 293 0 0 := ⟨RX0, TX0, 20, rfl, rfl, jinX0, tyX0_ok, nmX0, by decide, jtb_at 239 (by decide +kernel) rfl, rfl⟩
theorem fl_RX9_299 : jfl RX9 299 0 16 := ⟨RX0, TX0, 20, rfl, rfl, jinX0, tyX0_ok, nmX0, by decide, jtb_at 286 (by decide +kernel) rfl, rfl⟩
theorem fl_RX9_302 : jfl RX9 302 6 0 := ⟨RX8, TX8, 2, rfl, rfl, jinX8, tyX8_ok, nmX8, by decide, jtb_at 92 (by decide +kernel) rfl, rfl⟩
theorem fl_RX9_309 : jfl RX9 309 3 4 := ⟨RX5, TX5, 6, rfl, rfl, jinX5, tyX5_ok, nmX5, by decide, jtb_at 220 (by decide +kernel) rfl, rfl⟩
theorem fl_RX9_312 : jfl RX9 312 0 4 := ⟨RX0, TX0, 20, rfl, rfl, jinX0, tyX0_ok, nmX0, by decide, jtb_at 255 (by decide +kernel) rfl, rfl⟩
theorem fl_RX0_9 : jfl RX0 9 0 0 := ⟨RX0, TX0, 20, rfl, rfl, jinX0, tyX0_ok, nmX0, by decide, jtb_at 236 (by decide +kernel) rfl, rfl⟩
theorem fl_RX0_15 : jfl RX0 15 0 1 := ⟨RX0, TX0, 20, rfl, rfl, jinX0, tyX0_ok, nmX0, by decide, jtb_at 240 (by decide +kernel) rfl, rfl⟩
theorem fl_RX0_18 : jfl RX0 18 0 2 := ⟨RX0, TX0, 20, rfl, rfl, jinX0, tyX0_ok, nmX0, by decide, jtb_at 244 (by decide +kernel) rfl, rfl⟩
theorem fl_RX0_21 : jfl RX0 21 0 3 := ⟨RX0, TX0, 20, rfl, rfl, jinX0, tyX0_ok, nmX0, by decide, jtb_at 249 (by decide +kernel) rfl, rfl⟩
theorem fl_RX0_30 : jfl RX0 30 0 4 := ⟨RX0, TX0, 20, rfl, rfl, jinX0, tyX0_ok, nmX0, by decide, jtb_at 252 (by decide +kernel) rfl, rfl⟩
theorem fl_RX0_33 : jfl RX0 33 0 5 := ⟨RX0, TX0, 20, rfl, rfl, jinX0, tyX0_ok, nmX0, by decide, jtb_at 256 (by decide +kernel) rfl, rfl⟩
theorem fl_RX0_37 : jfl RX0 37 0 6 := ⟨RX0, TX0, 20, rfl, rfl, jinX0, tyX0_ok, nmX0, by decide, jtb_at 259 (by decide +kernel) rfl, rfl⟩
theorem fl_RX0_43 : jfl RX0 43 0 7 := ⟨RX0, TX0, 20, rfl, rfl, jinX0, tyX0_ok, nmX0, by decide, jtb_at 261 (by decide +kernel) rfl, rfl⟩
theorem fl_RX0_47 : jfl RX0 47 0 19 := ⟨RX0, TX0, 20, rfl, rfl, jinX0, tyX0_ok, nmX0, by decide, jtb_at 293 (by decide +kernel) rfl, rfl⟩
theorem fl_RX0_54 : jfl RX0 54 0 17 := ⟨RX0, TX0, 20, rfl, rfl, jinX0, tyX0_ok, nmX0, by decide, jtb_at 288 (by decide +kernel) rfl, rfl⟩
theorem fl_RX0_57 : jfl RX0 57 0 10 := ⟨RX0, TX0, 20, rfl, rfl, jinX0, tyX0_ok, nmX0, by decide, jtb_at 272 (by decide +kernel) rfl, rfl⟩
theorem fl_RX0_61 : jfl RX0 61 3 1 := ⟨RX5, TX5, 6, rfl, rfl, jinX5, tyX5_ok, nmX5, by decide, jtb_at 214 (by decide +kernel) rfl, rfl⟩
theorem fl_RX0_65 : jfl RX0 65 3 0 := ⟨RX5, TX5, 6, rfl, rfl, jinX5, tyX5_ok, nmX5, by decide, jtb_at 212 (by decide +kernel) rfl, rfl⟩
theorem fl_RX0_68 : jfl RX0 68 3 5 := ⟨RX5, TX5, 6, rfl, rfl, jinX5, tyX5_ok, nmX5, by decide, jtb_at 222 (by decide +kernel) rfl, rfl⟩
theorem fl_RX0_75 : jfl RX0 75 5 1 := ⟨RX7, TX7, 5, rfl, rfl, jinX7, tyX7_ok, nmX7, by decide, jtb_at 360 (by decide +kernel) rfl, rfl⟩
theorem fl_RX0_80 : jfl RX0 80 5 3 := ⟨RX7, TX7, 5, rfl, rfl, jinX7, tyX7_ok, nmX7, by decide, jtb_at 367 (by decide +kernel) rfl, rfl⟩
theorem fl_RX0_83 : jfl RX0 83 5 4 := ⟨RX7, TX7, 5, rfl, rfl, jinX7, tyX7_ok, nmX7, by decide, jtb_at 371 (by decide +kernel) rfl, rfl⟩
theorem fl_RX2_11 : jfl RX2 11 0 7 := ⟨RX0, TX0, 20, rfl, rfl, jinX0, tyX0_ok, nmX0, by decide, jtb_at 262 (by decide +kernel) rfl, rfl⟩
theorem fl_RX2_17 : jfl RX2 17 3 0 := ⟨RX5, TX5, 6, rfl, rfl, jinX5, tyX5_ok, nmX5, by decide, jtb_at 209 (by decide +kernel) rfl, rfl⟩
theorem fl_RX2_23 : jfl RX2 23 0 2 := ⟨RX0, TX0, 20, rfl, rfl, jinX0, tyX0_ok, nmX0, by decide, jtb_at 245 (by decide +kernel) rfl, rfl⟩
theorem fl_RX2_27 : jfl RX2 27 0 4 := ⟨RX0, TX0, 20, rfl, rfl, jinX0, tyX0_ok, nmX0, by decide, jtb_at 253 (by decide +kernel) rfl, rfl⟩
theorem fl_RX2_30 : jfl RX2 30 0 13 := ⟨RX0, TX0, 20, rfl, rfl, jinX0, tyX0_ok, nmX0, by decide, jtb_at 279 (by decide +kernel) rfl, rfl⟩
theorem fl_RX2_64 : jfl RX2 64 0 3 := ⟨RX0, TX0, 20, rfl, rfl, jinX0, tyX0_ok, nmX0, by decide, jtb_at 250 (by decide +kernel) rfl, rfl⟩
theorem fl_RX3_9 : jfl RX3 9 1 0 := ⟨RX3, TX3, 2, rfl, rfl, jinX3, tyX3_ok, nmX3, by decide, jtb_at 107 (by decide +kernel) rfl, rfl⟩
theorem fl_RX3_15 : jfl RX3 15 1 1 := ⟨RX3, TX3, 2, rfl, rfl, jinX3, tyX3_ok, nmX3, by decide, jtb_at 108 (by decide +kernel) rfl, rfl⟩
theorem fl_RX3_22 : jfl RX3 22 6 1 := ⟨RX8, TX8, 2, rfl, rfl, jinX8, tyX8_ok, nmX8, by decide, jtb_at 94 (by decide +kernel) rfl, rfl⟩
theorem fl_RX3_28 : jfl RX3 28 6 0 := ⟨RX8, TX8, 2, rfl, rfl, jinX8, tyX8_ok, nmX8, by decide, jtb_at 91 (by decide +kernel) rfl, rfl⟩
theorem fl_RX3_38 : jfl RX3 38 0 5 := ⟨RX0, TX0, 20, rfl, rfl, jinX0, tyX0_ok, nmX0, by decide, jtb_at 257 (by decide +kernel) rfl, rfl⟩
theorem fl_RX3_56 : jfl RX3 56 0 7 := ⟨RX0, TX0, 20, rfl, rfl, jinX0, tyX0_ok, nmX0, by decide, jtb_at 263 (by decide +kernel) rfl, rfl⟩
theorem fl_RX3_60 : jfl RX3 60 3 2 := ⟨RX5, TX5, 6, rfl, rfl, jinX5, tyX5_ok, nmX5, by decide, jtb_at 215 (by decide +kernel) rfl, rfl⟩
theorem fl_RX3_65 : jfl RX3 65 3 5 := ⟨RX5, TX5, 6, rfl, rfl, jinX5, tyX5_ok, nmX5, by decide, jtb_at 221 (by decide +kernel) rfl, rfl⟩
theorem fl_RX3_69 : jfl RX3 69 0 11 := ⟨RX0, TX0, 20, rfl, rfl, jinX0, tyX0_ok, nmX0, by decide, jtb_at 275 (by decide +kernel) rfl, rfl⟩
theorem fl_RX3_73 : jfl RX3 73 0 4 := ⟨RX0, TX0, 20, rfl, rfl, jinX0, tyX0_ok, nmX0, by decide, jtb_at 254 (by decide +kernel) rfl, rfl⟩
theorem fl_RX3_90 : jfl RX3 90 0 10 := ⟨RX0, TX0, 20, rfl, rfl, jinX0, tyX0_ok, nmX0, by decide, jtb_at 271 (by decide +kernel) rfl, rfl⟩
theorem fl_RX3_97 : jfl RX3 97 3 0 := ⟨RX5, TX5, 6, rfl, rfl, jinX5, tyX5_ok, nmX5, by decide, jtb_at 210 (by decide +kernel) rfl, rfl⟩
theorem fl_RX3_100 : jfl RX3 100 3 3 := ⟨RX5, TX5, 6, rfl, rfl, jinX5, tyX5_ok, nmX5, by decide, jtb_at 216 (by decide +kernel) rfl, rfl⟩
theorem fl_RX3_103 : jfl RX3 103 3 1 := ⟨RX5, TX5, 6, rfl, rfl, jinX5, tyX5_ok, nmX5, by decide, jtb_at 213 (by decide +kernel) rfl, rfl⟩
theorem fl_RX3_104 : jfl RX3 104 0 17 := ⟨RX0, TX0, 20, rfl, rfl, jinX0, tyX0_ok, nmX0, by decide, jtb_at 287 (by decide +kernel) rfl, rfl⟩
theorem fl_RX3_111 : jfl RX3 111 3 4 := ⟨RX5, TX5, 6, rfl, rfl, jinX5, tyX5_ok, nmX5, by decide, jtb_at 219 (by decide +kernel) rfl, rfl⟩
theorem fl_RX3_114 : jfl RX3 114 0 19 := ⟨RX0, TX0, 20, rfl, rfl, jinX0, tyX0_ok, nmX0, by decide, jtb_at 294 (by decide +kernel) rfl, rfl⟩
theorem fl_RX3_128 : jfl RX3 128 5 4 := ⟨RX7, TX7, 5, rfl, rfl, jinX7, tyX7_ok, nmX7, by decide, jtb_at 370 (by decide +kernel) rfl, rfl⟩
theorem fl_RX3_139 : jfl RX3 139 0 15 := ⟨RX0, TX0, 20, rfl, rfl, jinX0, tyX0_ok, nmX0, by decide, jtb_at 283 (by decide +kernel) rfl, rfl⟩
theorem fl_RX3_142 : jfl RX3 142 0 16 := ⟨RX0, TX0, 20, rfl, rfl, jinX0, tyX0_ok, nmX0, by decide, jtb_at 285 (by decide +kernel) rfl, rfl⟩
theorem fl_RX3_145 : jfl RX3 145 5 2 := ⟨RX7, TX7, 5, rfl, rfl, jinX7, tyX7_ok, nmX7, by decide, jtb_at 364 (by decide +kernel) rfl, rfl⟩
theorem fl_RX3_151 : jfl RX3 151 0 1 := ⟨RX0, TX0, 20, rfl, rfl, jinX0, tyX0_ok, nmX0, by decide, jtb_at 242 (by decide +kernel) rfl, rfl⟩
theorem fl_RX3_154 : jfl RX3 154 0 14 := ⟨RX0, TX0, 20, rfl, rfl, jinX0, tyX0_ok, nmX0, by decide, jtb_at 281 (by decide +kernel) rfl, rfl⟩
theorem fl_RX3_162 : jfl RX3 162 0 2 := ⟨RX0, TX0, 20, rfl, rfl, jinX0, tyX0_ok, nmX0, by decide, jtb_at 247 (by decide +kernel) rfl, rfl⟩
theorem fl_RX3_165 : jfl RX3 165 0 9 := ⟨RX0, TX0, 20, rfl, rfl, jinX0, tyX0_ok, nmX0, by decide, jtb_at 270 (by decide +kernel) rfl, rfl⟩
theorem fl_RX3_180 : jfl RX3 180 0 0 := ⟨RX0, TX0, 20, rfl, rfl, jinX0, tyX0_ok, nmX0, by decide, jtb_at 238 (by decide +kernel) rfl, rfl⟩
theorem fl_RX3_190 : jfl RX3 190 0 8 := ⟨RX0, TX0, 20, rfl, rfl, jinX0, tyX0_ok, nmX0, by decide, jtb_at 267 (by decide +kernel) rfl, rfl⟩
theorem fl_RX4_9 : jfl RX4 9 2 0 := ⟨RX4, TX4, 3, rfl, rfl, jinX4, tyX4_ok, nmX4, by decide, jtb_at 427 (by decide +kernel) rfl, rfl⟩
theorem fl_RX4_15 : jfl RX4 15 2 1 := ⟨RX4, TX4, 3, rfl, rfl, jinX4, tyX4_ok, nmX4, by decide, jtb_at 428 (by decide +kernel) rfl, rfl⟩
theorem fl_RX4_18 : jfl RX4 18 2 2 := ⟨RX4, TX4, 3, rfl, rfl, jinX4, tyX4_ok, nmX4, by decide, jtb_at 429 (by decide +kernel) rfl, rfl⟩
theorem fl_RX6_9 : jfl RX6 9 4 0 := ⟨RX6, TX6, 2, rfl, rfl, jinX6, tyX6_ok, nmX6, by decide, jtb_at 121 (by decide +kernel) rfl, rfl⟩
theorem fl_RX6_15 : jfl RX6 15 4 1 := ⟨RX6, TX6, 2, rfl, rfl, jinX6, tyX6_ok, nmX6, by decide, jtb_at 122 (by decide +kernel) rfl, rfl⟩
theorem fl_RX7_7 : jfl RX7 7 5 0 := ⟨RX7, TX7, 5, rfl, rfl, jinX7, tyX7_ok, nmX7, by decide, jtb_at 356 (by decide +kernel) rfl, rfl⟩
theorem fl_RX7_13 : jfl RX7 13 5 1 := ⟨RX7, TX7, 5, rfl, rfl, jinX7, tyX7_ok, nmX7, by decide, jtb_at 358 (by decide +kernel) rfl, rfl⟩
theorem fl_RX7_16 : jfl RX7 16 5 2 := ⟨RX7, TX7, 5, rfl, rfl, jinX7, tyX7_ok, nmX7, by decide, jtb_at 361 (by decide +kernel) rfl, rfl⟩
theorem fl_RX7_20 : jfl RX7 20 5 3 := ⟨RX7, TX7, 5, rfl, rfl, jinX7, tyX7_ok, nmX7, by decide, jtb_at 365 (by decide +kernel) rfl, rfl⟩
theorem fl_RX7_23 : jfl RX7 23 5 4 := ⟨RX7, TX7, 5, rfl, rfl, jinX7, tyX7_ok, nmX7, by decide, jtb_at 368 (by decide +kernel) rfl, rfl⟩
theorem fl_RX8_11 : jfl RX8 11 6 0 := ⟨RX8, TX8, 2, rfl, rfl, jinX8, tyX8_ok, nmX8, by decide, jtb_at 90 (by decide +kernel) rfl, rfl⟩
theorem fl_RX8_17 : jfl RX8 17 6 1 := ⟨RX8, TX8, 2, rfl, rfl, jinX8, tyX8_ok, nmX8, by decide, jtb_at 93 (by decide +kernel) rfl, rfl⟩
theorem fl_RX8_31 : jfl RX8 31 0 8 := ⟨RX0, TX0, 20, rfl, rfl, jinX0, tyX0_ok, nmX0, by decide, jtb_at 266 (by decide +kernel) rfl, rfl⟩
theorem fl_RX8_35 : jfl RX8 35 0 9 := ⟨RX0, TX0, 20, rfl, rfl, jinX0, tyX0_ok, nmX0, by decide, jtb_at 269 (by decide +kernel) rfl, rfl⟩
theorem fl_RX8_42 : jfl RX8 42 0 2 := ⟨RX0, TX0, 20, rfl, rfl, jinX0, tyX0_ok, nmX0, by decide, jtb_at 246 (by decide +kernel) rfl, rfl⟩
theorem fl_RX8_55 : jfl RX8 55 0 1 := ⟨RX0, TX0, 20, rfl, rfl, jinX0, tyX0_ok, nmX0, by decide, jtb_at 241 (by decide +kernel) rfl, rfl⟩
theorem fl_RX8_61 : jfl RX8 61 0 10 := ⟨RX0, TX0, 20, rfl, rfl, jinX0, tyX0_ok, nmX0, by decide, jtb_at 273 (by decide +kernel) rfl, rfl⟩
theorem fl_RX8_65 : jfl RX8 65 0 18 := ⟨RX0, TX0, 20, rfl, rfl, jinX0, tyX0_ok, nmX0, by decide, jtb_at 291 (by decide +kernel) rfl, rfl⟩
theorem fl_RX8_73 : jfl RX8 73 0 0 := ⟨RX0, TX0, 20, rfl, rfl, jinX0, tyX0_ok, nmX0, by decide, jtb_at 237 (by decide +kernel) rfl, rfl⟩
theorem fl_RX8_80 : jfl RX8 80 5 2 := ⟨RX7, TX7, 5, rfl, rfl, jinX7, tyX7_ok, nmX7, by decide, jtb_at 363 (by decide +kernel) rfl, rfl⟩
theorem fl_RX8_85 : jfl RX8 85 0 5 := ⟨RX0, TX0, 20, rfl, rfl, jinX0, tyX0_ok, nmX0, by decide, jtb_at 258 (by decide +kernel) rfl, rfl⟩
theorem fl_RX8_88 : jfl RX8 88 0 17 := ⟨RX0, TX0, 20, rfl, rfl, jinX0, tyX0_ok, nmX0, by decide, jtb_at 289 (by decide +kernel) rfl, rfl⟩
theorem fl_RX8_91 : jfl RX8 91 0 19 := ⟨RX0, TX0, 20, rfl, rfl, jinX0, tyX0_ok, nmX0, by decide, jtb_at 295 (by decide +kernel) rfl, rfl⟩
theorem fl_RX8_101 : jfl RX8 101 0 12 := ⟨RX0, TX0, 20, rfl, rfl, jinX0, tyX0_ok, nmX0, by decide, jtb_at 277 (by decide +kernel) rfl, rfl⟩
theorem fl_RX8_104 : jfl RX8 104 0 7 := ⟨RX0, TX0, 20, rfl, rfl, jinX0, tyX0_ok, nmX0, by decide, jtb_at 265 (by decide +kernel) rfl, rfl⟩
theorem fl_RX8_108 : jfl RX8 108 3 3 := ⟨RX5, TX5, 6, rfl, rfl, jinX5, tyX5_ok, nmX5, by decide, jtb_at 218 (by decide +kernel) rfl, rfl⟩
theorem fl_RX10_7 : jfl RX10 7 8 2 := ⟨RX10, TX10, 36, rfl, rfl, jinX10, tyX10_ok, nmX10, by decide, jtb_at 850 (by decide +kernel) rfl, rfl⟩
theorem fl_RX10_13 : jfl RX10 13 8 3 := ⟨RX10, TX10, 36, rfl, rfl, jinX10, tyX10_ok, nmX10, by decide, jtb_at 851 (by decide +kernel) rfl, rfl⟩
theorem fl_RX10_16 : jfl RX10 16 8 4 := ⟨RX10, TX10, 36, rfl, rfl, jinX10, tyX10_ok, nmX10, by decide, jtb_at 852 (by decide +kernel) rfl, rfl⟩
theorem fl_RX10_19 : jfl RX10 19 8 5 := ⟨RX10, TX10, 36, rfl, rfl, jinX10, tyX10_ok, nmX10, by decide, jtb_at 853 (by decide +kernel) rfl, rfl⟩
theorem fl_RX10_22 : jfl RX10 22 8 6 := ⟨RX10, TX10, 36, rfl, rfl, jinX10, tyX10_ok, nmX10, by decide, jtb_at 854 (by decide +kernel) rfl, rfl⟩
theorem fl_RX10_25 : jfl RX10 25 8 7 := ⟨RX10, TX10, 36, rfl, rfl, jinX10, tyX10_ok, nmX10, by decide, jtb_at 855 (by decide +kernel) rfl, rfl⟩
theorem fl_RX10_28 : jfl RX10 28 8 8 := ⟨RX10, TX10, 36, rfl, rfl, jinX10, tyX10_ok, nmX10, by decide, jtb_at 856 (by decide +kernel) rfl, rfl⟩
theorem fl_RX10_31 : jfl RX10 31 8 9 := ⟨RX10, TX10, 36, rfl, rfl, jinX10, tyX10_ok, nmX10, by decide, jtb_at 857 (by decide +kernel) rfl, rfl⟩
theorem fl_RX10_34 : jfl RX10 34 8 10 := ⟨RX10, TX10, 36, rfl, rfl, jinX10, tyX10_ok, nmX10, by decide, jtb_at 858 (by decide +kernel) rfl, rfl⟩
theorem fl_RX10_37 : jfl RX10 37 8 11 := ⟨RX10, TX10, 36, rfl, rfl, jinX10, tyX10_ok, nmX10, by decide, jtb_at 859 (by decide +kernel) rfl, rfl⟩
theorem fl_RX10_41 : jfl RX10 41 8 12 := ⟨RX10, TX10, 36, rfl, rfl, jinX10, tyX10_ok, nmX10, by decide, jtb_at 860 (by decide +kernel) rfl, rfl⟩
theorem fl_RX10_44 : jfl RX10 44 8 13 := ⟨RX10, TX10, 36, rfl, rfl, jinX10, tyX10_ok, nmX10, by decide, jtb_at 861 (by decide +kernel) rfl, rfl⟩
theorem fl_RX10_47 : jfl RX10 47 8 14 := ⟨RX10, TX10, 36, rfl, rfl, jinX10, tyX10_ok, nmX10, by decide, jtb_at 862 (by decide +kernel) rfl, rfl⟩
theorem fl_RX10_50 : jfl RX10 50 8 15 := ⟨RX10, TX10, 36, rfl, rfl, jinX10, tyX10_ok, nmX10, by decide, jtb_at 863 (by decide +kernel) rfl, rfl⟩
theorem fl_RX10_53 : jfl RX10 53 8 16 := ⟨RX10, TX10, 36, rfl, rfl, jinX10, tyX10_ok, nmX10, by decide, jtb_at 864 (by decide +kernel) rfl, rfl⟩
theorem fl_RX10_56 : jfl RX10 56 8 17 := ⟨RX10, TX10, 36, rfl, rfl, jinX10, tyX10_ok, nmX10, by decide, jtb_at 865 (by decide +kernel) rfl, rfl⟩
theorem fl_RX10_59 : jfl RX10 59 8 18 := ⟨RX10, TX10, 36, rfl, rfl, jinX10, tyX10_ok, nmX10, by decide, jtb_at 866 (by decide +kernel) rfl, rfl⟩
theorem fl_RX10_62 : jfl RX10 62 8 19 := ⟨RX10, TX10, 36, rfl, rfl, jinX10, tyX10_ok, nmX10, by decide, jtb_at 867 (by decide +kernel) rfl, rfl⟩
theorem fl_RX10_65 : jfl RX10 65 8 20 := ⟨RX10, TX10, 36, rfl, rfl, jinX10, tyX10_ok, nmX10, by decide, jtb_at 868 (by decide +kernel) rfl, rfl⟩
theorem fl_RX10_68 : jfl RX10 68 8 22 := ⟨RX10, TX10, 36, rfl, rfl, jinX10, tyX10_ok, nmX10, by decide, jtb_at 870 (by decide +kernel) rfl, rfl⟩
theorem fl_RX10_72 : jfl RX10 72 8 26 := ⟨RX10, TX10, 36, rfl, rfl, jinX10, tyX10_ok, nmX10, by decide, jtb_at 874 (by decide +kernel) rfl, rfl⟩
theorem fl_RX10_76 : jfl RX10 76 8 27 := ⟨RX10, TX10, 36, rfl, rfl, jinX10, tyX10_ok, nmX10, by decide, jtb_at 875 (by decide +kernel) rfl, rfl⟩
theorem fl_RX10_80 : jfl RX10 80 8 28 := ⟨RX10, TX10, 36, rfl, rfl, jinX10, tyX10_ok, nmX10, by decide, jtb_at 876 (by decide +kernel) rfl, rfl⟩
theorem fl_RX10_83 : jfl RX10 83 8 29 := ⟨RX10, TX10, 36, rfl, rfl, jinX10, tyX10_ok, nmX10, by decide, jtb_at 877 (by decide +kernel) rfl, rfl⟩
theorem fl_RX10_86 : jfl RX10 86 8 30 := ⟨RX10, TX10, 36, rfl, rfl, jinX10, tyX10_ok, nmX10, by decide, jtb_at 878 (by decide +kernel) rfl, rfl⟩
theorem fl_RX10_89 : jfl RX10 89 8 31 := ⟨RX10, TX10, 36, rfl, rfl, jinX10, tyX10_ok, nmX10, by decide, jtb_at 879 (by decide +kernel) rfl, rfl⟩
theorem fl_RX10_92 : jfl RX10 92 8 32 := ⟨RX10, TX10, 36, rfl, rfl, jinX10, tyX10_ok, nmX10, by decide, jtb_at 880 (by decide +kernel) rfl, rfl⟩
theorem fl_RX10_95 : jfl RX10 95 8 33 := ⟨RX10, TX10, 36, rfl, rfl, jinX10, tyX10_ok, nmX10, by decide, jtb_at 881 (by decide +kernel) rfl, rfl⟩
theorem fl_RX10_98 : jfl RX10 98 8 0 := ⟨RX10, TX10, 36, rfl, rfl, jinX10, tyX10_ok, nmX10, by decide, jtb_at 848 (by decide +kernel) rfl, rfl⟩
theorem fl_RX10_102 : jfl RX10 102 8 1 := ⟨RX10, TX10, 36, rfl, rfl, jinX10, tyX10_ok, nmX10, by decide, jtb_at 849 (by decide +kernel) rfl, rfl⟩
theorem fl_RX10_121 : jfl RX10 121 8 21 := ⟨RX10, TX10, 36, rfl, rfl, jinX10, tyX10_ok, nmX10, by decide, jtb_at 869 (by decide +kernel) rfl, rfl⟩
theorem fl_RX10_194 : jfl RX10 194 8 24 := ⟨RX10, TX10, 36, rfl, rfl, jinX10, tyX10_ok, nmX10, by decide, jtb_at 872 (by decide +kernel) rfl, rfl⟩
theorem fl_RX10_197 : jfl RX10 197 8 25 := ⟨RX10, TX10, 36, rfl, rfl, jinX10, tyX10_ok, nmX10, by decide, jtb_at 873 (by decide +kernel) rfl, rfl⟩
theorem fl_RX10_203 : jfl RX10 203 8 34 := ⟨RX10, TX10, 36, rfl, rfl, jinX10, tyX10_ok, nmX10, by decide, jtb_at 882 (by decide +kernel) rfl, rfl⟩
theorem fl_RX10_226 : jfl RX10 226 8 23 := ⟨RX10, TX10, 36, rfl, rfl, jinX10, tyX10_ok, nmX10, by decide, jtb_at 871 (by decide +kernel) rfl, rfl⟩
theorem fl_RX10_229 : jfl RX10 229 8 35 := ⟨RX10, TX10, 36, rfl, rfl, jinX10, tyX10_ok, nmX10, by decide, jtb_at 883 (by decide +kernel) rfl, rfl⟩
theorem cl_RX0_24 : jcs RX0 24 mX1_bytesOf 2 := ⟨⟨jtb_at 200 (by decide +kernel) rfl, jtb_at 60 (by decide +kernel) rfl, jtb_at 202 (by decide +kernel) rfl, (by decide +kernel)⟩, jtb_at 201 (by decide +kernel) rfl⟩
theorem cl_RX0_42 : jcn RX0 42 mX5_init 0 := ⟨⟨"DataLayout", by decide +kernel⟩, jtb_at 62 (by decide +kernel) rfl, jtb_at 207 (by decide +kernel) rfl, (by decide +kernel), jtb_at 206 (by decide +kernel) rfl, rfl, rfl⟩
theorem cl_RX0_50 : jcs RX0 50 mX1_isNumeric 1 := ⟨⟨jtb_at 190 (by decide +kernel) rfl, jtb_at 60 (by decide +kernel) rfl, jtb_at 161 (by decide +kernel) rfl, (by decide +kernel)⟩, jtb_at 160 (by decide +kernel) rfl⟩
theorem cl_RX0_71 : jcv RX0 71 mX0_length 0 0 := ⟨⟨jtb_at 485 (by decide +kernel) rfl, jtb_at 61 (by decide +kernel) rfl, jtb_at 477 (by decide +kernel) rfl, (by decide +kernel)⟩, jtb_at 475 (by decide +kernel) rfl, jtb_at 476 (by decide +kernel) rfl, _, rfl, rfl⟩
theorem cl_RX1_9 : jcs RX1 9 mX1_isNumeric 1 := ⟨⟨jtb_at 159 (by decide +kernel) rfl, jtb_at 60 (by decide +kernel) rfl, jtb_at 161 (by decide +kernel) rfl, (by decide +kernel)⟩, jtb_at 160 (by decide +kernel) rfl⟩
theorem cl_RX2_33 : jcs RX2 33 mX2_writeBinary 4 := ⟨⟨jtb_at 571 (by decide +kernel) rfl, jtb_at 64 (by decide +kernel) rfl, jtb_at 573 (by decide +kernel) rfl, (by decide +kernel)⟩, jtb_at 572 (by decide +kernel) rfl⟩
theorem cl_RX2_39 : jcs RX2 39 mX2_writePacked 4 := ⟨⟨jtb_at 576 (by decide +kernel) rfl, jtb_at 64 (by decide +kernel) rfl, jtb_at 578 (by decide +kernel) rfl, (by decide +kernel)⟩, jtb_at 577 (by decide +kernel) rfl⟩
theorem cl_RX2_42 : jcs RX2 42 mX2_writeDigits 3 := ⟨⟨jtb_at 582 (by decide +kernel) rfl, jtb_at 64 (by decide +kernel) rfl, jtb_at 584 (by decide +kernel) rfl, (by decide +kernel)⟩, jtb_at 583 (by decide +kernel) rfl⟩
theorem cl_RX2_48 : jcv RX2 48 mX6_put 2 4 := ⟨⟨jtb_at 575 (by decide +kernel) rfl, jtb_at 58 (by decide +kernel) rfl, jtb_at 563 (by decide +kernel) rfl, (by decide +kernel)⟩, jtb_at 561 (by decide +kernel) rfl, jtb_at 562 (by decide +kernel) rfl, _, rfl, rfl⟩
theorem cl_RX2_54 : jcs RX2 54 mJ9_abs_067f4 1 := ⟨⟨jtb_at 579 (by decide +kernel) rfl, jtb_at 66 (by decide +kernel) rfl, jtb_at 581 (by decide +kernel) rfl, (by decide +kernel)⟩, jtb_at 580 (by decide +kernel) rfl⟩
theorem cl_RX2_60 : jcs RX2 60 mX2_signedDigit 1 := ⟨⟨jtb_at 585 (by decide +kernel) rfl, jtb_at 64 (by decide +kernel) rfl, jtb_at 587 (by decide +kernel) rfl, (by decide +kernel)⟩, jtb_at 586 (by decide +kernel) rfl⟩
theorem cl_RX2_67 : jcs RX2 67 mX2_signByte 1 := ⟨⟨jtb_at 588 (by decide +kernel) rfl, jtb_at 64 (by decide +kernel) rfl, jtb_at 590 (by decide +kernel) rfl, (by decide +kernel)⟩, jtb_at 589 (by decide +kernel) rfl⟩
theorem cl_RX2_70 : jcs RX2 70 mX2_readBinary 3 := ⟨⟨jtb_at 814 (by decide +kernel) rfl, jtb_at 64 (by decide +kernel) rfl, jtb_at 816 (by decide +kernel) rfl, (by decide +kernel)⟩, jtb_at 815 (by decide +kernel) rfl⟩
theorem cl_RX2_74 : jcs RX2 74 mX2_readPacked 3 := ⟨⟨jtb_at 819 (by decide +kernel) rfl, jtb_at 64 (by decide +kernel) rfl, jtb_at 821 (by decide +kernel) rfl, (by decide +kernel)⟩, jtb_at 820 (by decide +kernel) rfl⟩
theorem cl_RX2_78 : jcs RX2 78 mX2_readDigits 3 := ⟨⟨jtb_at 829 (by decide +kernel) rfl, jtb_at 64 (by decide +kernel) rfl, jtb_at 831 (by decide +kernel) rfl, (by decide +kernel)⟩, jtb_at 830 (by decide +kernel) rfl⟩
theorem cl_RX2_81 : jcv RX2 81 mX6_get 1 4 := ⟨⟨jtb_at 817 (by decide +kernel) rfl, jtb_at 58 (by decide +kernel) rfl, jtb_at 769 (by decide +kernel) rfl, (by decide +kernel)⟩, jtb_at 767 (by decide +kernel) rfl, jtb_at 768 (by decide +kernel) rfl, _, rfl, rfl⟩
theorem cl_RX2_87 : jcs RX2 87 mX2_halfByte 3 := ⟨⟨jtb_at 822 (by decide +kernel) rfl, jtb_at 64 (by decide +kernel) rfl, jtb_at 824 (by decide +kernel) rfl, (by decide +kernel)⟩, jtb_at 823 (by decide +kernel) rfl⟩
theorem cl_RX2_100 : jcs RX2 100 mX2_readsMinus 1 := ⟨⟨jtb_at 832 (by decide +kernel) rfl, jtb_at 64 (by decide +kernel) rfl, jtb_at 834 (by decide +kernel) rfl, (by decide +kernel)⟩, jtb_at 833 (by decide +kernel) rfl⟩
theorem cl_RX3_19 : jcv RX3 19 mX3_gatherUnits 0 1 := ⟨⟨jtb_at 455 (by decide +kernel) rfl, jtb_at 57 (by decide +kernel) rfl, jtb_at 458 (by decide +kernel) rfl, (by decide +kernel)⟩, jtb_at 457 (by decide +kernel) rfl, jtb_at 6 (by decide +kernel) rfl, _, rfl, rfl⟩
theorem cl_RX3_32 : jcv RX3 32 mX0_lies 0 0 := ⟨⟨jtb_at 462 (by decide +kernel) rfl, jtb_at 61 (by decide +kernel) rfl, jtb_at 465 (by decide +kernel) rfl, (by decide +kernel)⟩, jtb_at 463 (by decide +kernel) rfl, jtb_at 464 (by decide +kernel) rfl, _, rfl, rfl⟩
theorem cl_RX3_42 : jcv RX3 42 mX3_finishUpTo 2 1 := ⟨⟨jtb_at 466 (by decide +kernel) rfl, jtb_at 57 (by decide +kernel) rfl, jtb_at 469 (by decide +kernel) rfl, (by decide +kernel)⟩, jtb_at 468 (by decide +kernel) rfl, jtb_at 7 (by decide +kernel) rfl, _, rfl, rfl⟩
theorem cl_RX3_46 : jcv RX3 46 mX3_begin 1 1 := ⟨⟨jtb_at 489 (by decide +kernel) rfl, jtb_at 57 (by decide +kernel) rfl, jtb_at 492 (by decide +kernel) rfl, (by decide +kernel)⟩, jtb_at 491 (by decide +kernel) rfl, jtb_at 9 (by decide +kernel) rfl, _, rfl, rfl⟩
theorem cl_RX3_50 : jcv RX3 50 mX3_placeParts 0 1 := ⟨⟨jtb_at 508 (by decide +kernel) rfl, jtb_at 57 (by decide +kernel) rfl, jtb_at 511 (by decide +kernel) rfl, (by decide +kernel)⟩, jtb_at 510 (by decide +kernel) rfl, jtb_at 12 (by decide +kernel) rfl, _, rfl, rfl⟩
theorem cl_RX3_53 : jcv RX3 53 mX3_markMoving 0 1 := ⟨⟨jtb_at 512 (by decide +kernel) rfl, jtb_at 57 (by decide +kernel) rfl, jtb_at 515 (by decide +kernel) rfl, (by decide +kernel)⟩, jtb_at 514 (by decide +kernel) rfl, jtb_at 13 (by decide +kernel) rfl, _, rfl, rfl⟩
theorem cl_RX3_76 : jcs RX3 76 mJ9_max_7cf53 2 := ⟨⟨jtb_at 459 (by decide +kernel) rfl, jtb_at 66 (by decide +kernel) rfl, jtb_at 461 (by decide +kernel) rfl, (by decide +kernel)⟩, jtb_at 460 (by decide +kernel) rfl⟩
theorem cl_RX3_82 : jcv RX3 82 mX3_beginOfRecord 1 1 := ⟨⟨jtb_at 493 (by decide +kernel) rfl, jtb_at 57 (by decide +kernel) rfl, jtb_at 496 (by decide +kernel) rfl, (by decide +kernel)⟩, jtb_at 495 (by decide +kernel) rfl, jtb_at 10 (by decide +kernel) rfl, _, rfl, rfl⟩
theorem cl_RX3_86 : jcs RX3 86 mX3_beginBelow 2 := ⟨⟨jtb_at 501 (by decide +kernel) rfl, jtb_at 57 (by decide +kernel) rfl, jtb_at 503 (by decide +kernel) rfl, (by decide +kernel)⟩, jtb_at 502 (by decide +kernel) rfl⟩
theorem cl_RX3_93 : jcs RX3 93 mX3_roundUp 2 := ⟨⟨jtb_at 478 (by decide +kernel) rfl, jtb_at 57 (by decide +kernel) rfl, jtb_at 480 (by decide +kernel) rfl, (by decide +kernel)⟩, jtb_at 479 (by decide +kernel) rfl⟩
theorem cl_RX3_107 : jcv RX3 107 mX3_isLaterExternal 1 1 := ⟨⟨jtb_at 504 (by decide +kernel) rfl, jtb_at 57 (by decide +kernel) rfl, jtb_at 507 (by decide +kernel) rfl, (by decide +kernel)⟩, jtb_at 506 (by decide +kernel) rfl, jtb_at 11 (by decide +kernel) rfl, _, rfl, rfl⟩
theorem cl_RX3_117 : jcv RX3 117 mX8_firstOfName 1 6 := ⟨⟨jtb_at 497 (by decide +kernel) rfl, jtb_at 56 (by decide +kernel) rfl, jtb_at 500 (by decide +kernel) rfl, (by decide +kernel)⟩, jtb_at 498 (by decide +kernel) rfl, jtb_at 499 (by decide +kernel) rfl, _, rfl, rfl⟩
theorem cl_RX3_121 : jcv RX3 121 mX3_finish 1 1 := ⟨⟨jtb_at 470 (by decide +kernel) rfl, jtb_at 57 (by decide +kernel) rfl, jtb_at 473 (by decide +kernel) rfl, (by decide +kernel)⟩, jtb_at 472 (by decide +kernel) rfl, jtb_at 8 (by decide +kernel) rfl, _, rfl, rfl⟩
theorem cl_RX3_124 : jcv RX3 124 mX0_length 0 0 := ⟨⟨jtb_at 474 (by decide +kernel) rfl, jtb_at 61 (by decide +kernel) rfl, jtb_at 477 (by decide +kernel) rfl, (by decide +kernel)⟩, jtb_at 475 (by decide +kernel) rfl, jtb_at 476 (by decide +kernel) rfl, _, rfl, rfl⟩
theorem cl_RX3_133 : jcv RX3 133 mX0_extent 0 0 := ⟨⟨jtb_at 481 (by decide +kernel) rfl, jtb_at 61 (by decide +kernel) rfl, jtb_at 484 (by decide +kernel) rfl, (by decide +kernel)⟩, jtb_at 482 (by decide +kernel) rfl, jtb_at 483 (by decide +kernel) rfl, _, rfl, rfl⟩
theorem cl_RX3_136 : jcs RX3 136 mJ9_max_f86c9 2 := ⟨⟨jtb_at 486 (by decide +kernel) rfl, jtb_at 66 (by decide +kernel) rfl, jtb_at 488 (by decide +kernel) rfl, (by decide +kernel)⟩, jtb_at 487 (by decide +kernel) rfl⟩
theorem cl_RX3_148 : jcv RX3 148 mX3_isRight 1 1 := ⟨⟨jtb_at 520 (by decide +kernel) rfl, jtb_at 57 (by decide +kernel) rfl, jtb_at 523 (by decide +kernel) rfl, (by decide +kernel)⟩, jtb_at 522 (by decide +kernel) rfl, jtb_at 14 (by decide +kernel) rfl, _, rfl, rfl⟩
theorem cl_RX3_158 : jcv RX3 158 mX3_isRightPart 2 1 := ⟨⟨jtb_at 524 (by decide +kernel) rfl, jtb_at 57 (by decide +kernel) rfl, jtb_at 527 (by decide +kernel) rfl, (by decide +kernel)⟩, jtb_at 526 (by decide +kernel) rfl, jtb_at 15 (by decide +kernel) rfl, _, rfl, rfl⟩
theorem cl_RX3_168 : jcv RX3 168 mX3_isLastOfRecord 1 1 := ⟨⟨jtb_at 531 (by decide +kernel) rfl, jtb_at 57 (by decide +kernel) rfl, jtb_at 534 (by decide +kernel) rfl, (by decide +kernel)⟩, jtb_at 533 (by decide +kernel) rfl, jtb_at 16 (by decide +kernel) rfl, _, rfl, rfl⟩
theorem cl_RX3_171 : jcs RX3 171 mX3_fitsOver 2 := ⟨⟨jtb_at 535 (by decide +kernel) rfl, jtb_at 57 (by decide +kernel) rfl, jtb_at 537 (by decide +kernel) rfl, (by decide +kernel)⟩, jtb_at 536 (by decide +kernel) rfl⟩
theorem cl_RX3_174 : jcv RX3 174 mX3_fitsFirstOfName 1 1 := ⟨⟨jtb_at 538 (by decide +kernel) rfl, jtb_at 57 (by decide +kernel) rfl, jtb_at 541 (by decide +kernel) rfl, (by decide +kernel)⟩, jtb_at 540 (by decide +kernel) rfl, jtb_at 17 (by decide +kernel) rfl, _, rfl, rfl⟩
theorem cl_RX3_177 : jcv RX3 177 mX0_liesInRedefining 0 0 := ⟨⟨jtb_at 528 (by decide +kernel) rfl, jtb_at 61 (by decide +kernel) rfl, jtb_at 413 (by decide +kernel) rfl, (by decide +kernel)⟩, jtb_at 411 (by decide +kernel) rfl, jtb_at 412 (by decide +kernel) rfl, _, rfl, rfl⟩
theorem cl_RX3_183 : jcv RX3 183 mX0_isBelow 1 0 := ⟨⟨jtb_at 529 (by decide +kernel) rfl, jtb_at 61 (by decide +kernel) rfl, jtb_at 402 (by decide +kernel) rfl, (by decide +kernel)⟩, jtb_at 400 (by decide +kernel) rfl, jtb_at 401 (by decide +kernel) rfl, _, rfl, rfl⟩
theorem cl_RX3_186 : jcv RX3 186 mX0_tablesWithin 0 0 := ⟨⟨jtb_at 530 (by decide +kernel) rfl, jtb_at 61 (by decide +kernel) rfl, jtb_at 398 (by decide +kernel) rfl, (by decide +kernel)⟩, jtb_at 396 (by decide +kernel) rfl, jtb_at 397 (by decide +kernel) rfl, _, rfl, rfl⟩
theorem cl_RX6_19 : jcs RX6 19 mJ9_min_7cf53 2 := ⟨⟨jtb_at 547 (by decide +kernel) rfl, jtb_at 66 (by decide +kernel) rfl, jtb_at 549 (by decide +kernel) rfl, (by decide +kernel)⟩, jtb_at 548 (by decide +kernel) rfl⟩
theorem cl_RX6_25 : jcs RX6 25 mJ9_max_7cf53 2 := ⟨⟨jtb_at 550 (by decide +kernel) rfl, jtb_at 66 (by decide +kernel) rfl, jtb_at 461 (by decide +kernel) rfl, (by decide +kernel)⟩, jtb_at 460 (by decide +kernel) rfl⟩
theorem cl_RX6_28 : jcv RX6 28 mX6_has 1 4 := ⟨⟨jtb_at 564 (by decide +kernel) rfl, jtb_at 58 (by decide +kernel) rfl, jtb_at 567 (by decide +kernel) rfl, (by decide +kernel)⟩, jtb_at 565 (by decide +kernel) rfl, jtb_at 566 (by decide +kernel) rfl, _, rfl, rfl⟩
theorem cl_RX8_21 : jcv RX8 21 mX8_find 1 6 := ⟨⟨jtb_at 174 (by decide +kernel) rfl, jtb_at 56 (by decide +kernel) rfl, jtb_at 177 (by decide +kernel) rfl, (by decide +kernel)⟩, jtb_at 175 (by decide +kernel) rfl, jtb_at 176 (by decide +kernel) rfl, _, rfl, rfl⟩
theorem cl_RX8_25 : jcv RX8 25 mX8_around 1 6 := ⟨⟨jtb_at 166 (by decide +kernel) rfl, jtb_at 56 (by decide +kernel) rfl, jtb_at 169 (by decide +kernel) rfl, (by decide +kernel)⟩, jtb_at 168 (by decide +kernel) rfl, jtb_at 0 (by decide +kernel) rfl, _, rfl, rfl⟩
theorem cl_RX8_28 : jci RX8 28 mX0_init 5 := ⟨⟨jtb_at 196 (by decide +kernel) rfl, jtb_at 61 (by decide +kernel) rfl, jtb_at 198 (by decide +kernel) rfl, (by decide +kernel)⟩, jtb_at 197 (by decide +kernel) rfl, rfl, rfl⟩
theorem cl_RX8_38 : jcv RX8 38 mX0_isNumber 0 0 := ⟨⟨jtb_at 186 (by decide +kernel) rfl, jtb_at 61 (by decide +kernel) rfl, jtb_at 189 (by decide +kernel) rfl, (by decide +kernel)⟩, jtb_at 187 (by decide +kernel) rfl, jtb_at 188 (by decide +kernel) rfl, _, rfl, rfl⟩
theorem cl_RX8_45 : jcv RX8 45 mX8_latestTopRecord 0 6 := ⟨⟨jtb_at 170 (by decide +kernel) rfl, jtb_at 56 (by decide +kernel) rfl, jtb_at 173 (by decide +kernel) rfl, (by decide +kernel)⟩, jtb_at 172 (by decide +kernel) rfl, jtb_at 1 (by decide +kernel) rfl, _, rfl, rfl⟩
theorem cl_RX8_49 : jcv RX8 49 mX8_latestNotNaming 0 6 := ⟨⟨jtb_at 178 (by decide +kernel) rfl, jtb_at 56 (by decide +kernel) rfl, jtb_at 181 (by decide +kernel) rfl, (by decide +kernel)⟩, jtb_at 180 (by decide +kernel) rfl, jtb_at 2 (by decide +kernel) rfl, _, rfl, rfl⟩
theorem cl_RX8_52 : jcv RX8 52 mX8_latestOfLesserLevel 1 6 := ⟨⟨jtb_at 182 (by decide +kernel) rfl, jtb_at 56 (by decide +kernel) rfl, jtb_at 185 (by decide +kernel) rfl, (by decide +kernel)⟩, jtb_at 184 (by decide +kernel) rfl, jtb_at 3 (by decide +kernel) rfl, _, rfl, rfl⟩
theorem cl_RX8_58 : jcv RX8 58 mX0_isInner 0 0 := ⟨⟨jtb_at 391 (by decide +kernel) rfl, jtb_at 61 (by decide +kernel) rfl, jtb_at 394 (by decide +kernel) rfl, (by decide +kernel)⟩, jtb_at 392 (by decide +kernel) rfl, jtb_at 393 (by decide +kernel) rfl, _, rfl, rfl⟩
theorem cl_RX8_69 : jcv RX8 69 mX0_tablesWithin 0 0 := ⟨⟨jtb_at 395 (by decide +kernel) rfl, jtb_at 61 (by decide +kernel) rfl, jtb_at 398 (by decide +kernel) rfl, (by decide +kernel)⟩, jtb_at 396 (by decide +kernel) rfl, jtb_at 397 (by decide +kernel) rfl, _, rfl, rfl⟩
theorem cl_RX8_76 : jcv RX8 76 mX0_isBelow 1 0 := ⟨⟨jtb_at 399 (by decide +kernel) rfl, jtb_at 61 (by decide +kernel) rfl, jtb_at 402 (by decide +kernel) rfl, (by decide +kernel)⟩, jtb_at 400 (by decide +kernel) rfl, jtb_at 401 (by decide +kernel) rfl, _, rfl, rfl⟩
theorem cl_RX8_94 : jcv RX8 94 mX8_allBetweenRedefine 2 6 := ⟨⟨jtb_at 631 (by decide +kernel) rfl, jtb_at 56 (by decide +kernel) rfl, jtb_at 634 (by decide +kernel) rfl, (by decide +kernel)⟩, jtb_at 633 (by decide +kernel) rfl, jtb_at 22 (by decide +kernel) rfl, _, rfl, rfl⟩
theorem cl_RX8_98 : jcv RX8 98 mX8_hasValues 1 6 := ⟨⟨jtb_at 635 (by decide +kernel) rfl, jtb_at 56 (by decide +kernel) rfl, jtb_at 638 (by decide +kernel) rfl, (by decide +kernel)⟩, jtb_at 637 (by decide +kernel) rfl, jtb_at 23 (by decide +kernel) rfl, _, rfl, rfl⟩
theorem cl_RX9_9 : jcn RX9 9 mX8_init 0 := ⟨⟨"DataLayout", by decide +kernel⟩, jtb_at 56 (by decide +kernel) rfl, jtb_at 86 (by decide +kernel) rfl, (by decide +kernel), jtb_at 85 (by decide +kernel) rfl, rfl, rfl⟩
theorem cl_RX9_18 : jci RX9 18 mX3_init 1 := ⟨⟨jtb_at 103 (by decide +kernel) rfl, jtb_at 57 (by decide +kernel) rfl, jtb_at 105 (by decide +kernel) rfl, (by decide +kernel)⟩, jtb_at 104 (by decide +kernel) rfl, rfl, rfl⟩
theorem cl_RX9_27 : jcn RX9 27 mX6_init 0 := ⟨⟨"DataLayout", by decide +kernel⟩, jtb_at 58 (by decide +kernel) rfl, jtb_at 119 (by decide +kernel) rfl, (by decide +kernel), jtb_at 118 (by decide +kernel) rfl, rfl, rfl⟩
theorem cl_RX9_43 : jcs RX9 43 mX1_isLevel 1 := ⟨⟨jtb_at 153 (by decide +kernel) rfl, jtb_at 60 (by decide +kernel) rfl, jtb_at 155 (by decide +kernel) rfl, (by decide +kernel)⟩, jtb_at 154 (by decide +kernel) rfl⟩
theorem cl_RX9_49 : jcs RX9 49 mX1_isUsage 3 := ⟨⟨jtb_at 156 (by decide +kernel) rfl, jtb_at 60 (by decide +kernel) rfl, jtb_at 158 (by decide +kernel) rfl, (by decide +kernel)⟩, jtb_at 157 (by decide +kernel) rfl⟩
theorem cl_RX9_53 : jcv RX9 53 mX8_hasPlaceFor 1 6 := ⟨⟨jtb_at 162 (by decide +kernel) rfl, jtb_at 56 (by decide +kernel) rfl, jtb_at 165 (by decide +kernel) rfl, (by decide +kernel)⟩, jtb_at 163 (by decide +kernel) rfl, jtb_at 164 (by decide +kernel) rfl, _, rfl, rfl⟩
theorem cl_RX9_59 : jcv RX9 59 mX8_add 3 6 := ⟨⟨jtb_at 191 (by decide +kernel) rfl, jtb_at 56 (by decide +kernel) rfl, jtb_at 194 (by decide +kernel) rfl, (by decide +kernel)⟩, jtb_at 192 (by decide +kernel) rfl, jtb_at 193 (by decide +kernel) rfl, _, rfl, rfl⟩
theorem cl_RX9_63 : jcv RX9 63 mX8_find 1 6 := ⟨⟨jtb_at 342 (by decide +kernel) rfl, jtb_at 56 (by decide +kernel) rfl, jtb_at 177 (by decide +kernel) rfl, (by decide +kernel)⟩, jtb_at 175 (by decide +kernel) rfl, jtb_at 176 (by decide +kernel) rfl, _, rfl, rfl⟩
theorem cl_RX9_67 : jcs RX9 67 mX1_isClause 3 := ⟨⟨jtb_at 343 (by decide +kernel) rfl, jtb_at 60 (by decide +kernel) rfl, jtb_at 345 (by decide +kernel) rfl, (by decide +kernel)⟩, jtb_at 344 (by decide +kernel) rfl⟩
theorem cl_RX9_70 : jcv RX9 70 mX9_tellClause 4 7 := ⟨⟨jtb_at 346 (by decide +kernel) rfl, jtb_at 55 (by decide +kernel) rfl, jtb_at 349 (by decide +kernel) rfl, (by decide +kernel)⟩, jtb_at 348 (by decide +kernel) rfl, jtb_at 4 (by decide +kernel) rfl, _, rfl, rfl⟩
theorem cl_RX9_74 : jcv RX9 74 mX3_layAll 0 1 := ⟨⟨jtb_at 451 (by decide +kernel) rfl, jtb_at 57 (by decide +kernel) rfl, jtb_at 454 (by decide +kernel) rfl, (by decide +kernel)⟩, jtb_at 452 (by decide +kernel) rfl, jtb_at 453 (by decide +kernel) rfl, _, rfl, rfl⟩
theorem cl_RX9_77 : jcv RX9 77 mX3_firstWrong 0 1 := ⟨⟨jtb_at 516 (by decide +kernel) rfl, jtb_at 57 (by decide +kernel) rfl, jtb_at 519 (by decide +kernel) rfl, (by decide +kernel)⟩, jtb_at 517 (by decide +kernel) rfl, jtb_at 518 (by decide +kernel) rfl, _, rfl, rfl⟩
theorem cl_RX9_87 : jcv RX9 87 mX6_clear 1 4 := ⟨⟨jtb_at 543 (by decide +kernel) rfl, jtb_at 58 (by decide +kernel) rfl, jtb_at 546 (by decide +kernel) rfl, (by decide +kernel)⟩, jtb_at 544 (by decide +kernel) rfl, jtb_at 545 (by decide +kernel) rfl, _, rfl, rfl⟩
theorem cl_RX9_91 : jcv RX9 91 mX9_fillFirstEntries 0 7 := ⟨⟨jtb_at 551 (by decide +kernel) rfl, jtb_at 55 (by decide +kernel) rfl, jtb_at 554 (by decide +kernel) rfl, (by decide +kernel)⟩, jtb_at 553 (by decide +kernel) rfl, jtb_at 18 (by decide +kernel) rfl, _, rfl, rfl⟩
theorem cl_RX9_94 : jcv RX9 94 mX9_fillOtherEntries 0 7 := ⟨⟨jtb_at 591 (by decide +kernel) rfl, jtb_at 55 (by decide +kernel) rfl, jtb_at 594 (by decide +kernel) rfl, (by decide +kernel)⟩, jtb_at 593 (by decide +kernel) rfl, jtb_at 20 (by decide +kernel) rfl, _, rfl, rfl⟩
theorem cl_RX9_100 : jcv RX9 100 mX9_refusalFor 2 7 := ⟨⟨jtb_at 603 (by decide +kernel) rfl, jtb_at 55 (by decide +kernel) rfl, jtb_at 606 (by decide +kernel) rfl, (by decide +kernel)⟩, jtb_at 605 (by decide +kernel) rfl, jtb_at 21 (by decide +kernel) rfl, _, rfl, rfl⟩
theorem cl_RX9_115 : jcv RX9 115 mX0_lengthNow 0 0 := ⟨⟨jtb_at 611 (by decide +kernel) rfl, jtb_at 61 (by decide +kernel) rfl, jtb_at 614 (by decide +kernel) rfl, (by decide +kernel)⟩, jtb_at 612 (by decide +kernel) rfl, jtb_at 613 (by decide +kernel) rfl, _, rfl, rfl⟩
theorem cl_RX9_119 : jcv RX9 119 mX0_tablesWithin 0 0 := ⟨⟨jtb_at 680 (by decide +kernel) rfl, jtb_at 61 (by decide +kernel) rfl, jtb_at 398 (by decide +kernel) rfl, (by decide +kernel)⟩, jtb_at 396 (by decide +kernel) rfl, jtb_at 397 (by decide +kernel) rfl, _, rfl, rfl⟩
theorem cl_RX9_122 : jcv RX9 122 mX0_tableOutwards 1 0 := ⟨⟨jtb_at 681 (by decide +kernel) rfl, jtb_at 61 (by decide +kernel) rfl, jtb_at 684 (by decide +kernel) rfl, (by decide +kernel)⟩, jtb_at 682 (by decide +kernel) rfl, jtb_at 683 (by decide +kernel) rfl, _, rfl, rfl⟩
theorem cl_RX9_134 : jcv RX9 134 mX0_length 0 0 := ⟨⟨jtb_at 685 (by decide +kernel) rfl, jtb_at 61 (by decide +kernel) rfl, jtb_at 477 (by decide +kernel) rfl, (by decide +kernel)⟩, jtb_at 475 (by decide +kernel) rfl, jtb_at 476 (by decide +kernel) rfl, _, rfl, rfl⟩
theorem cl_RX9_157 : jcv RX9 157 mX8_mayRedefine 2 6 := ⟨⟨jtb_at 627 (by decide +kernel) rfl, jtb_at 56 (by decide +kernel) rfl, jtb_at 630 (by decide +kernel) rfl, (by decide +kernel)⟩, jtb_at 628 (by decide +kernel) rfl, jtb_at 629 (by decide +kernel) rfl, _, rfl, rfl⟩
theorem cl_RX9_177 : jcv RX9 177 mX6_has 1 4 := ⟨⟨jtb_at 655 (by decide +kernel) rfl, jtb_at 58 (by decide +kernel) rfl, jtb_at 567 (by decide +kernel) rfl, (by decide +kernel)⟩, jtb_at 565 (by decide +kernel) rfl, jtb_at 566 (by decide +kernel) rfl, _, rfl, rfl⟩
theorem cl_RX9_182 : jcv RX9 182 mX6_get 1 4 := ⟨⟨jtb_at 766 (by decide +kernel) rfl, jtb_at 58 (by decide +kernel) rfl, jtb_at 769 (by decide +kernel) rfl, (by decide +kernel)⟩, jtb_at 767 (by decide +kernel) rfl, jtb_at 768 (by decide +kernel) rfl, _, rfl, rfl⟩
theorem cl_RX9_186 : jcv RX9 186 mX6_put 2 4 := ⟨⟨jtb_at 560 (by decide +kernel) rfl, jtb_at 58 (by decide +kernel) rfl, jtb_at 563 (by decide +kernel) rfl, (by decide +kernel)⟩, jtb_at 561 (by decide +kernel) rfl, jtb_at 562 (by decide +kernel) rfl, _, rfl, rfl⟩
theorem cl_RX9_203 : jcs RX9 203 mX2_read 2 := ⟨⟨jtb_at 811 (by decide +kernel) rfl, jtb_at 64 (by decide +kernel) rfl, jtb_at 813 (by decide +kernel) rfl, (by decide +kernel)⟩, jtb_at 812 (by decide +kernel) rfl⟩
theorem cl_RX9_213 : jcv RX9 213 mX4_contain 1 2 := ⟨⟨jtb_at 838 (by decide +kernel) rfl, jtb_at 65 (by decide +kernel) rfl, jtb_at 841 (by decide +kernel) rfl, (by decide +kernel)⟩, jtb_at 839 (by decide +kernel) rfl, jtb_at 840 (by decide +kernel) rfl, _, rfl, rfl⟩
theorem cl_RX9_219 : jcv RX9 219 mX8_records 0 6 := ⟨⟨jtb_at 660 (by decide +kernel) rfl, jtb_at 56 (by decide +kernel) rfl, jtb_at 663 (by decide +kernel) rfl, (by decide +kernel)⟩, jtb_at 661 (by decide +kernel) rfl, jtb_at 662 (by decide +kernel) rfl, _, rfl, rfl⟩
theorem cl_RX9_222 : jcv RX9 222 mX8_tables 0 6 := ⟨⟨jtb_at 664 (by decide +kernel) rfl, jtb_at 56 (by decide +kernel) rfl, jtb_at 667 (by decide +kernel) rfl, (by decide +kernel)⟩, jtb_at 665 (by decide +kernel) rfl, jtb_at 666 (by decide +kernel) rfl, _, rfl, rfl⟩
theorem cl_RX9_225 : jcv RX9 225 mX8_slackBytes 0 6 := ⟨⟨jtb_at 668 (by decide +kernel) rfl, jtb_at 56 (by decide +kernel) rfl, jtb_at 671 (by decide +kernel) rfl, (by decide +kernel)⟩, jtb_at 669 (by decide +kernel) rfl, jtb_at 670 (by decide +kernel) rfl, _, rfl, rfl⟩
theorem cl_RX9_228 : jci RX9 228 mX7_init 3 := ⟨⟨jtb_at 352 (by decide +kernel) rfl, jtb_at 63 (by decide +kernel) rfl, jtb_at 354 (by decide +kernel) rfl, (by decide +kernel)⟩, jtb_at 353 (by decide +kernel) rfl, rfl, rfl⟩
theorem cl_RX9_231 : jcv RX9 231 mX9_tellTable 2 7 := ⟨⟨jtb_at 383 (by decide +kernel) rfl, jtb_at 55 (by decide +kernel) rfl, jtb_at 386 (by decide +kernel) rfl, (by decide +kernel)⟩, jtb_at 385 (by decide +kernel) rfl, jtb_at 5 (by decide +kernel) rfl, _, rfl, rfl⟩
theorem cl_RX9_235 : jcs RX9 235 mX9_tellSynchronised 1 := ⟨⟨jtb_at 403 (by decide +kernel) rfl, jtb_at 55 (by decide +kernel) rfl, jtb_at 405 (by decide +kernel) rfl, (by decide +kernel)⟩, jtb_at 404 (by decide +kernel) rfl⟩
theorem cl_RX9_239 : jcs RX9 239 mX9_tellValue 2 := ⟨⟨jtb_at 406 (by decide +kernel) rfl, jtb_at 55 (by decide +kernel) rfl, jtb_at 408 (by decide +kernel) rfl, (by decide +kernel)⟩, jtb_at 407 (by decide +kernel) rfl⟩
theorem cl_RX9_243 : jcs RX9 243 mX9_tellRange 3 := ⟨⟨jtb_at 418 (by decide +kernel) rfl, jtb_at 55 (by decide +kernel) rfl, jtb_at 420 (by decide +kernel) rfl, (by decide +kernel)⟩, jtb_at 419 (by decide +kernel) rfl⟩
theorem cl_RX9_247 : jcs RX9 247 mX9_tellPart 3 := ⟨⟨jtb_at 442 (by decide +kernel) rfl, jtb_at 55 (by decide +kernel) rfl, jtb_at 444 (by decide +kernel) rfl, (by decide +kernel)⟩, jtb_at 443 (by decide +kernel) rfl⟩
theorem cl_RX9_251 : jcv RX9 251 mX8_mayBeTable 2 6 := ⟨⟨jtb_at 387 (by decide +kernel) rfl, jtb_at 56 (by decide +kernel) rfl, jtb_at 390 (by decide +kernel) rfl, (by decide +kernel)⟩, jtb_at 388 (by decide +kernel) rfl, jtb_at 389 (by decide +kernel) rfl, _, rfl, rfl⟩
theorem cl_RX9_261 : jcv RX9 261 mX0_isNumber 0 0 := ⟨⟨jtb_at 409 (by decide +kernel) rfl, jtb_at 61 (by decide +kernel) rfl, jtb_at 189 (by decide +kernel) rfl, (by decide +kernel)⟩, jtb_at 187 (by decide +kernel) rfl, jtb_at 188 (by decide +kernel) rfl, _, rfl, rfl⟩
theorem cl_RX9_268 : jcv RX9 268 mX0_liesInRedefining 0 0 := ⟨⟨jtb_at 410 (by decide +kernel) rfl, jtb_at 61 (by decide +kernel) rfl, jtb_at 413 (by decide +kernel) rfl, (by decide +kernel)⟩, jtb_at 411 (by decide +kernel) rfl, jtb_at 412 (by decide +kernel) rfl, _, rfl, rfl⟩
theorem cl_RX9_274 : jcs RX9 274 mX2_hasRoomFor 2 := ⟨⟨jtb_at 414 (by decide +kernel) rfl, jtb_at 64 (by decide +kernel) rfl, jtb_at 416 (by decide +kernel) rfl, (by decide +kernel)⟩, jtb_at 415 (by decide +kernel) rfl⟩
theorem cl_RX9_281 : jcn RX9 281 mX4_init 0 := ⟨⟨"DataLayout", by decide +kernel⟩, jtb_at 65 (by decide +kernel) rfl, jtb_at 425 (by decide +kernel) rfl, (by decide +kernel), jtb_at 424 (by decide +kernel) rfl, rfl, rfl⟩
theorem cl_RX9_282 : jcv RX9 282 mX4_add 2 2 := ⟨⟨jtb_at 438 (by decide +kernel) rfl, jtb_at 65 (by decide +kernel) rfl, jtb_at 441 (by decide +kernel) rfl, (by decide +kernel)⟩, jtb_at 439 (by decide +kernel) rfl, jtb_at 440 (by decide +kernel) rfl, _, rfl, rfl⟩
theorem cl_RX9_287 : jcv RX9 287 mX0_isInner 0 0 := ⟨⟨jtb_at 445 (by decide +kernel) rfl, jtb_at 61 (by decide +kernel) rfl, jtb_at 394 (by decide +kernel) rfl, (by decide +kernel)⟩, jtb_at 392 (by decide +kernel) rfl, jtb_at 393 (by decide +kernel) rfl, _, rfl, rfl⟩
theorem cl_RX9_296 : jcv RX9 296 mX0_isBelow 1 0 := ⟨⟨jtb_at 446 (by decide +kernel) rfl, jtb_at 61 (by decide +kernel) rfl, jtb_at 402 (by decide +kernel) rfl, (by decide +kernel)⟩, jtb_at 400 (by decide +kernel) rfl, jtb_at 401 (by decide +kernel) rfl, _, rfl, rfl⟩
theorem cl_RX9_306 : jcv RX9 306 mX0_lies 0 0 := ⟨⟨jtb_at 555 (by decide +kernel) rfl, jtb_at 61 (by decide +kernel) rfl, jtb_at 465 (by decide +kernel) rfl, (by decide +kernel)⟩, jtb_at 463 (by decide +kernel) rfl, jtb_at 464 (by decide +kernel) rfl, _, rfl, rfl⟩
theorem cl_RX9_315 : jcv RX9 315 mX9_fillText 3 7 := ⟨⟨jtb_at 556 (by decide +kernel) rfl, jtb_at 55 (by decide +kernel) rfl, jtb_at 559 (by decide +kernel) rfl, (by decide +kernel)⟩, jtb_at 558 (by decide +kernel) rfl, jtb_at 19 (by decide +kernel) rfl, _, rfl, rfl⟩
theorem cl_RX9_318 : jcs RX9 318 mX2_write 2 := ⟨⟨jtb_at 568 (by decide +kernel) rfl, jtb_at 64 (by decide +kernel) rfl, jtb_at 570 (by decide +kernel) rfl, (by decide +kernel)⟩, jtb_at 569 (by decide +kernel) rfl⟩
theorem cl_RX9_322 : jcv RX9 322 mX6_repeat 3 4 := ⟨⟨jtb_at 595 (by decide +kernel) rfl, jtb_at 58 (by decide +kernel) rfl, jtb_at 598 (by decide +kernel) rfl, (by decide +kernel)⟩, jtb_at 596 (by decide +kernel) rfl, jtb_at 597 (by decide +kernel) rfl, _, rfl, rfl⟩
theorem cl_RX10_105 : jcv RX10 105 mX10_lies 1 8 := ⟨⟨jtb_at 974 (by decide +kernel) rfl, jtb_at 59 (by decide +kernel) rfl, jtb_at 977 (by decide +kernel) rfl, (by decide +kernel)⟩, jtb_at 976 (by decide +kernel) rfl, jtb_at 26 (by decide +kernel) rfl, _, rfl, rfl⟩
theorem cl_RX10_109 : jcs RX10 109 mX10_isSize 2 := ⟨⟨jtb_at 967 (by decide +kernel) rfl, jtb_at 59 (by decide +kernel) rfl, jtb_at 969 (by decide +kernel) rfl, (by decide +kernel)⟩, jtb_at 968 (by decide +kernel) rfl⟩
theorem cl_RX10_113 : jcv RX10 113 mX10_above 1 8 := ⟨⟨jtb_at 970 (by decide +kernel) rfl, jtb_at 59 (by decide +kernel) rfl, jtb_at 973 (by decide +kernel) rfl, (by decide +kernel)⟩, jtb_at 972 (by decide +kernel) rfl, jtb_at 25 (by decide +kernel) rfl, _, rfl, rfl⟩
theorem cl_RX10_117 : jcv RX10 117 mX10_named 0 8 := ⟨⟨jtb_at 978 (by decide +kernel) rfl, jtb_at 59 (by decide +kernel) rfl, jtb_at 981 (by decide +kernel) rfl, (by decide +kernel)⟩, jtb_at 980 (by decide +kernel) rfl, jtb_at 27 (by decide +kernel) rfl, _, rfl, rfl⟩
theorem cl_RX10_124 : jcv RX10 124 mX10_isRedefined 1 8 := ⟨⟨jtb_at 997 (by decide +kernel) rfl, jtb_at 59 (by decide +kernel) rfl, jtb_at 1000 (by decide +kernel) rfl, (by decide +kernel)⟩, jtb_at 999 (by decide +kernel) rfl, jtb_at 30 (by decide +kernel) rfl, _, rfl, rfl⟩
theorem cl_RX10_127 : jcv RX10 127 mX10_tablesUp 2 8 := ⟨⟨jtb_at 1001 (by decide +kernel) rfl, jtb_at 59 (by decide +kernel) rfl, jtb_at 1004 (by decide +kernel) rfl, (by decide +kernel)⟩, jtb_at 1003 (by decide +kernel) rfl, jtb_at 31 (by decide +kernel) rfl, _, rfl, rfl⟩
theorem cl_RX10_131 : jcv RX10 131 mX10_isBelow 2 8 := ⟨⟨jtb_at 1005 (by decide +kernel) rfl, jtb_at 59 (by decide +kernel) rfl, jtb_at 1008 (by decide +kernel) rfl, (by decide +kernel)⟩, jtb_at 1007 (by decide +kernel) rfl, jtb_at 32 (by decide +kernel) rfl, _, rfl, rfl⟩
theorem cl_RX10_136 : jcv RX10 136 mX10_is 1 8 := ⟨⟨jtb_at 986 (by decide +kernel) rfl, jtb_at 59 (by decide +kernel) rfl, jtb_at 989 (by decide +kernel) rfl, (by decide +kernel)⟩, jtb_at 988 (by decide +kernel) rfl, jtb_at 28 (by decide +kernel) rfl, _, rfl, rfl⟩
theorem cl_RX10_139 : jcs RX10 139 mX10_isClause 3 := ⟨⟨jtb_at 990 (by decide +kernel) rfl, jtb_at 59 (by decide +kernel) rfl, jtb_at 992 (by decide +kernel) rfl, (by decide +kernel)⟩, jtb_at 991 (by decide +kernel) rfl⟩
theorem cl_RX10_143 : jcv RX10 143 mX10_mayBeTable 2 8 := ⟨⟨jtb_at 993 (by decide +kernel) rfl, jtb_at 59 (by decide +kernel) rfl, jtb_at 996 (by decide +kernel) rfl, (by decide +kernel)⟩, jtb_at 995 (by decide +kernel) rfl, jtb_at 29 (by decide +kernel) rfl, _, rfl, rfl⟩
theorem cl_RX10_147 : jcs RX10 147 mX10_digitsOf 1 := ⟨⟨jtb_at 1009 (by decide +kernel) rfl, jtb_at 59 (by decide +kernel) rfl, jtb_at 1011 (by decide +kernel) rfl, (by decide +kernel)⟩, jtb_at 1010 (by decide +kernel) rfl⟩
theorem cl_RX10_150 : jcv RX10 150 mX10_isAside 1 8 := ⟨⟨jtb_at 1013 (by decide +kernel) rfl, jtb_at 59 (by decide +kernel) rfl, jtb_at 1016 (by decide +kernel) rfl, (by decide +kernel)⟩, jtb_at 1015 (by decide +kernel) rfl, jtb_at 33 (by decide +kernel) rfl, _, rfl, rfl⟩
theorem cl_RX10_153 : jcv RX10 153 mX10_isPart 2 8 := ⟨⟨jtb_at 1017 (by decide +kernel) rfl, jtb_at 59 (by decide +kernel) rfl, jtb_at 1020 (by decide +kernel) rfl, (by decide +kernel)⟩, jtb_at 1019 (by decide +kernel) rfl, jtb_at 34 (by decide +kernel) rfl, _, rfl, rfl⟩
theorem cl_RX10_156 : jcs RX10 156 mX10_up 2 := ⟨⟨jtb_at 1049 (by decide +kernel) rfl, jtb_at 59 (by decide +kernel) rfl, jtb_at 1051 (by decide +kernel) rfl, (by decide +kernel)⟩, jtb_at 1050 (by decide +kernel) rfl⟩
theorem cl_RX10_160 : jcv RX10 160 mX10_bytesOf 1 8 := ⟨⟨jtb_at 1041 (by decide +kernel) rfl, jtb_at 59 (by decide +kernel) rfl, jtb_at 1044 (by decide +kernel) rfl, (by decide +kernel)⟩, jtb_at 1043 (by decide +kernel) rfl, jtb_at 36 (by decide +kernel) rfl, _, rfl, rfl⟩
theorem cl_RX10_163 : jcv RX10 163 mX10_close 1 8 := ⟨⟨jtb_at 1045 (by decide +kernel) rfl, jtb_at 59 (by decide +kernel) rfl, jtb_at 1048 (by decide +kernel) rfl, (by decide +kernel)⟩, jtb_at 1047 (by decide +kernel) rfl, jtb_at 37 (by decide +kernel) rfl, _, rfl, rfl⟩
theorem cl_RX10_167 : jcv RX10 167 mX10_begin 2 8 := ⟨⟨jtb_at 1052 (by decide +kernel) rfl, jtb_at 59 (by decide +kernel) rfl, jtb_at 1055 (by decide +kernel) rfl, (by decide +kernel)⟩, jtb_at 1054 (by decide +kernel) rfl, jtb_at 38 (by decide +kernel) rfl, _, rfl, rfl⟩
theorem cl_RX10_171 : jcv RX10 171 mX10_firstOf 1 8 := ⟨⟨jtb_at 1056 (by decide +kernel) rfl, jtb_at 59 (by decide +kernel) rfl, jtb_at 1059 (by decide +kernel) rfl, (by decide +kernel)⟩, jtb_at 1058 (by decide +kernel) rfl, jtb_at 39 (by decide +kernel) rfl, _, rfl, rfl⟩
theorem cl_RX10_174 : jcv RX10 174 mX10_alignment 1 8 := ⟨⟨jtb_at 1060 (by decide +kernel) rfl, jtb_at 59 (by decide +kernel) rfl, jtb_at 1063 (by decide +kernel) rfl, (by decide +kernel)⟩, jtb_at 1062 (by decide +kernel) rfl, jtb_at 40 (by decide +kernel) rfl, _, rfl, rfl⟩
theorem cl_RX10_177 : jcv RX10 177 mX10_isBadPart 1 8 := ⟨⟨jtb_at 1068 (by decide +kernel) rfl, jtb_at 59 (by decide +kernel) rfl, jtb_at 1071 (by decide +kernel) rfl, (by decide +kernel)⟩, jtb_at 1070 (by decide +kernel) rfl, jtb_at 42 (by decide +kernel) rfl, _, rfl, rfl⟩
theorem cl_RX10_180 : jcv RX10 180 mX10_hasBelow 1 8 := ⟨⟨jtb_at 1072 (by decide +kernel) rfl, jtb_at 59 (by decide +kernel) rfl, jtb_at 1075 (by decide +kernel) rfl, (by decide +kernel)⟩, jtb_at 1074 (by decide +kernel) rfl, jtb_at 43 (by decide +kernel) rfl, _, rfl, rfl⟩
theorem cl_RX10_183 : jcv RX10 183 mX10_isLast 1 8 := ⟨⟨jtb_at 1076 (by decide +kernel) rfl, jtb_at 59 (by decide +kernel) rfl, jtb_at 1079 (by decide +kernel) rfl, (by decide +kernel)⟩, jtb_at 1078 (by decide +kernel) rfl, jtb_at 44 (by decide +kernel) rfl, _, rfl, rfl⟩
theorem cl_RX10_186 : jcv RX10 186 mX10_layAll 0 8 := ⟨⟨jtb_at 1037 (by decide +kernel) rfl, jtb_at 59 (by decide +kernel) rfl, jtb_at 1040 (by decide +kernel) rfl, (by decide +kernel)⟩, jtb_at 1039 (by decide +kernel) rfl, jtb_at 35 (by decide +kernel) rfl, _, rfl, rfl⟩
theorem cl_RX10_189 : jcv RX10 189 mX10_isWrong 1 8 := ⟨⟨jtb_at 1064 (by decide +kernel) rfl, jtb_at 59 (by decide +kernel) rfl, jtb_at 1067 (by decide +kernel) rfl, (by decide +kernel)⟩, jtb_at 1066 (by decide +kernel) rfl, jtb_at 41 (by decide +kernel) rfl, _, rfl, rfl⟩
theorem cl_RX10_200 : jcv RX10 200 mX10_fillAll 1 8 := ⟨⟨jtb_at 1081 (by decide +kernel) rfl, jtb_at 59 (by decide +kernel) rfl, jtb_at 1084 (by decide +kernel) rfl, (by decide +kernel)⟩, jtb_at 1083 (by decide +kernel) rfl, jtb_at 45 (by decide +kernel) rfl, _, rfl, rfl⟩
theorem cl_RX10_206 : jcv RX10 206 mX10_findAround 1 8 := ⟨⟨jtb_at 1085 (by decide +kernel) rfl, jtb_at 59 (by decide +kernel) rfl, jtb_at 1088 (by decide +kernel) rfl, (by decide +kernel)⟩, jtb_at 1087 (by decide +kernel) rfl, jtb_at 46 (by decide +kernel) rfl, _, rfl, rfl⟩
theorem cl_RX10_209 : jcv RX10 209 mX10_fill 2 8 := ⟨⟨jtb_at 1089 (by decide +kernel) rfl, jtb_at 59 (by decide +kernel) rfl, jtb_at 1092 (by decide +kernel) rfl, (by decide +kernel)⟩, jtb_at 1091 (by decide +kernel) rfl, jtb_at 47 (by decide +kernel) rfl, _, rfl, rfl⟩
theorem cl_RX10_215 : jcv RX10 215 mX10_refused 2 8 := ⟨⟨jtb_at 1098 (by decide +kernel) rfl, jtb_at 59 (by decide +kernel) rfl, jtb_at 1101 (by decide +kernel) rfl, (by decide +kernel)⟩, jtb_at 1100 (by decide +kernel) rfl, jtb_at 48 (by decide +kernel) rfl, _, rfl, rfl⟩
theorem cl_RX10_219 : jcv RX10 219 mX10_placeOf 1 8 := ⟨⟨jtb_at 1102 (by decide +kernel) rfl, jtb_at 59 (by decide +kernel) rfl, jtb_at 1105 (by decide +kernel) rfl, (by decide +kernel)⟩, jtb_at 1104 (by decide +kernel) rfl, jtb_at 49 (by decide +kernel) rfl, _, rfl, rfl⟩
theorem cl_RX10_223 : jcv RX10 223 mX10_sizeOf 1 8 := ⟨⟨jtb_at 1110 (by decide +kernel) rfl, jtb_at 59 (by decide +kernel) rfl, jtb_at 1113 (by decide +kernel) rfl, (by decide +kernel)⟩, jtb_at 1112 (by decide +kernel) rfl, jtb_at 50 (by decide +kernel) rfl, _, rfl, rfl⟩
theorem cl_RX10_233 : jcv RX10 233 mX10_saysPacked 3 8 := ⟨⟨jtb_at 1146 (by decide +kernel) rfl, jtb_at 59 (by decide +kernel) rfl, jtb_at 1149 (by decide +kernel) rfl, (by decide +kernel)⟩, jtb_at 1148 (by decide +kernel) rfl, jtb_at 52 (by decide +kernel) rfl, _, rfl, rfl⟩
theorem cl_RX10_236 : jcv RX10 236 mX10_isDigit 1 8 := ⟨⟨jtb_at 1150 (by decide +kernel) rfl, jtb_at 59 (by decide +kernel) rfl, jtb_at 1153 (by decide +kernel) rfl, (by decide +kernel)⟩, jtb_at 1152 (by decide +kernel) rfl, jtb_at 53 (by decide +kernel) rfl, _, rfl, rfl⟩
theorem cl_RX10_239 : jcv RX10 239 mX10_says 1 8 := ⟨⟨jtb_at 1142 (by decide +kernel) rfl, jtb_at 59 (by decide +kernel) rfl, jtb_at 1145 (by decide +kernel) rfl, (by decide +kernel)⟩, jtb_at 1144 (by decide +kernel) rfl, jtb_at 51 (by decide +kernel) rfl, _, rfl, rfl⟩
theorem cl_RL_7 : jcv RL 7 mX9_subscript 4 7 := ⟨⟨jtb_at 676 (by decide +kernel) rfl, jtb_at 55 (by decide +kernel) rfl, jtb_at 679 (by decide +kernel) rfl, (by decide +kernel)⟩, jtb_at 677 (by decide +kernel) rfl, jtb_at 678 (by decide +kernel) rfl, _, rfl, rfl⟩
theorem cl_RL_15 : jcv RL 15 mX9_at 1 7 := ⟨⟨jtb_at 761 (by decide +kernel) rfl, jtb_at 55 (by decide +kernel) rfl, jtb_at 764 (by decide +kernel) rfl, (by decide +kernel)⟩, jtb_at 762 (by decide +kernel) rfl, jtb_at 763 (by decide +kernel) rfl, _, rfl, rfl⟩
theorem cl_RL_19 : jcv RL 19 mX9_holds 1 7 := ⟨⟨jtb_at 775 (by decide +kernel) rfl, jtb_at 55 (by decide +kernel) rfl, jtb_at 778 (by decide +kernel) rfl, (by decide +kernel)⟩, jtb_at 776 (by decide +kernel) rfl, jtb_at 777 (by decide +kernel) rfl, _, rfl, rfl⟩
theorem cl_RL_27 : jci RL 27 mX9_init 0 := ⟨⟨jtb_at 76 (by decide +kernel) rfl, jtb_at 55 (by decide +kernel) rfl, jtb_at 78 (by decide +kernel) rfl, (by decide +kernel)⟩, jtb_at 77 (by decide +kernel) rfl, rfl, rfl⟩
theorem cl_RL_30 : jci RL 30 mX10_init 0 := ⟨⟨jtb_at 844 (by decide +kernel) rfl, jtb_at 59 (by decide +kernel) rfl, jtb_at 846 (by decide +kernel) rfl, (by decide +kernel)⟩, jtb_at 845 (by decide +kernel) rfl, rfl, rfl⟩
theorem cl_RL_31 : jcv RL 31 mX9_item 3 7 := ⟨⟨jtb_at 149 (by decide +kernel) rfl, jtb_at 55 (by decide +kernel) rfl, jtb_at 152 (by decide +kernel) rfl, (by decide +kernel)⟩, jtb_at 150 (by decide +kernel) rfl, jtb_at 151 (by decide +kernel) rfl, _, rfl, rfl⟩
theorem cl_RL_35 : jcv RL 35 mX10_item 3 8 := ⟨⟨jtb_at 963 (by decide +kernel) rfl, jtb_at 59 (by decide +kernel) rfl, jtb_at 966 (by decide +kernel) rfl, (by decide +kernel)⟩, jtb_at 964 (by decide +kernel) rfl, jtb_at 965 (by decide +kernel) rfl, _, rfl, rfl⟩
theorem cl_RL_36 : jcv RL 36 mX9_clause 4 7 := ⟨⟨jtb_at 338 (by decide +kernel) rfl, jtb_at 55 (by decide +kernel) rfl, jtb_at 341 (by decide +kernel) rfl, (by decide +kernel)⟩, jtb_at 339 (by decide +kernel) rfl, jtb_at 340 (by decide +kernel) rfl, _, rfl, rfl⟩
theorem cl_RL_39 : jcv RL 39 mX10_clause 4 8 := ⟨⟨jtb_at 982 (by decide +kernel) rfl, jtb_at 59 (by decide +kernel) rfl, jtb_at 985 (by decide +kernel) rfl, (by decide +kernel)⟩, jtb_at 983 (by decide +kernel) rfl, jtb_at 984 (by decide +kernel) rfl, _, rfl, rfl⟩
theorem cl_RL_40 : jcv RL 40 mX9_lay 0 7 := ⟨⟨jtb_at 447 (by decide +kernel) rfl, jtb_at 55 (by decide +kernel) rfl, jtb_at 450 (by decide +kernel) rfl, (by decide +kernel)⟩, jtb_at 448 (by decide +kernel) rfl, jtb_at 449 (by decide +kernel) rfl, _, rfl, rfl⟩
theorem cl_RL_44 : jcv RL 44 mX10_lay 0 8 := ⟨⟨jtb_at 1033 (by decide +kernel) rfl, jtb_at 59 (by decide +kernel) rfl, jtb_at 1036 (by decide +kernel) rfl, (by decide +kernel)⟩, jtb_at 1034 (by decide +kernel) rfl, jtb_at 1035 (by decide +kernel) rfl, _, rfl, rfl⟩
theorem cl_RL_45 : jcv RL 45 mX9_place 1 7 := ⟨⟨jtb_at 599 (by decide +kernel) rfl, jtb_at 55 (by decide +kernel) rfl, jtb_at 602 (by decide +kernel) rfl, (by decide +kernel)⟩, jtb_at 600 (by decide +kernel) rfl, jtb_at 601 (by decide +kernel) rfl, _, rfl, rfl⟩
theorem cl_RL_49 : jcv RL 49 mX10_place 1 8 := ⟨⟨jtb_at 1094 (by decide +kernel) rfl, jtb_at 59 (by decide +kernel) rfl, jtb_at 1097 (by decide +kernel) rfl, (by decide +kernel)⟩, jtb_at 1095 (by decide +kernel) rfl, jtb_at 1096 (by decide +kernel) rfl, _, rfl, rfl⟩
theorem cl_RL_50 : jcv RL 50 mX9_size 1 7 := ⟨⟨jtb_at 607 (by decide +kernel) rfl, jtb_at 55 (by decide +kernel) rfl, jtb_at 610 (by decide +kernel) rfl, (by decide +kernel)⟩, jtb_at 608 (by decide +kernel) rfl, jtb_at 609 (by decide +kernel) rfl, _, rfl, rfl⟩
theorem cl_RL_53 : jcv RL 53 mX10_size 1 8 := ⟨⟨jtb_at 1106 (by decide +kernel) rfl, jtb_at 59 (by decide +kernel) rfl, jtb_at 1109 (by decide +kernel) rfl, (by decide +kernel)⟩, jtb_at 1107 (by decide +kernel) rfl, jtb_at 1108 (by decide +kernel) rfl, _, rfl, rfl⟩
theorem cl_RL_59 : jcv RL 59 mX10_subscript 4 8 := ⟨⟨jtb_at 1114 (by decide +kernel) rfl, jtb_at 59 (by decide +kernel) rfl, jtb_at 1117 (by decide +kernel) rfl, (by decide +kernel)⟩, jtb_at 1115 (by decide +kernel) rfl, jtb_at 1116 (by decide +kernel) rfl, _, rfl, rfl⟩
theorem cl_RL_60 : jcv RL 60 mX10_thrown 0 8 := ⟨⟨jtb_at 959 (by decide +kernel) rfl, jtb_at 59 (by decide +kernel) rfl, jtb_at 962 (by decide +kernel) rfl, (by decide +kernel)⟩, jtb_at 960 (by decide +kernel) rfl, jtb_at 961 (by decide +kernel) rfl, _, rfl, rfl⟩
theorem cl_RL_63 : jcv RL 63 mX9_checks 1 7 := ⟨⟨jtb_at 615 (by decide +kernel) rfl, jtb_at 55 (by decide +kernel) rfl, jtb_at 618 (by decide +kernel) rfl, (by decide +kernel)⟩, jtb_at 616 (by decide +kernel) rfl, jtb_at 617 (by decide +kernel) rfl, _, rfl, rfl⟩
theorem cl_RL_67 : jcv RL 67 mX10_checks 1 8 := ⟨⟨jtb_at 1118 (by decide +kernel) rfl, jtb_at 59 (by decide +kernel) rfl, jtb_at 1121 (by decide +kernel) rfl, (by decide +kernel)⟩, jtb_at 1119 (by decide +kernel) rfl, jtb_at 1120 (by decide +kernel) rfl, _, rfl, rfl⟩
theorem cl_RL_68 : jcv RL 68 mX9_depending 2 7 := ⟨⟨jtb_at 619 (by decide +kernel) rfl, jtb_at 55 (by decide +kernel) rfl, jtb_at 622 (by decide +kernel) rfl, (by decide +kernel)⟩, jtb_at 620 (by decide +kernel) rfl, jtb_at 621 (by decide +kernel) rfl, _, rfl, rfl⟩
theorem cl_RL_72 : jcv RL 72 mX10_depending 2 8 := ⟨⟨jtb_at 1029 (by decide +kernel) rfl, jtb_at 59 (by decide +kernel) rfl, jtb_at 1032 (by decide +kernel) rfl, (by decide +kernel)⟩, jtb_at 1030 (by decide +kernel) rfl, jtb_at 1031 (by decide +kernel) rfl, _, rfl, rfl⟩
theorem cl_RL_73 : jcv RL 73 mX9_redefines 2 7 := ⟨⟨jtb_at 623 (by decide +kernel) rfl, jtb_at 55 (by decide +kernel) rfl, jtb_at 626 (by decide +kernel) rfl, (by decide +kernel)⟩, jtb_at 624 (by decide +kernel) rfl, jtb_at 625 (by decide +kernel) rfl, _, rfl, rfl⟩
theorem cl_RL_76 : jcv RL 76 mX10_redefines 2 8 := ⟨⟨jtb_at 1021 (by decide +kernel) rfl, jtb_at 59 (by decide +kernel) rfl, jtb_at 1024 (by decide +kernel) rfl, (by decide +kernel)⟩, jtb_at 1022 (by decide +kernel) rfl, jtb_at 1023 (by decide +kernel) rfl, _, rfl, rfl⟩
theorem cl_RL_77 : jcv RL 77 mX9_refer 3 7 := ⟨⟨jtb_at 639 (by decide +kernel) rfl, jtb_at 55 (by decide +kernel) rfl, jtb_at 642 (by decide +kernel) rfl, (by decide +kernel)⟩, jtb_at 640 (by decide +kernel) rfl, jtb_at 641 (by decide +kernel) rfl, _, rfl, rfl⟩
theorem cl_RL_80 : jcv RL 80 mX10_refer 3 8 := ⟨⟨jtb_at 1122 (by decide +kernel) rfl, jtb_at 59 (by decide +kernel) rfl, jtb_at 1125 (by decide +kernel) rfl, (by decide +kernel)⟩, jtb_at 1123 (by decide +kernel) rfl, jtb_at 1124 (by decide +kernel) rfl, _, rfl, rfl⟩
theorem cl_RL_81 : jcv RL 81 mX9_slack 1 7 := ⟨⟨jtb_at 643 (by decide +kernel) rfl, jtb_at 55 (by decide +kernel) rfl, jtb_at 646 (by decide +kernel) rfl, (by decide +kernel)⟩, jtb_at 644 (by decide +kernel) rfl, jtb_at 645 (by decide +kernel) rfl, _, rfl, rfl⟩
theorem cl_RL_84 : jcv RL 84 mX10_slack 1 8 := ⟨⟨jtb_at 1126 (by decide +kernel) rfl, jtb_at 59 (by decide +kernel) rfl, jtb_at 1129 (by decide +kernel) rfl, (by decide +kernel)⟩, jtb_at 1127 (by decide +kernel) rfl, jtb_at 1128 (by decide +kernel) rfl, _, rfl, rfl⟩
theorem cl_RL_85 : jcv RL 85 mX9_external 2 7 := ⟨⟨jtb_at 647 (by decide +kernel) rfl, jtb_at 55 (by decide +kernel) rfl, jtb_at 650 (by decide +kernel) rfl, (by decide +kernel)⟩, jtb_at 648 (by decide +kernel) rfl, jtb_at 649 (by decide +kernel) rfl, _, rfl, rfl⟩
theorem cl_RL_88 : jcv RL 88 mX10_external 2 8 := ⟨⟨jtb_at 1025 (by decide +kernel) rfl, jtb_at 59 (by decide +kernel) rfl, jtb_at 1028 (by decide +kernel) rfl, (by decide +kernel)⟩, jtb_at 1026 (by decide +kernel) rfl, jtb_at 1027 (by decide +kernel) rfl, _, rfl, rfl⟩
theorem cl_RL_92 : jcv RL 92 mX10_at 1 8 := ⟨⟨jtb_at 1130 (by decide +kernel) rfl, jtb_at 59 (by decide +kernel) rfl, jtb_at 1133 (by decide +kernel) rfl, (by decide +kernel)⟩, jtb_at 1131 (by decide +kernel) rfl, jtb_at 1132 (by decide +kernel) rfl, _, rfl, rfl⟩
theorem cl_RL_93 : jcv RL 93 mX9_octet 2 7 := ⟨⟨jtb_at 651 (by decide +kernel) rfl, jtb_at 55 (by decide +kernel) rfl, jtb_at 654 (by decide +kernel) rfl, (by decide +kernel)⟩, jtb_at 652 (by decide +kernel) rfl, jtb_at 653 (by decide +kernel) rfl, _, rfl, rfl⟩
theorem cl_RL_97 : jcv RL 97 mX10_octet 2 8 := ⟨⟨jtb_at 1134 (by decide +kernel) rfl, jtb_at 59 (by decide +kernel) rfl, jtb_at 1137 (by decide +kernel) rfl, (by decide +kernel)⟩, jtb_at 1135 (by decide +kernel) rfl, jtb_at 1136 (by decide +kernel) rfl, _, rfl, rfl⟩
theorem cl_RL_100 : jcv RL 100 mX10_holds 1 8 := ⟨⟨jtb_at 1138 (by decide +kernel) rfl, jtb_at 59 (by decide +kernel) rfl, jtb_at 1141 (by decide +kernel) rfl, (by decide +kernel)⟩, jtb_at 1139 (by decide +kernel) rfl, jtb_at 1140 (by decide +kernel) rfl, _, rfl, rfl⟩
theorem cl_RL_101 : jcv RL 101 mX9_count 1 7 := ⟨⟨jtb_at 656 (by decide +kernel) rfl, jtb_at 55 (by decide +kernel) rfl, jtb_at 659 (by decide +kernel) rfl, (by decide +kernel)⟩, jtb_at 657 (by decide +kernel) rfl, jtb_at 658 (by decide +kernel) rfl, _, rfl, rfl⟩
theorem cl_RL_104 : jcv RL 104 mX10_count 1 8 := ⟨⟨jtb_at 1154 (by decide +kernel) rfl, jtb_at 59 (by decide +kernel) rfl, jtb_at 1157 (by decide +kernel) rfl, (by decide +kernel)⟩, jtb_at 1155 (by decide +kernel) rfl, jtb_at 1156 (by decide +kernel) rfl, _, rfl, rfl⟩
theorem nl_RX0_40 : jnl RX0 40 3 6 := ⟨RX5, TX5, rfl, rfl, jinX5, tyX5_ok, jtb_at 203 (by decide +kernel) rfl, jtb_at 204 (by decide +kernel) rfl, jtb_at 62 (by decide +kernel) rfl⟩
theorem nl_RX8_9 : jnl RX8 9 0 20 := ⟨RX0, TX0, rfl, rfl, jinX0, tyX0_ok, jtb_at 88 (by decide +kernel) rfl, jtb_at 195 (by decide +kernel) rfl, jtb_at 61 (by decide +kernel) rfl⟩
theorem nl_RX9_7 : jnl RX9 7 6 2 := ⟨RX8, TX8, rfl, rfl, jinX8, tyX8_ok, jtb_at 82 (by decide +kernel) rfl, jtb_at 83 (by decide +kernel) rfl, jtb_at 56 (by decide +kernel) rfl⟩
theorem nl_RX9_16 : jnl RX9 16 1 2 := ⟨RX3, TX3, rfl, rfl, jinX3, tyX3_ok, jtb_at 101 (by decide +kernel) rfl, jtb_at 102 (by decide +kernel) rfl, jtb_at 57 (by decide +kernel) rfl⟩
theorem nl_RX9_25 : jnl RX9 25 4 2 := ⟨RX6, TX6, rfl, rfl, jinX6, tyX6_ok, jtb_at 115 (by decide +kernel) rfl, jtb_at 116 (by decide +kernel) rfl, jtb_at 58 (by decide +kernel) rfl⟩
theorem nl_RX9_127 : jnl RX9 127 5 5 := ⟨RX7, TX7, rfl, rfl, jinX7, tyX7_ok, jtb_at 350 (by decide +kernel) rfl, jtb_at 351 (by decide +kernel) rfl, jtb_at 63 (by decide +kernel) rfl⟩
theorem nl_RX9_214 : jnl RX9 214 2 3 := ⟨RX4, TX4, rfl, rfl, jinX4, tyX4_ok, jtb_at 421 (by decide +kernel) rfl, jtb_at 422 (by decide +kernel) rfl, jtb_at 65 (by decide +kernel) rfl⟩
theorem nl_RL_8 : jnl RL 8 7 6 := ⟨RX9, TX9, rfl, rfl, jinX9, tyX9_ok, jtb_at 74 (by decide +kernel) rfl, jtb_at 75 (by decide +kernel) rfl, jtb_at 55 (by decide +kernel) rfl⟩
theorem nl_RL_28 : jnl RL 28 8 36 := ⟨RX10, TX10, rfl, rfl, jinX10, tyX10_ok, jtb_at 842 (by decide +kernel) rfl, jtb_at 843 (by decide +kernel) rfl, jtb_at 59 (by decide +kernel) rfl⟩
theorem ja_int : Cond.arrayClass .int ∈ jtb := jtb_at 437 (by decide +kernel) rfl
theorem ja_byte : Cond.arrayClass .byte ∈ jtb := jtb_at 129 (by decide +kernel) rfl
theorem ja_boolean : Cond.arrayClass .boolean ∈ jtb := jtb_at 957 (by decide +kernel) rfl
theorem ja_long : Cond.arrayClass .long ∈ jtb := jtb_at 958 (by decide +kernel) rfl
theorem ol_X0_init : Cond.methodLink RX0 3 Lib.objectInit ∈ jtb := jtb_at 199 (by decide +kernel) rfl
theorem kl_RX2_9 : Cond.constantLong RX2 9 (10) ∈ jtb := jtb_at 417 (by decide +kernel) rfl
theorem kl_RX2_46 : Cond.constantLong RX2 46 (255) ∈ jtb := jtb_at 574 (by decide +kernel) rfl
theorem kl_RX2_85 : Cond.constantLong RX2 85 (256) ∈ jtb := jtb_at 818 (by decide +kernel) rfl
theorem kl_RX2_106 : Cond.constantLong RX2 106 (48) ∈ jtb := jtb_at 837 (by decide +kernel) rfl
theorem ol_X3_init : Cond.methodLink RX3 3 Lib.objectInit ∈ jtb := jtb_at 106 (by decide +kernel) rfl
theorem ol_X4_init : Cond.methodLink RX4 3 Lib.objectInit ∈ jtb := jtb_at 426 (by decide +kernel) rfl
theorem ol_X5_init : Cond.methodLink RX5 1 Lib.objectInit ∈ jtb := jtb_at 208 (by decide +kernel) rfl
theorem ol_X6_init : Cond.methodLink RX6 3 Lib.objectInit ∈ jtb := jtb_at 120 (by decide +kernel) rfl
theorem ol_X7_init : Cond.methodLink RX7 1 Lib.objectInit ∈ jtb := jtb_at 355 (by decide +kernel) rfl
theorem ol_X8_init : Cond.methodLink RX8 3 Lib.objectInit ∈ jtb := jtb_at 87 (by decide +kernel) rfl
theorem rl_RX8_9 : Cond.classLink RX8 9 RX0 ∈ jtb := jtb_at 88 (by decide +kernel) rfl
theorem ol_X9_init : Cond.methodLink RX9 1 Lib.objectInit ∈ jtb := jtb_at 79 (by decide +kernel) rfl
theorem kl_RX9_85 : Cond.constantLong RX9 85 (20000) ∈ jtb := jtb_at 542 (by decide +kernel) rfl
theorem ol_X10_init : Cond.methodLink RX10 1 Lib.objectInit ∈ jtb := jtb_at 847 (by decide +kernel) rfl
theorem kl_RX10_134 : Cond.constantLong RX10 134 (10) ∈ jtb := jtb_at 1012 (by decide +kernel) rfl
theorem kl_RX10_192 : Cond.constantLong RX10 192 (20000) ∈ jtb := jtb_at 1080 (by decide +kernel) rfl
theorem kl_RX10_213 : Cond.constantLong RX10 213 (48) ∈ jtb := jtb_at 1093 (by decide +kernel) rfl
theorem oi_i : Cond.instanceMethod Lib.objectInit ∈ jtb := jtb_at 80 (by decide +kernel) rfl
theorem oi_c : Cond.code Lib.objectInit ⟨#[0xb1]⟩ 1 none ∈ jtb := jtb_at 81 (by decide +kernel) rfl
end
section
theorem tl_RX2_91_93 : jtw RX2 91 93 95 2 ["java/lang/RuntimeException", "java/lang/Exception"] "a half byte is no digit" := by
  refine ⟨by decide +kernel, by decide +kernel, jtb_at 825 (by decide +kernel) rfl, jtb_at 73 (by decide +kernel) rfl, List.mem_of_getElem? (i := 826) (by decide +kernel), ?_, by decide +kernel, by decide +kernel⟩
  have h : ∀ w ∈ (vx_atS RX2 95 (jxn 2) ["java/lang/RuntimeException", "java/lang/Exception"]).filter goodWord, w ∈ jtb := jtb_r [67, 710, 719, 723, 726, 728, 711, 712, 80, 81, 713, 718, 724, 747, 700, 748, 702, 749, 704, 714, 716, 706, 743, 744, 746, 706, 806, 807, 808, 737, 737, 738, 739, 740, 740, 741, 742, 743, 827, 796, 798, 722, 799, 800, 801, 802, 709, 708, 803] (by decide +kernel) (by decide +kernel)
  have h2 : ∀ w ∈ (vx_atS RX2 95 (jxn 2) ["java/lang/RuntimeException", "java/lang/Exception"]).filter (fun w => !goodWord w), w = Cond.castable (jxn 2) (jxn 2) ∨ ∃ x ∈ jdcl, w = Cond.declares x := by decide +kernel
  intro w hw
  by_cases hg : goodWord w = true
  · exact Or.inl (h w (List.mem_filter.mpr ⟨hw, hg⟩))
  · exact Or.inr (h2 w (List.mem_filter.mpr ⟨hw, by simp [hg]⟩))
theorem tl_RX2_91_98 : jtw RX2 91 98 95 2 ["java/lang/RuntimeException", "java/lang/Exception"] "the last half byte is no sign" := by
  refine ⟨by decide +kernel, by decide +kernel, jtb_at 825 (by decide +kernel) rfl, jtb_at 73 (by decide +kernel) rfl, List.mem_of_getElem? (i := 828) (by decide +kernel), ?_, by decide +kernel, by decide +kernel⟩
  have h : ∀ w ∈ (vx_atS RX2 95 (jxn 2) ["java/lang/RuntimeException", "java/lang/Exception"]).filter goodWord, w ∈ jtb := jtb_r [67, 710, 719, 723, 726, 728, 711, 712, 80, 81, 713, 718, 724, 747, 700, 748, 702, 749, 704, 714, 716, 706, 743, 744, 746, 706, 806, 807, 808, 737, 737, 738, 739, 740, 740, 741, 742, 743, 827, 796, 798, 722, 799, 800, 801, 802, 709, 708, 803] (by decide +kernel) (by decide +kernel)
  have h2 : ∀ w ∈ (vx_atS RX2 95 (jxn 2) ["java/lang/RuntimeException", "java/lang/Exception"]).filter (fun w => !goodWord w), w = Cond.castable (jxn 2) (jxn 2) ∨ ∃ x ∈ jdcl, w = Cond.declares x := by decide +kernel
  intro w hw
  by_cases hg : goodWord w = true
  · exact Or.inl (h w (List.mem_filter.mpr ⟨hw, hg⟩))
  · exact Or.inr (h2 w (List.mem_filter.mpr ⟨hw, by simp [hg]⟩))
theorem tl_RX2_91_104 : jtw RX2 91 104 95 2 ["java/lang/RuntimeException", "java/lang/Exception"] "a byte is no digit" := by
  refine ⟨by decide +kernel, by decide +kernel, jtb_at 825 (by decide +kernel) rfl, jtb_at 73 (by decide +kernel) rfl, List.mem_of_getElem? (i := 836) (by decide +kernel), ?_, by decide +kernel, by decide +kernel⟩
  have h : ∀ w ∈ (vx_atS RX2 95 (jxn 2) ["java/lang/RuntimeException", "java/lang/Exception"]).filter goodWord, w ∈ jtb := jtb_r [67, 710, 719, 723, 726, 728, 711, 712, 80, 81, 713, 718, 724, 747, 700, 748, 702, 749, 704, 714, 716, 706, 743, 744, 746, 706, 806, 807, 808, 737, 737, 738, 739, 740, 740, 741, 742, 743, 827, 796, 798, 722, 799, 800, 801, 802, 709, 708, 803] (by decide +kernel) (by decide +kernel)
  have h2 : ∀ w ∈ (vx_atS RX2 95 (jxn 2) ["java/lang/RuntimeException", "java/lang/Exception"]).filter (fun w => !goodWord w), w = Cond.castable (jxn 2) (jxn 2) ∨ ∃ x ∈ jdcl, w = Cond.declares x := by decide +kernel
  intro w hw
  by_cases hg : goodWord w = true
  · exact Or.inl (h w (List.mem_filter.mpr ⟨hw, hg⟩))
  · exact Or.inr (h2 w (List.mem_filter.mpr ⟨hw, by simp [hg]⟩))
theorem tl_RX2_91_108 : jtw RX2 91 108 95 2 ["java/lang/RuntimeException", "java/lang/Exception"] "a byte is no sign" := by
  refine ⟨by decide +kernel, by decide +kernel, jtb_at 825 (by decide +kernel) rfl, jtb_at 73 (by decide +kernel) rfl, List.mem_of_getElem? (i := 835) (by decide +kernel), ?_, by decide +kernel, by decide +kernel⟩
  have h : ∀ w ∈ (vx_atS RX2 95 (jxn 2) ["java/lang/RuntimeException", "java/lang/Exception"]).filter goodWord, w ∈ jtb := jtb_r [67, 710, 719, 723, 726, 728, 711, 712, 80, 81, 713, 718, 724, 747, 700, 748, 702, 749, 704, 714, 716, 706, 743, 744, 746, 706, 806, 807, 808, 737, 737, 738, 739, 740, 740, 741, 742, 743, 827, 796, 798, 722, 799, 800, 801, 802, 709, 708, 803] (by decide +kernel) (by decide +kernel)
  have h2 : ∀ w ∈ (vx_atS RX2 95 (jxn 2) ["java/lang/RuntimeException", "java/lang/Exception"]).filter (fun w => !goodWord w), w = Cond.castable (jxn 2) (jxn 2) ∨ ∃ x ∈ jdcl, w = Cond.declares x := by decide +kernel
  intro w hw
  by_cases hg : goodWord w = true
  · exact Or.inl (h w (List.mem_filter.mpr ⟨hw, hg⟩))
  · exact Or.inr (h2 w (List.mem_filter.mpr ⟨hw, by simp [hg]⟩))
theorem tl_RX9_137_139 : jtw RX9 137 139 141 0 ["java/lang/IndexOutOfBoundsException", "java/lang/RuntimeException", "java/lang/Exception"] "the subscripts lead out of all bytes" := by
  refine ⟨by decide +kernel, by decide +kernel, jtb_at 686 (by decide +kernel) rfl, jtb_at 71 (by decide +kernel) rfl, List.mem_of_getElem? (i := 729) (by decide +kernel), ?_, by decide +kernel, by decide +kernel⟩
  have h : ∀ w ∈ (vx_atS RX9 141 (jxn 0) ["java/lang/IndexOutOfBoundsException", "java/lang/RuntimeException", "java/lang/Exception"]).filter goodWord, w ∈ jtb := jtb_r [67, 710, 719, 723, 726, 728, 711, 712, 80, 81, 713, 718, 724, 747, 700, 748, 702, 749, 704, 714, 716, 706, 743, 744, 746, 706, 731, 732, 733, 734, 734, 735, 736, 737, 737, 738, 739, 740, 740, 741, 742, 743, 730, 687, 697, 698, 699, 701, 703, 705, 709, 708, 707] (by decide +kernel) (by decide +kernel)
  have h2 : ∀ w ∈ (vx_atS RX9 141 (jxn 0) ["java/lang/IndexOutOfBoundsException", "java/lang/RuntimeException", "java/lang/Exception"]).filter (fun w => !goodWord w), w = Cond.castable (jxn 0) (jxn 0) ∨ ∃ x ∈ jdcl, w = Cond.declares x := by decide +kernel
  intro w hw
  by_cases hg : goodWord w = true
  · exact Or.inl (h w (List.mem_filter.mpr ⟨hw, hg⟩))
  · exact Or.inr (h2 w (List.mem_filter.mpr ⟨hw, by simp [hg]⟩))
theorem tl_RX9_137_180 : jtw RX9 137 180 141 0 ["java/lang/IndexOutOfBoundsException", "java/lang/RuntimeException", "java/lang/Exception"] "there is no such byte" := by
  refine ⟨by decide +kernel, by decide +kernel, jtb_at 686 (by decide +kernel) rfl, jtb_at 71 (by decide +kernel) rfl, List.mem_of_getElem? (i := 765) (by decide +kernel), ?_, by decide +kernel, by decide +kernel⟩
  have h : ∀ w ∈ (vx_atS RX9 141 (jxn 0) ["java/lang/IndexOutOfBoundsException", "java/lang/RuntimeException", "java/lang/Exception"]).filter goodWord, w ∈ jtb := jtb_r [67, 710, 719, 723, 726, 728, 711, 712, 80, 81, 713, 718, 724, 747, 700, 748, 702, 749, 704, 714, 716, 706, 743, 744, 746, 706, 731, 732, 733, 734, 734, 735, 736, 737, 737, 738, 739, 740, 740, 741, 742, 743, 730, 687, 697, 698, 699, 701, 703, 705, 709, 708, 707] (by decide +kernel) (by decide +kernel)
  have h2 : ∀ w ∈ (vx_atS RX9 141 (jxn 0) ["java/lang/IndexOutOfBoundsException", "java/lang/RuntimeException", "java/lang/Exception"]).filter (fun w => !goodWord w), w = Cond.castable (jxn 0) (jxn 0) ∨ ∃ x ∈ jdcl, w = Cond.declares x := by decide +kernel
  intro w hw
  by_cases hg : goodWord w = true
  · exact Or.inl (h w (List.mem_filter.mpr ⟨hw, hg⟩))
  · exact Or.inr (h2 w (List.mem_filter.mpr ⟨hw, by simp [hg]⟩))
theorem tl_RX9_193_195 : jtw RX9 193 195 197 1 ["java/lang/RuntimeException", "java/lang/Exception"] "there is no such name of values" := by
  refine ⟨by decide +kernel, by decide +kernel, jtb_at 779 (by decide +kernel) rfl, jtb_at 72 (by decide +kernel) rfl, List.mem_of_getElem? (i := 788) (by decide +kernel), ?_, by decide +kernel, by decide +kernel⟩
  have h : ∀ w ∈ (vx_atS RX9 197 (jxn 1) ["java/lang/RuntimeException", "java/lang/Exception"]).filter goodWord, w ∈ jtb := jtb_r [67, 710, 719, 723, 726, 728, 711, 712, 80, 81, 713, 718, 724, 747, 700, 748, 702, 749, 704, 714, 716, 706, 743, 744, 746, 706, 790, 791, 792, 737, 737, 738, 739, 740, 740, 741, 742, 743, 789, 780, 782, 721, 783, 784, 785, 786, 709, 708, 787] (by decide +kernel) (by decide +kernel)
  have h2 : ∀ w ∈ (vx_atS RX9 197 (jxn 1) ["java/lang/RuntimeException", "java/lang/Exception"]).filter (fun w => !goodWord w), w = Cond.castable (jxn 1) (jxn 1) ∨ ∃ x ∈ jdcl, w = Cond.declares x := by decide +kernel
  intro w hw
  by_cases hg : goodWord w = true
  · exact Or.inl (h w (List.mem_filter.mpr ⟨hw, hg⟩))
  · exact Or.inr (h2 w (List.mem_filter.mpr ⟨hw, by simp [hg]⟩))
theorem tl_RX9_198_200 : jtw RX9 198 200 202 2 ["java/lang/RuntimeException", "java/lang/Exception"] "it is not laid out" := by
  refine ⟨by decide +kernel, by decide +kernel, jtb_at 795 (by decide +kernel) rfl, jtb_at 73 (by decide +kernel) rfl, List.mem_of_getElem? (i := 804) (by decide +kernel), ?_, by decide +kernel, by decide +kernel⟩
  have h : ∀ w ∈ (vx_atS RX9 202 (jxn 2) ["java/lang/RuntimeException", "java/lang/Exception"]).filter goodWord, w ∈ jtb := jtb_r [67, 710, 719, 723, 726, 728, 711, 712, 80, 81, 713, 718, 724, 747, 700, 748, 702, 749, 704, 714, 716, 706, 743, 744, 746, 706, 806, 807, 808, 737, 737, 738, 739, 740, 740, 741, 742, 743, 805, 796, 798, 722, 799, 800, 801, 802, 709, 708, 803] (by decide +kernel) (by decide +kernel)
  have h2 : ∀ w ∈ (vx_atS RX9 202 (jxn 2) ["java/lang/RuntimeException", "java/lang/Exception"]).filter (fun w => !goodWord w), w = Cond.castable (jxn 2) (jxn 2) ∨ ∃ x ∈ jdcl, w = Cond.declares x := by decide +kernel
  intro w hw
  by_cases hg : goodWord w = true
  · exact Or.inl (h w (List.mem_filter.mpr ⟨hw, hg⟩))
  · exact Or.inr (h2 w (List.mem_filter.mpr ⟨hw, by simp [hg]⟩))
end
