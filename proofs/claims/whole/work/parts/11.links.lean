/-! methods, links (by program) -/
theorem jtb_at {w : Cond} (i : Nat) (h : lw_tbl[i]? = some w) (hg : goodWord w = true) : w ∈ jtb := jtb_mem (List.mem_of_getElem? h) hg
theorem jtb_r {ws : List Cond} (ps : List Nat) (hp : ws = ps.filterMap (fun i => lw_tbl[i]?)) (h : ws.all goodWord = true) : ∀ w ∈ ws, w ∈ jtb := by
  intro w hw
  have h1 := List.all_eq_true.mp h w hw
  rw [hp] at hw
  obtain ⟨i, -, hi⟩ := List.mem_filterMap.mp hw
  exact jtb_mem (List.mem_of_getElem? hi) h1
theorem jsn {a : Nat} : ¬ some a = none := fun q => by cases q
theorem jd_s (a : Nat) : jd (some a) = a := rfl
theorem jfp.nf {y : jm} {index ci k : Nat} (h : jfl y.1.cls index ci k) (hf : ∀ q, jcl[ci]? = some q → (q.2.1 k).2.2.2 = false) : jfp y index ci k := by
  obtain ⟨C, T, N, h1, h2, h3, h4, h5, h6, h7, h8⟩ := h
  exact ⟨C, T, N, h1, h2, h3, h4, h5, h6, h7, h8, Or.inl (hf _ h1)⟩
theorem jfp.fin {y : jm} {index ci k : Nat} (h : jfl y.1.cls index ci k) (hf : ∀ q, jcl[ci]? = some q → (q.2.1 k).2.2.2 = true ∧ q.1 = y.1.cls) (hn : y.1.name = "<init>") : jfp y index ci k := by
  obtain ⟨C, T, N, h1, h2, h3, h4, h5, h6, h7, h8⟩ := h
  exact ⟨C, T, N, h1, h2, h3, h4, h5, h6, h7, h8, Or.inr ⟨(hf _ h1).1, hn, (hf _ h1).2⟩⟩
section JNm
variable {g : jg} {y : jm} {pc : Nat} {lv : List (Nat × jv)} {st : List jv} {h h' : jh} {k n : Nat} {Q : jq}
theorem jp_puti {o : Option Nat} {index ci fk : Nat} {x : Int32} (hd : decode y.2.1 pc = .ok (.putfield index, 3)) (hf : jfp y index ci fk) (hk : jtyc ci fk = .int) (ho : ¬ o = none) (ht : jt h (jd o) = ci + 1) (he : h' = jsi h (64 * ci + fk) (jd o) x) (K : jG g y (pc + 3) lv st h' k n Q) : jG g y pc lv (.inl x :: .inr (.inr o) :: st) h k n Q := by
  subst he
  exact jg_puti hd hf hk ho ht K
theorem jp_putz {o : Option Nat} {index ci fk : Nat} {x : Int32} (hd : decode y.2.1 pc = .ok (.putfield index, 3)) (hf : jfp y index ci fk) (hk : jtyc ci fk = .boolean) (ho : ¬ o = none) (ht : jt h (jd o) = ci + 1) (hx : x = 0 ∨ x = 1) (he : h' = jsi h (64 * ci + fk) (jd o) x) (K : jG g y (pc + 3) lv st h' k n Q) : jG g y pc lv (.inl x :: .inr (.inr o) :: st) h k n Q := by
  subst he
  exact jg_putz hd hf hk ho ht hx K
theorem jp_putl {o : Option Nat} {index ci fk : Nat} {x : Int64} (hd : decode y.2.1 pc = .ok (.putfield index, 3)) (hf : jfp y index ci fk) (hk : jtyc ci fk = .long) (ho : ¬ o = none) (ht : jt h (jd o) = ci + 1) (he : h' = jsl h (64 * ci + fk) (jd o) x) (K : jG g y (pc + 3) lv st h' k n Q) : jG g y pc lv (.inr (.inl x) :: .inr (.inr o) :: st) h k n Q := by
  subst he
  exact jg_putl hd hf hk ho ht K
theorem jp_putr {o : Option Nat} {index ci fk : Nat} {x : Option Nat} (hd : decode y.2.1 pc = .ok (.putfield index, 3)) (hf : jfp y index ci fk) (hk : jkd (jtyc ci fk) = 2) (ho : ¬ o = none) (ht : jt h (jd o) = ci + 1) (he : h' = jsr h (64 * ci + fk) (jd o) x) (K : jG g y (pc + 3) lv st h' k n Q) : jG g y pc lv (.inr (.inr x) :: .inr (.inr o) :: st) h k n Q := by
  subst he
  exact jg_putr hd hf hk ho ht K
theorem jp_iast {o : Option Nat} {i : Int32} {x : Int32} (hd : decode y.2.1 pc = .ok (.iastore, 1)) (ho : ¬ o = none) (ht : jt h (jd o) = 20) (hi : vp_in i (jn h (jd o))) (he : h' = jsI h (jd o) i.toNatClampNeg x) (K : jG g y (pc + 1) lv st h' k n Q) : jG g y pc lv (.inl x :: .inl i :: .inr (.inr o) :: st) h k n Q := by
  subst he
  exact jg_iast hd ho ht hi K
theorem jp_bast {o : Option Nat} {i : Int32} {x : Int32} (hd : decode y.2.1 pc = .ok (.bastore, 1)) (ho : ¬ o = none) (ht : jt h (jd o) = 21) (hi : vp_in i (jn h (jd o))) (he : h' = jsI h (jd o) i.toNatClampNeg x.toInt8.toInt32) (K : jG g y (pc + 1) lv st h' k n Q) : jG g y pc lv (.inl x :: .inl i :: .inr (.inr o) :: st) h k n Q := by
  subst he
  exact jg_bast hd ho ht hi K
theorem jp_zast {o : Option Nat} {i : Int32} {x : Int32} (hd : decode y.2.1 pc = .ok (.bastore, 1)) (ho : ¬ o = none) (ht : jt h (jd o) = 24) (hi : vp_in i (jn h (jd o))) (hx : x = 0 ∨ x = 1) (he : h' = jsI h (jd o) i.toNatClampNeg x) (K : jG g y (pc + 1) lv st h' k n Q) : jG g y pc lv (.inl x :: .inl i :: .inr (.inr o) :: st) h k n Q := by
  subst he
  exact jg_zast hd ho ht hi hx K
theorem jp_last {o : Option Nat} {i : Int32} {x : Int64} (hd : decode y.2.1 pc = .ok (.lastore, 1)) (ho : ¬ o = none) (ht : jt h (jd o) = 22) (hi : vp_in i (jn h (jd o))) (he : h' = jsL h (jd o) i.toNatClampNeg x) (K : jG g y (pc + 1) lv st h' k n Q) : jG g y pc lv (.inr (.inl x) :: .inl i :: .inr (.inr o) :: st) h k n Q := by
  subst he
  exact jg_last hd ho ht hi K
theorem jp_aast {o : Option Nat} {i : Int32} {v : Nat} (hd : decode y.2.1 pc = .ok (.aastore, 1)) (ho : ¬ o = none) (ht : jt h (jd o) = 23) (hi : vp_in i (jn h (jd o))) (hv : jt h v = 1) (he : h' = jsR h (jd o) i.toNatClampNeg (some v)) (K : jG g y (pc + 1) lv st h' k n Q) : jG g y pc lv (.inr (.inr (some v)) :: .inl i :: .inr (.inr o) :: st) h k n Q := by
  subst he
  exact jg_aast hd ho ht hi hv K
theorem jp_new {index ci N : Nat} (hd : decode y.2.1 pc = .ok (.new index, 3)) (hf : jnl y.1.cls index ci N) (hk : 1 ≤ k) (hn : N ≤ n) (he : h' = jmk h (ci + 1) 0) (K : jG g y (pc + 3) lv (.inr (.inr (some (jz h))) :: st) h' (k - 1) (n - N) Q) : jG g y pc lv st h k n Q := by
  subst he
  exact jg_new hd hf hk hn K
theorem jp_newI {i : Int32} (hd : decode y.2.1 pc = .ok (.newarray .int, 2)) (hw : Cond.arrayClass .int ∈ jtb) (hi : ¬ i < 0) (hb : i.toNatClampNeg * 4 ≤ 536870912) (hk : 1 ≤ k) (hn : i.toNatClampNeg ≤ n) (he : h' = jmk h 20 i.toNatClampNeg) (K : jG g y (pc + 2) lv (.inr (.inr (some (jz h))) :: st) h' (k - 1) (n - i.toNatClampNeg) Q) : jG g y pc lv (.inl i :: st) h k n Q := by
  subst he
  exact jg_newI hd hw hi hb hk hn K
theorem jp_newB {i : Int32} (hd : decode y.2.1 pc = .ok (.newarray .byte, 2)) (hw : Cond.arrayClass .byte ∈ jtb) (hi : ¬ i < 0) (hb : i.toNatClampNeg * 1 ≤ 536870912) (hk : 1 ≤ k) (hn : i.toNatClampNeg ≤ n) (he : h' = jmk h 21 i.toNatClampNeg) (K : jG g y (pc + 2) lv (.inr (.inr (some (jz h))) :: st) h' (k - 1) (n - i.toNatClampNeg) Q) : jG g y pc lv (.inl i :: st) h k n Q := by
  subst he
  exact jg_newB hd hw hi hb hk hn K
theorem jp_newZ {i : Int32} (hd : decode y.2.1 pc = .ok (.newarray .boolean, 2)) (hw : Cond.arrayClass .boolean ∈ jtb) (hi : ¬ i < 0) (hb : i.toNatClampNeg * 1 ≤ 536870912) (hk : 1 ≤ k) (hn : i.toNatClampNeg ≤ n) (he : h' = jmk h 24 i.toNatClampNeg) (K : jG g y (pc + 2) lv (.inr (.inr (some (jz h))) :: st) h' (k - 1) (n - i.toNatClampNeg) Q) : jG g y pc lv (.inl i :: st) h k n Q := by
  subst he
  exact jg_newZ hd hw hi hb hk hn K
theorem jp_newJ {i : Int32} (hd : decode y.2.1 pc = .ok (.newarray .long, 2)) (hw : Cond.arrayClass .long ∈ jtb) (hi : ¬ i < 0) (hb : i.toNatClampNeg * 8 ≤ 536870912) (hk : 1 ≤ k) (hn : i.toNatClampNeg ≤ n) (he : h' = jmk h 22 i.toNatClampNeg) (K : jG g y (pc + 2) lv (.inr (.inr (some (jz h))) :: st) h' (k - 1) (n - i.toNatClampNeg) Q) : jG g y pc lv (.inl i :: st) h k n Q := by
  subst he
  exact jg_newJ hd hw hi hb hk hn K
theorem jp_newR {index : Nat} {i : Int32} (hd : decode y.2.1 pc = .ok (.anewarray index, 3)) (hw : Cond.classLink y.1.cls index RX0 ∈ jtb) (hi : ¬ i < 0) (hb : i.toNatClampNeg * 4 ≤ 536870912) (hk : 1 ≤ k) (hn : i.toNatClampNeg ≤ n) (he : h' = jmk h 23 i.toNatClampNeg) (K : jG g y (pc + 3) lv (.inr (.inr (some (jz h))) :: st) h' (k - 1) (n - i.toNatClampNeg) Q) : jG g y pc lv (.inl i :: st) h k n Q := by
  subst he
  exact jg_newR hd hw hi hb hk hn K
theorem jp_callV (x : jm) (as rest : List jv) {o : Option Nat} {index ci mcx msx : Nat} (hd : decode y.2.1 pc = .ok (.invokevirtual index, 3)) (hst : st = as.reverse ++ .inr (.inr o) :: rest) (hl : jcv y.1.cls index x as.length ci) (hR : jrr y x rest) (ho : ¬ o = none) (hb : jt h (jd o) = ci + 1) (hk : mcx ≤ k) (hn : msx ≤ n)
    (hM : jM g x (.inr (.inr (some (jd o))) :: as) h mcx msx (jk (fun v h' => jG g y (pc + 3) lv (v.toList ++ rest) h' (k - mcx) (n - msx) Q) (fun e h' => Q (.inr e) h'))) : jG g y pc lv st h k n Q :=
  jg_callV x as rest hd (hst.trans (by rw [← jd_some ho])) hl hR hb hk hn hM
end JNm
abbrev mX0_init : jm := (yX0_init, cX0_init, 6, none, 2, 40)
abbrev mX0_isNumber : jm := (yX0_isNumber, cX0_isNumber, 1, some .boolean, 1, 20)
abbrev mX0_isInner : jm := (yX0_isInner, cX0_isInner, 1, some .boolean, 0, 0)
abbrev mX0_lies : jm := (yX0_lies, cX0_lies, 1, some .boolean, 0, 0)
abbrev mX0_isBelow : jm := (yX0_isBelow, cX0_isBelow, 3, some .boolean, 0, 0)
abbrev mX0_liesInRedefining : jm := (yX0_liesInRedefining, cX0_liesInRedefining, 2, some .boolean, 0, 0)
abbrev mX0_tablesWithin : jm := (yX0_tablesWithin, cX0_tablesWithin, 3, some .int, 0, 0)
abbrev mX0_tableOutwards : jm := (yX0_tableOutwards, cX0_tableOutwards, 4, some (.object "DataLayout$Table"), 0, 0)
abbrev mX0_length : jm := (yX0_length, cX0_length, 1, some .long, 0, 0)
abbrev mX0_lengthNow : jm := (yX0_lengthNow, cX0_lengthNow, 2, some .long, 1, 20)
abbrev mX0_extent : jm := (yX0_extent, cX0_extent, 1, some .long, 1, 20)
abbrev mX1_isLevel : jm := (yX1_isLevel, cX1_isLevel, 1, some .boolean, 0, 0)
abbrev mX1_isUsage : jm := (yX1_isUsage, cX1_isUsage, 3, some .boolean, 1, 20)
abbrev mX1_isNumeric : jm := (yX1_isNumeric, cX1_isNumeric, 1, some .boolean, 0, 0)
abbrev mX1_isClause : jm := (yX1_isClause, cX1_isClause, 3, some .boolean, 0, 0)
abbrev mX1_bytesOf : jm := (yX1_bytesOf, cX1_bytesOf, 2, some .int, 0, 0)
abbrev mX2_hasRoomFor : jm := (yX2_hasRoomFor, cX2_hasRoomFor, 5, some .boolean, 0, 0)
abbrev mX2_write : jm := (yX2_write, cX2_write, 3, none, 3, 72)
abbrev mX2_writeBinary : jm := (yX2_writeBinary, cX2_writeBinary, 8, none, 2, 43)
abbrev mX2_writePacked : jm := (yX2_writePacked, cX2_writePacked, 10, none, 2, 43)
abbrev mX2_writeDigits : jm := (yX2_writeDigits, cX2_writeDigits, 9, none, 2, 43)
abbrev mX2_signedDigit : jm := (yX2_signedDigit, cX2_signedDigit, 1, some .int, 0, 0)
abbrev mX2_signByte : jm := (yX2_signByte, cX2_signByte, 2, some .int, 0, 0)
abbrev mX2_read : jm := (yX2_read, cX2_read, 3, some .long, 9, 152)
abbrev mX2_readBinary : jm := (yX2_readBinary, cX2_readBinary, 6, some .long, 2, 42)
abbrev mX2_readPacked : jm := (yX2_readPacked, cX2_readPacked, 8, some .long, 7, 103)
abbrev mX2_halfByte : jm := (yX2_halfByte, cX2_halfByte, 4, some .int, 2, 42)
abbrev mX2_readDigits : jm := (yX2_readDigits, cX2_readDigits, 10, some .long, 8, 123)
abbrev mX2_readsMinus : jm := (yX2_readsMinus, cX2_readsMinus, 1, some .boolean, 7, 103)
abbrev mX3_init : jm := (yX3_init, cX3_init, 2, none, 1, 20)
abbrev mX3_layAll : jm := (yX3_layAll, cX3_layAll, 4, none, 4, 86)
abbrev mX3_gatherUnits : jm := (yX3_gatherUnits, cX3_gatherUnits, 3, none, 1, 21)
abbrev mX3_begin : jm := (yX3_begin, cX3_begin, 5, none, 2, 44)
abbrev mX3_beginOfRecord : jm := (yX3_beginOfRecord, cX3_beginOfRecord, 3, some .long, 1, 22)
abbrev mX3_beginBelow : jm := (yX3_beginBelow, cX3_beginBelow, 2, some .long, 0, 0)
abbrev mX3_isLaterExternal : jm := (yX3_isLaterExternal, cX3_isLaterExternal, 2, some .boolean, 1, 22)
abbrev mX3_finishUpTo : jm := (yX3_finishUpTo, cX3_finishUpTo, 4, none, 3, 63)
abbrev mX3_finish : jm := (yX3_finish, cX3_finish, 4, none, 2, 40)
abbrev mX3_placeParts : jm := (yX3_placeParts, cX3_placeParts, 3, none, 0, 0)
abbrev mX3_markMoving : jm := (yX3_markMoving, cX3_markMoving, 4, none, 0, 0)
abbrev mX3_firstWrong : jm := (yX3_firstWrong, cX3_firstWrong, 2, some .int, 4, 82)
abbrev mX3_isRight : jm := (yX3_isRight, cX3_isRight, 2, some .boolean, 3, 61)
abbrev mX3_isRightPart : jm := (yX3_isRightPart, cX3_isRightPart, 5, some .boolean, 1, 22)
abbrev mX3_isLastOfRecord : jm := (yX3_isLastOfRecord, cX3_isLastOfRecord, 4, some .boolean, 1, 22)
abbrev mX3_fitsOver : jm := (yX3_fitsOver, cX3_fitsOver, 2, some .boolean, 2, 40)
abbrev mX3_fitsFirstOfName : jm := (yX3_fitsFirstOfName, cX3_fitsFirstOfName, 3, some .boolean, 1, 22)
abbrev mX3_roundUp : jm := (yX3_roundUp, cX3_roundUp, 3, some .long, 0, 0)
abbrev mX4_init : jm := (yX4_init, cX4_init, 1, none, 1, 20)
abbrev mX4_add : jm := (yX4_add, cX4_add, 3, some .boolean, 0, 0)
abbrev mX4_contain : jm := (yX4_contain, cX4_contain, 4, some .boolean, 0, 0)
abbrev mX5_init : jm := (yX5_init, cX5_init, 1, none, 1, 20)
abbrev mX6_init : jm := (yX6_init, cX6_init, 1, none, 1, 20)
abbrev mX6_clear : jm := (yX6_clear, cX6_clear, 3, none, 1, 21)
abbrev mX6_has : jm := (yX6_has, cX6_has, 2, some .boolean, 0, 0)
abbrev mX6_get : jm := (yX6_get, cX6_get, 2, some .int, 1, 21)
abbrev mX6_put : jm := (yX6_put, cX6_put, 3, none, 1, 21)
abbrev mX6_repeat : jm := (yX6_repeat, cX6_repeat, 6, none, 1, 21)
abbrev mX7_init : jm := (yX7_init, cX7_init, 4, none, 1, 20)
abbrev mX8_init : jm := (yX8_init, cX8_init, 1, none, 1, 20)
abbrev mX8_find : jm := (yX8_find, cX8_find, 2, some (.object "DataLayout$Item"), 0, 0)
abbrev mX8_add : jm := (yX8_add, cX8_add, 7, none, 3, 65)
abbrev mX8_hasPlaceFor : jm := (yX8_hasPlaceFor, cX8_hasPlaceFor, 3, some .boolean, 3, 63)
abbrev mX8_around : jm := (yX8_around, cX8_around, 2, some (.object "DataLayout$Item"), 2, 42)
abbrev mX8_latestTopRecord : jm := (yX8_latestTopRecord, cX8_latestTopRecord, 2, some (.object "DataLayout$Item"), 1, 21)
abbrev mX8_latestNotNaming : jm := (yX8_latestNotNaming, cX8_latestNotNaming, 2, some (.object "DataLayout$Item"), 0, 0)
abbrev mX8_latestOfLesserLevel : jm := (yX8_latestOfLesserLevel, cX8_latestOfLesserLevel, 4, some (.object "DataLayout$Item"), 0, 0)
abbrev mX8_mayBeTable : jm := (yX8_mayBeTable, cX8_mayBeTable, 5, some .boolean, 1, 22)
abbrev mX8_mayRedefine : jm := (yX8_mayRedefine, cX8_mayRedefine, 3, some .boolean, 2, 45)
abbrev mX8_allBetweenRedefine : jm := (yX8_allBetweenRedefine, cX8_allBetweenRedefine, 5, some .boolean, 0, 0)
abbrev mX8_hasValues : jm := (yX8_hasValues, cX8_hasValues, 4, some .boolean, 1, 22)
abbrev mX8_firstOfName : jm := (yX8_firstOfName, cX8_firstOfName, 3, some (.object "DataLayout$Item"), 0, 0)
abbrev mX8_records : jm := (yX8_records, cX8_records, 3, some .int, 0, 0)
abbrev mX8_tables : jm := (yX8_tables, cX8_tables, 3, some .int, 0, 0)
abbrev mX8_slackBytes : jm := (yX8_slackBytes, cX8_slackBytes, 3, some .int, 0, 0)
abbrev mX9_init : jm := (yX9_init, cX9_init, 1, none, 2, 41)
abbrev mX9_item : jm := (yX9_item, cX9_item, 4, some .int, 4, 91)
abbrev mX9_clause : jm := (yX9_clause, cX9_clause, 6, some .int, 4, 92)
abbrev mX9_lay : jm := (yX9_lay, cX9_lay, 2, some .int, 5, 117)
abbrev mX9_place : jm := (yX9_place, cX9_place, 4, some .int, 1, 22)
abbrev mX9_size : jm := (yX9_size, cX9_size, 4, some .int, 2, 41)
abbrev mX9_subscript : jm := (yX9_subscript, cX9_subscript, 13, some .int, 7, 103)
abbrev mX9_checks : jm := (yX9_checks, cX9_checks, 2, some .int, 0, 0)
abbrev mX9_depending : jm := (yX9_depending, cX9_depending, 5, some .int, 1, 21)
abbrev mX9_redefines : jm := (yX9_redefines, cX9_redefines, 5, some .int, 3, 67)
abbrev mX9_refer : jm := (yX9_refer, cX9_refer, 6, some .int, 2, 41)
abbrev mX9_slack : jm := (yX9_slack, cX9_slack, 4, some .int, 1, 22)
abbrev mX9_external : jm := (yX9_external, cX9_external, 4, some .int, 1, 21)
abbrev mX9_at : jm := (yX9_at, cX9_at, 2, some .byte, 7, 103)
abbrev mX9_octet : jm := (yX9_octet, cX9_octet, 3, some .int, 2, 43)
abbrev mX9_holds : jm := (yX9_holds, cX9_holds, 5, some .boolean, 10, 174)
abbrev mX9_count : jm := (yX9_count, cX9_count, 2, some .int, 1, 22)
abbrev mX9_refusalFor : jm := (yX9_refusalFor, cX9_refusalFor, 3, some .int, 0, 0)
abbrev mX9_tellClause : jm := (yX9_tellClause, cX9_tellClause, 5, some .boolean, 3, 68)
abbrev mX9_tellTable : jm := (yX9_tellTable, cX9_tellTable, 3, some .boolean, 2, 46)
abbrev mX9_tellSynchronised : jm := (yX9_tellSynchronised, cX9_tellSynchronised, 1, some .boolean, 0, 0)
abbrev mX9_tellValue : jm := (yX9_tellValue, cX9_tellValue, 2, some .boolean, 2, 40)
abbrev mX9_tellRange : jm := (yX9_tellRange, cX9_tellRange, 3, some .boolean, 2, 40)
abbrev mX9_tellPart : jm := (yX9_tellPart, cX9_tellPart, 3, some .boolean, 1, 22)
abbrev mX9_fillFirstEntries : jm := (yX9_fillFirstEntries, cX9_fillFirstEntries, 4, none, 4, 94)
abbrev mX9_fillText : jm := (yX9_fillText, cX9_fillText, 5, none, 2, 43)
abbrev mX9_fillOtherEntries : jm := (yX9_fillOtherEntries, cX9_fillOtherEntries, 3, none, 2, 46)
abbrev mX10_init : jm := (yX10_init, cX10_init, 1, none, 1, 20)
abbrev mX10_thrown : jm := (yX10_thrown, cX10_thrown, 1, some .int, 0, 0)
abbrev mX10_is : jm := (yX10_is, cX10_is, 2, some .boolean, 0, 0)
abbrev mX10_lies : jm := (yX10_lies, cX10_lies, 2, some .boolean, 0, 0)
abbrev mX10_isBelow : jm := (yX10_isBelow, cX10_isBelow, 4, some .boolean, 0, 0)
abbrev mX10_isSize : jm := (yX10_isSize, cX10_isSize, 2, some .boolean, 0, 0)
abbrev mX10_above : jm := (yX10_above, cX10_above, 4, some .int, 1, 21)
abbrev mX10_named : jm := (yX10_named, cX10_named, 2, some .int, 0, 0)
abbrev mX10_item : jm := (yX10_item, cX10_item, 7, some .int, 2, 44)
abbrev mX10_isRedefined : jm := (yX10_isRedefined, cX10_isRedefined, 4, some .boolean, 0, 0)
abbrev mX10_isAside : jm := (yX10_isAside, cX10_isAside, 3, some .boolean, 0, 0)
abbrev mX10_tablesUp : jm := (yX10_tablesUp, cX10_tablesUp, 5, some .int, 0, 0)
abbrev mX10_mayBeTable : jm := (yX10_mayBeTable, cX10_mayBeTable, 7, some .boolean, 1, 24)
abbrev mX10_digitsOf : jm := (yX10_digitsOf, cX10_digitsOf, 4, some .int, 0, 0)
abbrev mX10_isPart : jm := (yX10_isPart, cX10_isPart, 3, some .boolean, 0, 0)
abbrev mX10_isClause : jm := (yX10_isClause, cX10_isClause, 3, some .boolean, 0, 0)
abbrev mX10_clause : jm := (yX10_clause, cX10_clause, 6, some .int, 2, 50)
abbrev mX10_redefines : jm := (yX10_redefines, cX10_redefines, 4, some .int, 1, 23)
abbrev mX10_external : jm := (yX10_external, cX10_external, 3, some .int, 1, 23)
abbrev mX10_depending : jm := (yX10_depending, cX10_depending, 3, some .int, 1, 21)
abbrev mX10_bytesOf : jm := (yX10_bytesOf, cX10_bytesOf, 3, some .int, 0, 0)
abbrev mX10_up : jm := (yX10_up, cX10_up, 3, some .long, 0, 0)
abbrev mX10_firstOf : jm := (yX10_firstOf, cX10_firstOf, 3, some .int, 0, 0)
abbrev mX10_close : jm := (yX10_close, cX10_close, 3, none, 1, 22)
abbrev mX10_layAll : jm := (yX10_layAll, cX10_layAll, 5, none, 2, 47)
abbrev mX10_begin : jm := (yX10_begin, cX10_begin, 6, none, 1, 22)
abbrev mX10_alignment : jm := (yX10_alignment, cX10_alignment, 2, some .int, 0, 0)
abbrev mX10_hasBelow : jm := (yX10_hasBelow, cX10_hasBelow, 4, some .boolean, 1, 21)
abbrev mX10_isBadPart : jm := (yX10_isBadPart, cX10_isBadPart, 6, some .boolean, 1, 24)
abbrev mX10_isLast : jm := (yX10_isLast, cX10_isLast, 4, some .boolean, 1, 23)
abbrev mX10_isWrong : jm := (yX10_isWrong, cX10_isWrong, 2, some .boolean, 2, 49)
abbrev mX10_lay : jm := (yX10_lay, cX10_lay, 3, some .int, 3, 76)
abbrev mX10_findAround : jm := (yX10_findAround, cX10_findAround, 4, none, 1, 24)
abbrev mX10_fillAll : jm := (yX10_fillAll, cX10_fillAll, 10, none, 2, 47)
abbrev mX10_fill : jm := (yX10_fill, cX10_fill, 9, none, 0, 0)
abbrev mX10_refused : jm := (yX10_refused, cX10_refused, 3, some .int, 1, 21)
abbrev mX10_placeOf : jm := (yX10_placeOf, cX10_placeOf, 2, some .long, 0, 0)
abbrev mX10_sizeOf : jm := (yX10_sizeOf, cX10_sizeOf, 4, some .long, 1, 23)
abbrev mX10_place : jm := (yX10_place, cX10_place, 3, some .int, 2, 43)
abbrev mX10_size : jm := (yX10_size, cX10_size, 3, some .int, 2, 46)
abbrev mX10_subscript : jm := (yX10_subscript, cX10_subscript, 10, some .int, 2, 47)
abbrev mX10_checks : jm := (yX10_checks, cX10_checks, 2, some .int, 0, 0)
abbrev mX10_refer : jm := (yX10_refer, cX10_refer, 5, some .int, 2, 46)
abbrev mX10_slack : jm := (yX10_slack, cX10_slack, 3, some .int, 2, 43)
abbrev mX10_at : jm := (yX10_at, cX10_at, 2, some .byte, 0, 0)
abbrev mX10_octet : jm := (yX10_octet, cX10_octet, 3, some .int, 0, 0)
abbrev mX10_isDigit : jm := (yX10_isDigit, cX10_isDigit, 2, some .boolean, 0, 0)
abbrev mX10_says : jm := (yX10_says, cX10_says, 8, some .boolean, 1, 26)
abbrev mX10_saysPacked : jm := (yX10_saysPacked, cX10_saysPacked, 7, some .boolean, 0, 0)
abbrev mX10_holds : jm := (yX10_holds, cX10_holds, 4, some .boolean, 2, 53)
abbrev mX10_count : jm := (yX10_count, cX10_count, 5, some .int, 0, 0)
abbrev mJ9_abs_067f4 : jm := (yJ9_abs_067f4, cJ9_abs_067f4, 2, some .long, 0, 0)
abbrev mJ9_max_7cf53 : jm := (yJ9_max_7cf53, cJ9_max_7cf53, 2, some .int, 0, 0)
abbrev mJ9_max_f86c9 : jm := (yJ9_max_f86c9, cJ9_max_f86c9, 4, some .long, 0, 0)
abbrev mJ9_min_7cf53 : jm := (yJ9_min_7cf53, cJ9_min_7cf53, 2, some .int, 0, 0)
abbrev mL_subscript : jm := (yL_subscript, cL_subscript, 7, some .int, 8, 135)
abbrev mL_at : jm := (yL_at, cL_at, 4, some .int, 8, 124)
abbrev mL_holds : jm := (yL_holds, cL_holds, 4, some .int, 11, 198)
abbrev mL_law : jm := (yL_law, cL_law, 7, some .boolean, 13, 486)
theorem jinX0 : ∀ w ∈ u_ws RX0 TX0 20, w ∈ jtb := jtb_r [297, 299, 301, 303, 305, 307, 309, 311, 313, 315, 317, 319, 321, 323, 325, 327, 329, 331, 333, 335] (by decide +kernel) (by decide +kernel)
theorem jinX3 : ∀ w ∈ u_ws RX3 TX3 2, w ∈ jtb := jtb_r [110, 112] (by decide +kernel) (by decide +kernel)
theorem jinX4 : ∀ w ∈ u_ws RX4 TX4 3, w ∈ jtb := jtb_r [430, 432, 434] (by decide +kernel) (by decide +kernel)
theorem jinX5 : ∀ w ∈ u_ws RX5 TX5 6, w ∈ jtb := jtb_r [223, 225, 227, 229, 231, 233] (by decide +kernel) (by decide +kernel)
theorem jinX6 : ∀ w ∈ u_ws RX6 TX6 2, w ∈ jtb := jtb_r [124, 126] (by decide +kernel) (by decide +kernel)
theorem jinX7 : ∀ w ∈ u_ws RX7 TX7 5, w ∈ jtb := jtb_r [372, 374, 376, 378, 380] (by decide +kernel) (by decide +kernel)
theorem jinX8 : ∀ w ∈ u_ws RX8 TX8 2, w ∈ jtb := jtb_r [96, 98] (by decide +kernel) (by decide +kernel)
theorem jinX9 : ∀ w ∈ u_ws RX9 TX9 6, w ∈ jtb := jtb_r [136, 138, 140, 142, 144, 146] (by decide +kernel) (by decide +kernel)
theorem jinX10 : ∀ w ∈ u_ws RX10 TX10 36, w ∈ jtb := jtb_r [884, 886, 888, 890, 892, 894, 896, 898, 900, 902, 904, 906, 908, 910, 912, 914, 916, 918, 920, 922, 924, 926, 928, 930, 932, 934, 936, 938, 940, 942, 944, 946, 948, 950, 952, 954] (by decide +kernel) (by decide +kernel)
theorem fl_RX9_10 : jfl RX9 10 7 0 := ⟨RX9, TX9, 6, rfl, rfl, jinX9, tyX9_ok, nmX9, by decide, jtb_at 130 (by decide +kernel) rfl, rfl⟩
theorem fl_RX9_21 : jfl RX9 21 7 1 := ⟨RX9, TX9, 6, rfl, rfl, jinX9, tyX9_ok, nmX9, by decide, jtb_at 131 (by decide +kernel) rfl, rfl⟩
theorem fl_RX9_28 : jfl RX9 28 7 2 := ⟨RX9, TX9, 6, rfl, rfl, jinX9, tyX9_ok, nmX9, by decide, jtb_at 132 (by decide +kernel) rfl, rfl⟩
theorem fl_RX9_32 : jfl RX9 32 7 3 := ⟨RX9, TX9, 6, rfl, rfl, jinX9, tyX9_ok, nmX9, by decide, jtb_at 133 (by decide +kernel) rfl, rfl⟩
theorem fl_RX9_36 : jfl RX9 36 7 4 := ⟨RX9, TX9, 6, rfl, rfl, jinX9, tyX9_ok, nmX9, by decide, jtb_at 134 (by decide +kernel) rfl, rfl⟩
theorem fl_RX9_39 : jfl RX9 39 7 5 := ⟨RX9, TX9, 6, rfl, rfl, jinX9, tyX9_ok, nmX9, by decide, jtb_at 135 (by decide +kernel) rfl, rfl⟩
theorem fl_RX9_56 : jfl RX9 56 6 1 := ⟨RX8, TX8, 2, rfl, rfl, jinX8, tyX8_ok, nmX8, by decide, jtb_at 95 (by decide +kernel) rfl, rfl⟩
theorem fl_RX9_81 : jfl RX9 81 1 1 := ⟨RX3, TX3, 2, rfl, rfl, jinX3, tyX3_ok, nmX3, by decide, jtb_at 109 (by decide +kernel) rfl, rfl⟩
theorem fl_RX9_97 : jfl RX9 97 4 1 := ⟨RX6, TX6, 2, rfl, rfl, jinX6, tyX6_ok, nmX6, by decide, jtb_at 123 (by decide +kernel) rfl, rfl⟩
theorem fl_RX9_104 : jfl RX9 104 0 7 := ⟨RX0, TX0, 20, rfl, rfl, jinX0, tyX0_ok, nmX0, by decide, jtb_at 264 (by decide +kernel) rfl, rfl⟩
theorem fl_RX9_110 : jfl RX9 110 3 0 := ⟨RX5, TX5, 6, rfl, rfl, jinX5, tyX5_ok, nmX5, by decide, jtb_at 211 (by decide +kernel) rfl, rfl⟩
theorem fl_RX9_126 : jfl RX9 126 5 3 := ⟨RX7, TX7, 5, rfl, rfl, jinX7, tyX7_ok, nmX7, by decide, jtb_at 366 (by decide +kernel) rfl, rfl⟩
theorem fl_RX9_131 : jfl RX9 131 5 4 := ⟨RX7, TX7, 5, rfl, rfl, jinX7, tyX7_ok, nmX7, by decide, jtb_at 369 (by decide +kernel) rfl, rfl⟩
theorem fl_RX9_144 : jfl RX9 144 0 10 := ⟨RX0, TX0, 20, rfl, rfl, jinX0, tyX0_ok, nmX0, by decide, jtb_at 274 (by decide +kernel) rfl, rfl⟩
theorem fl_RX9_148 : jfl RX9 148 5 2 := ⟨RX7, TX7, 5, rfl, rfl, jinX7, tyX7_ok, nmX7, by decide, jtb_at 362 (by decide +kernel) rfl, rfl⟩
theorem fl_RX9_151 : jfl RX9 151 5 0 := ⟨RX7, TX7, 5, rfl, rfl, jinX7, tyX7_ok, nmX7, by decide, jtb_at 357 (by decide +kernel) rfl, rfl⟩
theorem fl_RX9_154 : jfl RX9 154 5 1 := ⟨RX7, TX7, 5, rfl, rfl, jinX7, tyX7_ok, nmX7, by decide, jtb_at 359 (by decide +kernel) rfl, rfl⟩
theorem fl_RX9_161 : jfl RX9 161 0 17 := ⟨RX0, TX0, 20, rfl, rfl, jinX0, tyX0_ok, nmX0, by decide, jtb_at 290 (by decide +kernel) rfl, rfl⟩
theorem fl_RX9_165 : jfl RX9 165 0 18 := ⟨RX0, TX0, 20, rfl, rfl, jinX0, tyX0_ok, nmX0, by decide, jtb_at 292 (by decide +kernel) rfl, rfl⟩
theorem fl_RX9_168 : jfl RX9 168 3 3 := ⟨RX5, TX5, 6, rfl, rfl, jinX5, tyX5_ok, nmX5, by decide, jtb_at 217 (by decide +kernel) rfl, rfl⟩
theorem fl_RX9_171 : jfl RX9 171 0 1 := ⟨RX0, TX0, 20, rfl, rfl, jinX0, tyX0_ok, nmX0, by decide, jtb_at 243 (by decide +kernel) rfl, rfl⟩
theorem fl_RX9_174 : jfl RX9 174 0 19 := ⟨RX0, TX0, 20, rfl, rfl, jinX0, tyX0_ok, nmX0, by decide, jtb_at 296 (by decide +kernel) rfl, rfl⟩
theorem fl_RX9_190 : jfl RX9 190 0 6 := ⟨RX0, TX0, 20, rfl, rfl, jinX0, tyX0_ok, nmX0, by decide, jtb_at 260 (by decide +kernel) rfl, rfl⟩
theorem fl_RX9_209 : jfl RX9 209 0 14 := ⟨RX0, TX0, 20, rfl, rfl, jinX0, tyX0_ok, nmX0, by decide, jtb_at 282 (by decide +kernel) rfl, rfl⟩
theorem fl_RX9_255 : jfl RX9 255 0 2 := ⟨RX0, TX0, 20, rfl, rfl, jinX0, tyX0_ok, nmX0, by decide, jtb_at 248 (by decide +kernel) rfl, rfl⟩
theorem fl_RX9_258 : jfl RX9 258 0 11 := ⟨RX0, TX0, 20, rfl, rfl, jinX0, tyX0_ok, nmX0, by decide, jtb_at 276 (by decide +kernel) rfl, rfl⟩
theorem fl_RX9_265 : jfl RX9 265 0 12 := ⟨RX0, TX0, 20, rfl, rfl, jinX0, tyX0_ok, nmX0, by decide, jtb_at 278 (by decide +kernel) rfl, rfl⟩
theorem fl_RX9_271 : jfl RX9 271 0 3 := ⟨RX0, TX0, 20, rfl, rfl, jinX0, tyX0_ok, nmX0, by decide, jtb_at 251 (by decide +kernel) rfl, rfl⟩
theorem fl_RX9_278 : jfl RX9 278 0 13 := ⟨RX0, TX0, 20, rfl, rfl, jinX0, tyX0_ok, nmX0, by decide, jtb_at 280 (by decide +kernel) rfl, rfl⟩
theorem fl_RX9_284 : jfl RX9 284 0 15 := ⟨RX0, TX0, 20, rfl, rfl, jinX0, tyX0_ok, nmX0, by decide, jtb_at 284 (by decide +kernel) rfl, rfl⟩
theorem fl_RX9_290 : jfl RX9 290 0 8 := ⟨RX0, TX0, 20, rfl, rfl, jinX0, tyX0_ok, nmX0, by decide, jtb_at 268 (by decide +kernel) rfl, rfl⟩
theorem fl_RX9_293 : jfl RX9 293 0 0 := ⟨RX0, TX0, 20, rfl, rfl, jinX0, tyX0_ok, nmX0, by decide, jtb_at 239 (by decide +kernel) rfl, rfl⟩
theorem fl_RX9_299 : jfl RX9 299 0 16 := ⟨RX0, TX0, 20, rfl, rfl, jinX0, tyX0_ok, nmX0, by decide, jtb_at 286 (by decide +kernel) rfl, rfl⟩
theorem fl_RX9_302 : jfl RX9 302 6 0 := ⟨RX8, TX8, 2, rfl, rfl, jinX8, tyX8_ok, nmX8, by decide, jtb_at 92 (by decide +kernel) rfl, rfl⟩
theorem fl_RX9_309 : jfl RX9 309 3 4 := ⟨RX5, TX5, 6, rfl, rfl, jinX5, tyX5_ok, nmX5, by decide, jtb_at 220 (by decide +kernel) rfl, rfl⟩
theorem fl_RX9_312 : jfl RX9 312 0 4 := ⟨RX0, TX0, 20, rfl, rfl, jinX0, tyX0_ok, nmX0, by decide, jtb_at 255 (by decide +kernel) rfl, rfl⟩
theorem fl_RX0_9 : jfl RX0 9 0 0 := ⟨RX0, TX0, 20, rfl, rfl, jinX0, tyX0_ok, nmX0, by decide, jtb_at 236 (by decide +kernel) rfl, rfl⟩
theorem fl_RX0_15 : jfl RX0 15 0 1 := ⟨RX0, TX0, 20, rfl, rfl, jinX0, tyX0_ok, nmX0, by decide, jtb_at 240 (by decide +kernel) rfl, rfl⟩
theorem fl_RX0_18 : jfl RX0 18 0 2 := ⟨RX0, TX0, 20, rfl, rfl, jinX0, tyX0_ok, nmX0, by decide, jtb_at 244 (by decide +kernel) rfl, rfl⟩
theorem fl_RX0_21 : jfl RX0 21 0 3 := ⟨RX0, TX0, 20, rfl, rfl, jinX0, tyX0_ok, nmX0, by decide, jtb_at 249 (by decide +kernel) rfl, rfl⟩
theorem fl_RX0_30 : jfl RX0 30 0 4 := ⟨RX0, TX0, 20, rfl, rfl, jinX0, tyX0_ok, nmX0, by decide, jtb_at 252 (by decide +kernel) rfl, rfl⟩
theorem fl_RX0_33 : jfl RX0 33 0 5 := ⟨RX0, TX0, 20, rfl, rfl, jinX0, tyX0_ok, nmX0, by decide, jtb_at 256 (by decide +kernel) rfl, rfl⟩
theorem fl_RX0_37 : jfl RX0 37 0 6 := ⟨RX0, TX0, 20, rfl, rfl, jinX0, tyX0_ok, nmX0, by decide, jtb_at 259 (by decide +kernel) rfl, rfl⟩
theorem fl_RX0_43 : jfl RX0 43 0 7 := ⟨RX0, TX0, 20, rfl, rfl, jinX0, tyX0_ok, nmX0, by decide, jtb_at 261 (by decide +kernel) rfl, rfl⟩
theorem fl_RX0_47 : jfl RX0 47 0 19 := ⟨RX0, TX0, 20, rfl, rfl, jinX0, tyX0_ok, nmX0, by decide, jtb_at 293 (by decide +kernel) rfl, rfl⟩
theorem fl_RX0_54 : jfl RX0 54 0 17 := ⟨RX0, TX0, 20, rfl, rfl, jinX0, tyX0_ok, nmX0, by decide, jtb_at 288 (by decide +kernel) rfl, rfl⟩
theorem fl_RX0_57 : jfl RX0 57 0 10 := ⟨RX0, TX0, 20, rfl, rfl, jinX0, tyX0_ok, nmX0, by decide, jtb_at 272 (by decide +kernel) rfl, rfl⟩
theorem fl_RX0_61 : jfl RX0 61 3 1 := ⟨RX5, TX5, 6, rfl, rfl, jinX5, tyX5_ok, nmX5, by decide, jtb_at 214 (by decide +kernel) rfl, rfl⟩
theorem fl_RX0_65 : jfl RX0 65 3 0 := ⟨RX5, TX5, 6, rfl, rfl, jinX5, tyX5_ok, nmX5, by decide, jtb_at 212 (by decide +kernel) rfl, rfl⟩
theorem fl_RX0_68 : jfl RX0 68 3 5 := ⟨RX5, TX5, 6, rfl, rfl, jinX5, tyX5_ok, nmX5, by decide, jtb_at 222 (by decide +kernel) rfl, rfl⟩
theorem fl_RX0_75 : jfl RX0 75 5 1 := ⟨RX7, TX7, 5, rfl, rfl, jinX7, tyX7_ok, nmX7, by decide, jtb_at 360 (by decide +kernel) rfl, rfl⟩
theorem fl_RX0_80 : jfl RX0 80 5 3 := ⟨RX7, TX7, 5, rfl, rfl, jinX7, tyX7_ok, nmX7, by decide, jtb_at 367 (by decide +kernel) rfl, rfl⟩
theorem fl_RX0_83 : jfl RX0 83 5 4 := ⟨RX7, TX7, 5, rfl, rfl, jinX7, tyX7_ok, nmX7, by decide, jtb_at 371 (by decide +kernel) rfl, rfl⟩
theorem fl_RX2_11 : jfl RX2 11 0 7 := ⟨RX0, TX0, 20, rfl, rfl, jinX0, tyX0_ok, nmX0, by decide, jtb_at 262 (by decide +kernel) rfl, rfl⟩
theorem fl_RX2_17 : jfl RX2 17 3 0 := ⟨RX5, TX5, 6, rfl, rfl, jinX5, tyX5_ok, nmX5, by decide, jtb_at 209 (by decide +kernel) rfl, rfl⟩
theorem fl_RX2_23 : jfl RX2 23 0 2 := ⟨RX0, TX0, 20, rfl, rfl, jinX0, tyX0_ok, nmX0, by decide, jtb_at 245 (by decide +kernel) rfl, rfl⟩
theorem fl_RX2_27 : jfl RX2 27 0 4 := ⟨RX0, TX0, 20, rfl, rfl, jinX0, tyX0_ok, nmX0, by decide, jtb_at 253 (by decide +kernel) rfl, rfl⟩
theorem fl_RX2_30 : jfl RX2 30 0 13 := ⟨RX0, TX0, 20, rfl, rfl, jinX0, tyX0_ok, nmX0, by decide, jtb_at 279 (by decide +kernel) rfl, rfl⟩
theorem fl_RX2_64 : jfl RX2 64 0 3 := ⟨RX0, TX0, 20, rfl, rfl, jinX0, tyX0_ok, nmX0, by decide, jtb_at 250 (by decide +kernel) rfl, rfl⟩
theorem fl_RX3_9 : jfl RX3 9 1 0 := ⟨RX3, TX3, 2, rfl, rfl, jinX3, tyX3_ok, nmX3, by decide, jtb_at 107 (by decide +kernel) rfl, rfl⟩
theorem fl_RX3_15 : jfl RX3 15 1 1 := ⟨RX3, TX3, 2, rfl, rfl, jinX3, tyX3_ok, nmX3, by decide, jtb_at 108 (by decide +kernel) rfl, rfl⟩
theorem fl_RX3_22 : jfl RX3 22 6 1 := ⟨RX8, TX8, 2, rfl, rfl, jinX8, tyX8_ok, nmX8, by decide, jtb_at 94 (by decide +kernel) rfl, rfl⟩
theorem fl_RX3_28 : jfl RX3 28 6 0 := ⟨RX8, TX8, 2, rfl, rfl, jinX8, tyX8_ok, nmX8, by decide, jtb_at 91 (by decide +kernel) rfl, rfl⟩
theorem fl_RX3_38 : jfl RX3 38 0 5 := ⟨RX0, TX0, 20, rfl, rfl, jinX0, tyX0_ok, nmX0, by decide, jtb_at 257 (by decide +kernel) rfl, rfl⟩
theorem fl_RX3_56 : jfl RX3 56 0 7 := ⟨RX0, TX0, 20, rfl, rfl, jinX0, tyX0_ok, nmX0, by decide, jtb_at 263 (by decide +kernel) rfl, rfl⟩
theorem fl_RX3_60 : jfl RX3 60 3 2 := ⟨RX5, TX5, 6, rfl, rfl, jinX5, tyX5_ok, nmX5, by decide, jtb_at 215 (by decide +kernel) rfl, rfl⟩
theorem fl_RX3_65 : jfl RX3 65 3 5 := ⟨RX5, TX5, 6, rfl, rfl, jinX5, tyX5_ok, nmX5, by decide, jtb_at 221 (by decide +kernel) rfl, rfl⟩
theorem fl_RX3_69 : jfl RX3 69 0 11 := ⟨RX0, TX0, 20, rfl, rfl, jinX0, tyX0_ok, nmX0, by decide, jtb_at 275 (by decide +kernel) rfl, rfl⟩
theorem fl_RX3_73 : jfl RX3 73 0 4 := ⟨RX0, TX0, 20, rfl, rfl, jinX0, tyX0_ok, nmX0, by decide, jtb_at 254 (by decide +kernel) rfl, rfl⟩
theorem fl_RX3_90 : jfl RX3 90 0 10 := ⟨RX0, TX0, 20, rfl, rfl, jinX0, tyX0_ok, nmX0, by decide, jtb_at 271 (by decide +kernel) rfl, rfl⟩
theorem fl_RX3_97 : jfl RX3 97 3 0 := ⟨RX5, TX5, 6, rfl, rfl, jinX5, tyX5_ok, nmX5, by decide, jtb_at 210 (by decide +kernel) rfl, rfl⟩
theorem fl_RX3_100 : jfl RX3 100 3 3 := ⟨RX5, TX5, 6, rfl, rfl, jinX5, tyX5_ok, nmX5, by decide, jtb_at 216 (by decide +kernel) rfl, rfl⟩
theorem fl_RX3_103 : jfl RX3 103 3 1 := ⟨RX5, TX5, 6, rfl, rfl, jinX5, tyX5_ok, nmX5, by decide, jtb_at 213 (by decide +kernel) rfl, rfl⟩
theorem fl_RX3_104 : jfl RX3 104 0 17 := ⟨RX0, TX0, 20, rfl, rfl, jinX0, tyX0_ok, nmX0, by decide, jtb_at 287 (by decide +kernel) rfl, rfl⟩
theorem fl_RX3_111 : jfl RX3 111 3 4 := ⟨RX5, TX5, 6, rfl, rfl, jinX5, tyX5_ok, nmX5, by decide, jtb_at 219 (by decide +kernel) rfl, rfl⟩
theorem fl_RX3_114 : jfl RX3 114 0 19 := ⟨RX0, TX0, 20, rfl, rfl, jinX0, tyX0_ok, nmX0, by decide, jtb_at 294 (by decide +kernel) rfl, rfl⟩
theorem fl_RX3_128 : jfl RX3 128 5 4 := ⟨RX7, TX7, 5, rfl, rfl, jinX7, tyX7_ok, nmX7, by decide, jtb_at 370 (by decide +kernel) rfl, rfl⟩
theorem fl_RX3_139 : jfl RX3 139 0 15 := ⟨RX0, TX0, 20, rfl, rfl, jinX0, tyX0_ok, nmX0, by decide, jtb_at 283 (by decide +kernel) rfl, rfl⟩
theorem fl_RX3_142 : jfl RX3 142 0 16 := ⟨RX0, TX0, 20, rfl, rfl, jinX0, tyX0_ok, nmX0, by decide, jtb_at 285 (by decide +kernel) rfl, rfl⟩
theorem fl_RX3_145 : jfl RX3 145 5 2 := ⟨RX7, TX7, 5, rfl, rfl, jinX7, tyX7_ok, nmX7, by decide, jtb_at 364 (by decide +kernel) rfl, rfl⟩
theorem fl_RX3_151 : jfl RX3 151 0 1 := ⟨RX0, TX0, 20, rfl, rfl, jinX0, tyX0_ok, nmX0, by decide, jtb_at 242 (by decide +kernel) rfl, rfl⟩
theorem fl_RX3_154 : jfl RX3 154 0 14 := ⟨RX0, TX0, 20, rfl, rfl, jinX0, tyX0_ok, nmX0, by decide, jtb_at 281 (by decide +kernel) rfl, rfl⟩
theorem fl_RX3_162 : jfl RX3 162 0 2 := ⟨RX0, TX0, 20, rfl, rfl, jinX0, tyX0_ok, nmX0, by decide, jtb_at 247 (by decide +kernel) rfl, rfl⟩
theorem fl_RX3_165 : jfl RX3 165 0 9 := ⟨RX0, TX0, 20, rfl, rfl, jinX0, tyX0_ok, nmX0, by decide, jtb_at 270 (by decide +kernel) rfl, rfl⟩
theorem fl_RX3_180 : jfl RX3 180 0 0 := ⟨RX0, TX0, 20, rfl, rfl, jinX0, tyX0_ok, nmX0, by decide, jtb_at 238 (by decide +kernel) rfl, rfl⟩
theorem fl_RX3_190 : jfl RX3 190 0 8 := ⟨RX0, TX0, 20, rfl, rfl, jinX0, tyX0_ok, nmX0, by decide, jtb_at 267 (by decide +kernel) rfl, rfl⟩
theorem fl_RX4_9 : jfl RX4 9 2 0 := ⟨RX4, TX4, 3, rfl, rfl, jinX4, tyX4_ok, nmX4, by decide, jtb_at 427 (by decide +kernel) rfl, rfl⟩
theorem fl_RX4_15 : jfl RX4 15 2 1 := ⟨RX4, TX4, 3, rfl, rfl, jinX4, tyX4_ok, nmX4, by decide, jtb_at 428 (by decide +kernel) rfl, rfl⟩
theorem fl_RX4_18 : jfl RX4 18 2 2 := ⟨RX4, TX4, 3, rfl, rfl, jinX4, tyX4_ok, nmX4, by decide, jtb_at 429 (by decide +kernel) rfl, rfl⟩
theorem fl_RX6_9 : jfl RX6 9 4 0 := ⟨RX6, TX6, 2, rfl, rfl, jinX6, tyX6_ok, nmX6, by decide, jtb_at 121 (by decide +kernel) rfl, rfl⟩
theorem fl_RX6_15 : jfl RX6 15 4 1 := ⟨RX6, TX6, 2, rfl, rfl, jinX6, tyX6_ok, nmX6, by decide, jtb_at 122 (by decide +kernel) rfl, rfl⟩
theorem fl_RX7_7 : jfl RX7 7 5 0 := ⟨RX7, TX7, 5, rfl, rfl, jinX7, tyX7_ok, nmX7, by decide, jtb_at 356 (by decide +kernel) rfl, rfl⟩
theorem fl_RX7_13 : jfl RX7 13 5 1 := ⟨RX7, TX7, 5, rfl, rfl, jinX7, tyX7_ok, nmX7, by decide, jtb_at 358 (by decide +kernel) rfl, rfl⟩
theorem fl_RX7_16 : jfl RX7 16 5 2 := ⟨RX7, TX7, 5, rfl, rfl, jinX7, tyX7_ok, nmX7, by decide, jtb_at 361 (by decide +kernel) rfl, rfl⟩
theorem fl_RX7_20 : jfl RX7 20 5 3 := ⟨RX7, TX7, 5, rfl, rfl, jinX7, tyX7_ok, nmX7, by decide, jtb_at 365 (by decide +kernel) rfl, rfl⟩
theorem fl_RX7_23 : jfl RX7 23 5 4 := ⟨RX7, TX7, 5, rfl, rfl, jinX7, tyX7_ok, nmX7, by decide, jtb_at 368 (by decide +kernel) rfl, rfl⟩
theorem fl_RX8_11 : jfl RX8 11 6 0 := ⟨RX8, TX8, 2, rfl, rfl, jinX8, tyX8_ok, nmX8, by decide, jtb_at 90 (by decide +kernel) rfl, rfl⟩
theorem fl_RX8_17 : jfl RX8 17 6 1 := ⟨RX8, TX8, 2, rfl, rfl, jinX8, tyX8_ok, nmX8, by decide, jtb_at 93 (by decide +kernel) rfl, rfl⟩
theorem fl_RX8_31 : jfl RX8 31 0 8 := ⟨RX0, TX0, 20, rfl, rfl, jinX0, tyX0_ok, nmX0, by decide, jtb_at 266 (by decide +kernel) rfl, rfl⟩
theorem fl_RX8_35 : jfl RX8 35 0 9 := ⟨RX0, TX0, 20, rfl, rfl, jinX0, tyX0_ok, nmX0, by decide, jtb_at 269 (by decide +kernel) rfl, rfl⟩
theorem fl_RX8_42 : jfl RX8 42 0 2 := ⟨RX0, TX0, 20, rfl, rfl, jinX0, tyX0_ok, nmX0, by decide, jtb_at 246 (by decide +kernel) rfl, rfl⟩
theorem fl_RX8_55 : jfl RX8 55 0 1 := ⟨RX0, TX0, 20, rfl, rfl, jinX0, tyX0_ok, nmX0, by decide, jtb_at 241 (by decide +kernel) rfl, rfl⟩
theorem fl_RX8_61 : jfl RX8 61 0 10 := ⟨RX0, TX0, 20, rfl, rfl, jinX0, tyX0_ok, nmX0, by decide, jtb_at 273 (by decide +kernel) rfl, rfl⟩
theorem fl_RX8_65 : jfl RX8 65 0 18 := ⟨RX0, TX0, 20, rfl, rfl, jinX0, tyX0_ok, nmX0, by decide, jtb_at 291 (by decide +kernel) rfl, rfl⟩
theorem fl_RX8_73 : jfl RX8 73 0 0 := ⟨RX0, TX0, 20, rfl, rfl, jinX0, tyX0_ok, nmX0, by decide, jtb_at 237 (by decide +kernel) rfl, rfl⟩
theorem fl_RX8_80 : jfl RX8 80 5 2 := ⟨RX7, TX7, 5, rfl, rfl, jinX7, tyX7_ok, nmX7, by decide, jtb_at 363 (by decide +kernel) rfl, rfl⟩
theorem fl_RX8_85 : jfl RX8 85 0 5 := ⟨RX0, TX0, 20, rfl, rfl, jinX0, tyX0_ok, nmX0, by decide, jtb_at 258 (by decide +kernel) rfl, rfl⟩
theorem fl_RX8_88 : jfl RX8 88 0 17 := ⟨RX0, TX0, 20, rfl, rfl, jinX0, tyX0_ok, nmX0, by decide, jtb_at 289 (by decide +kernel) rfl, rfl⟩
theorem fl_RX8_91 : jfl RX8 91 0 19 := ⟨RX0, TX0, 20, rfl, rfl, jinX0, tyX0_ok, nmX0, by decide, jtb_at 295 (by decide +kernel) rfl, rfl⟩
theorem fl_RX8_101 : jfl RX8 101 0 12 := ⟨RX0, TX0, 20, rfl, rfl, jinX0, tyX0_ok, nmX0, by decide, jtb_at 277 (by decide +kernel) rfl, rfl⟩
theorem fl_RX8_104 : jfl RX8 104 0 7 := ⟨RX0, TX0, 20, rfl, rfl, jinX0, tyX0_ok, nmX0, by decide, jtb_at 265 (by decide +kernel) rfl, rfl⟩
theorem fl_RX8_108 : jfl RX8 108 3 3 := ⟨RX5, TX5, 6, rfl, rfl, jinX5, tyX5_ok, nmX5, by decide, jtb_at 218 (by decide +kernel) rfl, rfl⟩
theorem fl_RX10_7 : jfl RX10 7 8 2 := ⟨RX10, TX10, 36, rfl, rfl, jinX10, tyX10_ok, nmX10, by decide, jtb_at 850 (by decide +kernel) rfl, rfl⟩
theorem fl_RX10_13 : jfl RX10 13 8 3 := ⟨RX10, TX10, 36, rfl, rfl, jinX10, tyX10_ok, nmX10, by decide, jtb_at 851 (by decide +kernel) rfl, rfl⟩
theorem fl_RX10_16 : jfl RX10 16 8 4 := ⟨RX10, TX10, 36, rfl, rfl, jinX10, tyX10_ok, nmX10, by decide, jtb_at 852 (by decide +kernel) rfl, rfl⟩
theorem fl_RX10_19 : jfl RX10 19 8 5 := ⟨RX10, TX10, 36, rfl, rfl, jinX10, tyX10_ok, nmX10, by decide, jtb_at 853 (by decide +kernel) rfl, rfl⟩
theorem fl_RX10_22 : jfl RX10 22 8 6 := ⟨RX10, TX10, 36, rfl, rfl, jinX10, tyX10_ok, nmX10, by decide, jtb_at 854 (by decide +kernel) rfl, rfl⟩
theorem fl_RX10_25 : jfl RX10 25 8 7 := ⟨RX10, TX10, 36, rfl, rfl, jinX10, tyX10_ok, nmX10, by decide, jtb_at 855 (by decide +kernel) rfl, rfl⟩
theorem fl_RX10_28 : jfl RX10 28 8 8 := ⟨RX10, TX10, 36, rfl, rfl, jinX10, tyX10_ok, nmX10, by decide, jtb_at 856 (by decide +kernel) rfl, rfl⟩
theorem fl_RX10_31 : jfl RX10 31 8 9 := ⟨RX10, TX10, 36, rfl, rfl, jinX10, tyX10_ok, nmX10, by decide, jtb_at 857 (by decide +kernel) rfl, rfl⟩
theorem fl_RX10_34 : jfl RX10 34 8 10 := ⟨RX10, TX10, 36, rfl, rfl, jinX10, tyX10_ok, nmX10, by decide, jtb_at 858 (by decide +kernel) rfl, rfl⟩
theorem fl_RX10_37 : jfl RX10 37 8 11 := ⟨RX10, TX10, 36, rfl, rfl, jinX10, tyX10_ok, nmX10, by decide, jtb_at 859 (by decide +kernel) rfl, rfl⟩
theorem fl_RX10_41 : jfl RX10 41 8 12 := ⟨RX10, TX10, 36, rfl, rfl, jinX10, tyX10_ok, nmX10, by decide, jtb_at 860 (by decide +kernel) rfl, rfl⟩
theorem fl_RX10_44 : jfl RX10 44 8 13 := ⟨RX10, TX10, 36, rfl, rfl, jinX10, tyX10_ok, nmX10, by decide, jtb_at 861 (by decide +kernel) rfl, rfl⟩
theorem fl_RX10_47 : jfl RX10 47 8 14 := ⟨RX10, TX10, 36, rfl, rfl, jinX10, tyX10_ok, nmX10, by decide, jtb_at 862 (by decide +kernel) rfl, rfl⟩
theorem fl_RX10_50 : jfl RX10 50 8 15 := ⟨RX10, TX10, 36, rfl, rfl, jinX10, tyX10_ok, nmX10, by decide, jtb_at 863 (by decide +kernel) rfl, rfl⟩
theorem fl_RX10_53 : jfl RX10 53 8 16 := ⟨RX10, TX10, 36, rfl, rfl, jinX10, tyX10_ok, nmX10, by decide, jtb_at 864 (by decide +kernel) rfl, rfl⟩
theorem fl_RX10_56 : jfl RX10 56 8 17 := ⟨RX10, TX10, 36, rfl, rfl, jinX10, tyX10_ok, nmX10, by decide, jtb_at 865 (by decide +kernel) rfl, rfl⟩
theorem fl_RX10_59 : jfl RX10 59 8 18 := ⟨RX10, TX10, 36, rfl, rfl, jinX10, tyX10_ok, nmX10, by decide, jtb_at 866 (by decide +kernel) rfl, rfl⟩
theorem fl_RX10_62 : jfl RX10 62 8 19 := ⟨RX10, TX10, 36, rfl, rfl, jinX10, tyX10_ok, nmX10, by decide, jtb_at 867 (by decide +kernel) rfl, rfl⟩
theorem fl_RX10_65 : jfl RX10 65 8 20 := ⟨RX10, TX10, 36, rfl, rfl, jinX10, tyX10_ok, nmX10, by decide, jtb_at 868 (by decide +kernel) rfl, rfl⟩
theorem fl_RX10_68 : jfl RX10 68 8 22 := ⟨RX10, TX10, 36, rfl, rfl, jinX10, tyX10_ok, nmX10, by decide, jtb_at 870 (by decide +kernel) rfl, rfl⟩
theorem fl_RX10_72 : jfl RX10 72 8 26 := ⟨RX10, TX10, 36, rfl, rfl, jinX10, tyX10_ok, nmX10, by decide, jtb_at 874 (by decide +kernel) rfl, rfl⟩
theorem fl_RX10_76 : jfl RX10 76 8 27 := ⟨RX10, TX10, 36, rfl, rfl, jinX10, tyX10_ok, nmX10, by decide, jtb_at 875 (by decide +kernel) rfl, rfl⟩
theorem fl_RX10_80 : jfl RX10 80 8 28 := ⟨RX10, TX10, 36, rfl, rfl, jinX10, tyX10_ok, nmX10, by decide, jtb_at 876 (by decide +kernel) rfl, rfl⟩
theorem fl_RX10_83 : jfl RX10 83 8 29 := ⟨RX10, TX10, 36, rfl, rfl, jinX10, tyX10_ok, nmX10, by decide, jtb_at 877 (by decide +kernel) rfl, rfl⟩
theorem fl_RX10_86 : jfl RX10 86 8 30 := ⟨RX10, TX10, 36, rfl, rfl, jinX10, tyX10_ok, nmX10, by decide, jtb_at 878 (by decide +kernel) rfl, rfl⟩
theorem fl_RX10_89 : jfl RX10 89 8 31 := ⟨RX10, TX10, 36, rfl, rfl, jinX10, tyX10_ok, nmX10, by decide, jtb_at 879 (by decide +kernel) rfl, rfl⟩
theorem fl_RX10_92 : jfl RX10 92 8 32 := ⟨RX10, TX10, 36, rfl, rfl, jinX10, tyX10_ok, nmX10, by decide, jtb_at 880 (by decide +kernel) rfl, rfl⟩
theorem fl_RX10_95 : jfl RX10 95 8 33 := ⟨RX10, TX10, 36, rfl, rfl, jinX10, tyX10_ok, nmX10, by decide, jtb_at 881 (by decide +kernel) rfl, rfl⟩
theorem fl_RX10_98 : jfl RX10 98 8 0 := ⟨RX10, TX10, 36, rfl, rfl, jinX10, tyX10_ok, nmX10, by decide, jtb_at 848 (by decide +kernel) rfl, rfl⟩
theorem fl_RX10_102 : jfl RX10 102 8 1 := ⟨RX10, TX10, 36, rfl, rfl, jinX10, tyX10_ok, nmX10, by decide, jtb_at 849 (by decide +kernel) rfl, rfl⟩
theorem fl_RX10_121 : jfl RX10 121 8 21 := ⟨RX10, TX10, 36, rfl, rfl, jinX10, tyX10_ok, nmX10, by decide, jtb_at 869 (by decide +kernel) rfl, rfl⟩
theorem fl_RX10_194 : jfl RX10 194 8 24 := ⟨RX10, TX10, 36, rfl, rfl, jinX10, tyX10_ok, nmX10, by decide, jtb_at 872 (by decide +kernel) rfl, rfl⟩
theorem fl_RX10_197 : jfl RX10 197 8 25 := ⟨RX10, TX10, 36, rfl, rfl, jinX10, tyX10_ok, nmX10, by decide, jtb_at 873 (by decide +kernel) rfl, rfl⟩
theorem fl_RX10_203 : jfl RX10 203 8 34 := ⟨RX10, TX10, 36, rfl, rfl, jinX10, tyX10_ok, nmX10, by decide, jtb_at 882 (by decide +kernel) rfl, rfl⟩
theorem fl_RX10_226 : jfl RX10 226 8 23 := ⟨RX10, TX10, 36, rfl, rfl, jinX10, tyX10_ok, nmX10, by decide, jtb_at 871 (by decide +kernel) rfl, rfl⟩
theorem fl_RX10_229 : jfl RX10 229 8 35 := ⟨RX10, TX10, 36, rfl, rfl, jinX10, tyX10_ok, nmX10, by decide, jtb_at 883 (by decide +kernel) rfl, rfl⟩
theorem cl_RX0_24 : jcs RX0 24 mX1_bytesOf 2 := ⟨⟨jtb_at 200 (by decide +kernel) rfl, jtb_at 60 (by decide +kernel) rfl, jtb_at 202 (by decide +kernel) rfl, (by decide +kernel)⟩, jtb_at 201 (by decide +kernel) rfl⟩
theorem cl_RX0_42 : jcn RX0 42 mX5_init 0 := ⟨⟨"DataLayout", by decide +kernel⟩, jtb_at 62 (by decide +kernel) rfl, jtb_at 207 (by decide +kernel) rfl, (by decide +kernel), jtb_at 206 (by decide +kernel) rfl, rfl, rfl⟩
theorem cl_RX0_50 : jcs RX0 50 mX1_isNumeric 1 := ⟨⟨jtb_at 190 (by decide +kernel) rfl, jtb_at 60 (by decide +kernel) rfl, jtb_at 161 (by decide +kernel) rfl, (by decide +kernel)⟩, jtb_at 160 (by decide +kernel) rfl⟩
theorem cl_RX0_71 : jcv RX0 71 mX0_length 0 0 := ⟨⟨jtb_at 485 (by decide +kernel) rfl, jtb_at 61 (by decide +kernel) rfl, jtb_at 477 (by decide +kernel) rfl, (by decide +kernel)⟩, jtb_at 475 (by decide +kernel) rfl, jtb_at 476 (by decide +kernel) rfl, _, rfl, rfl⟩
theorem cl_RX1_9 : jcs RX1 9 mX1_isNumeric 1 := ⟨⟨jtb_at 159 (by decide +kernel) rfl, jtb_at 60 (by decide +kernel) rfl, jtb_at 161 (by decide +kernel) rfl, (by decide +kernel)⟩, jtb_at 160 (by decide +kernel) rfl⟩
theorem cl_RX2_33 : jcs RX2 33 mX2_writeBinary 4 := ⟨⟨jtb_at 571 (by decide +kernel) rfl, jtb_at 64 (by decide +kernel) rfl, jtb_at 573 (by decide +kernel) rfl, (by decide +kernel)⟩, jtb_at 572 (by decide +kernel) rfl⟩
theorem cl_RX2_39 : jcs RX2 39 mX2_writePacked 4 := ⟨⟨jtb_at 576 (by decide +kernel) rfl, jtb_at 64 (by decide +kernel) rfl, jtb_at 578 (by decide +kernel) rfl, (by decide +kernel)⟩, jtb_at 577 (by decide +kernel) rfl⟩
theorem cl_RX2_42 : jcs RX2 42 mX2_writeDigits 3 := ⟨⟨jtb_at 582 (by decide +kernel) rfl, jtb_at 64 (by decide +kernel) rfl, jtb_at 584 (by decide +kernel) rfl, (by decide +kernel)⟩, jtb_at 583 (by decide +kernel) rfl⟩
theorem cl_RX2_48 : jcv RX2 48 mX6_put 2 4 := ⟨⟨jtb_at 575 (by decide +kernel) rfl, jtb_at 58 (by decide +kernel) rfl, jtb_at 563 (by decide +kernel) rfl, (by decide +kernel)⟩, jtb_at 561 (by decide +kernel) rfl, jtb_at 562 (by decide +kernel) rfl, _, rfl, rfl⟩
theorem cl_RX2_54 : jcs RX2 54 mJ9_abs_067f4 1 := ⟨⟨jtb_at 579 (by decide +kernel) rfl, jtb_at 66 (by decide +kernel) rfl, jtb_at 581 (by decide +kernel) rfl, (by decide +kernel)⟩, jtb_at 580 (by decide +kernel) rfl⟩
theorem cl_RX2_60 : jcs RX2 60 mX2_signedDigit 1 := ⟨⟨jtb_at 585 (by decide +kernel) rfl, jtb_at 64 (by decide +kernel) rfl, jtb_at 587 (by decide +kernel) rfl, (by decide +kernel)⟩, jtb_at 586 (by decide +kernel) rfl⟩
theorem cl_RX2_67 : jcs RX2 67 mX2_signByte 1 := ⟨⟨jtb_at 588 (by decide +kernel) rfl, jtb_at 64 (by decide +kernel) rfl, jtb_at 590 (by decide +kernel) rfl, (by decide +kernel)⟩, jtb_at 589 (by decide +kernel) rfl⟩
theorem cl_RX2_70 : jcs RX2 70 mX2_readBinary 3 := ⟨⟨jtb_at 814 (by decide +kernel) rfl, jtb_at 64 (by decide +kernel) rfl, jtb_at 816 (by decide +kernel) rfl, (by decide +kernel)⟩, jtb_at 815 (by decide +kernel) rfl⟩
theorem cl_RX2_74 : jcs RX2 74 mX2_readPacked 3 := ⟨⟨jtb_at 819 (by decide +kernel) rfl, jtb_at 64 (by decide +kernel) rfl, jtb_at 821 (by decide +kernel) rfl, (by decide +kernel)⟩, jtb_at 820 (by decide +kernel) rfl⟩
theorem cl_RX2_78 : jcs RX2 78 mX2_readDigits 3 := ⟨⟨jtb_at 829 (by decide +kernel) rfl, jtb_at 64 (by decide +kernel) rfl, jtb_at 831 (by decide +kernel) rfl, (by decide +kernel)⟩, jtb_at 830 (by decide +kernel) rfl⟩
theorem cl_RX2_81 : jcv RX2 81 mX6_get 1 4 := ⟨⟨jtb_at 817 (by decide +kernel) rfl, jtb_at 58 (by decide +kernel) rfl, jtb_at 769 (by decide +kernel) rfl, (by decide +kernel)⟩, jtb_at 767 (by decide +kernel) rfl, jtb_at 768 (by decide +kernel) rfl, _, rfl, rfl⟩
theorem cl_RX2_87 : jcs RX2 87 mX2_halfByte 3 := ⟨⟨jtb_at 822 (by decide +kernel) rfl, jtb_at 64 (by decide +kernel) rfl, jtb_at 824 (by decide +kernel) rfl, (by decide +kernel)⟩, jtb_at 823 (by decide +kernel) rfl⟩
theorem cl_RX2_100 : jcs RX2 100 mX2_readsMinus 1 := ⟨⟨jtb_at 832 (by decide +kernel) rfl, jtb_at 64 (by decide +kernel) rfl, jtb_at 834 (by decide +kernel) rfl, (by decide +kernel)⟩, jtb_at 833 (by decide +kernel) rfl⟩
theorem cl_RX3_19 : jcv RX3 19 mX3_gatherUnits 0 1 := ⟨⟨jtb_at 455 (by decide +kernel) rfl, jtb_at 57 (by decide +kernel) rfl, jtb_at 458 (by decide +kernel) rfl, (by decide +kernel)⟩, jtb_at 457 (by decide +kernel) rfl, jtb_at 6 (by decide +kernel) rfl, _, rfl, rfl⟩
theorem cl_RX3_32 : jcv RX3 32 mX0_lies 0 0 := ⟨⟨jtb_at 462 (by decide +kernel) rfl, jtb_at 61 (by decide +kernel) rfl, jtb_at 465 (by decide +kernel) rfl, (by decide +kernel)⟩, jtb_at 463 (by decide +kernel) rfl, jtb_at 464 (by decide +kernel) rfl, _, rfl, rfl⟩
theorem cl_RX3_42 : jcv RX3 42 mX3_finishUpTo 2 1 := ⟨⟨jtb_at 466 (by decide +kernel) rfl, jtb_at 57 (by decide +kernel) rfl, jtb_at 469 (by decide +kernel) rfl, (by decide +kernel)⟩, jtb_at 468 (by decide +kernel) rfl, jtb_at 7 (by decide +kernel) rfl, _, rfl, rfl⟩
theorem cl_RX3_46 : jcv RX3 46 mX3_begin 1 1 := ⟨⟨jtb_at 489 (by decide +kernel) rfl, jtb_at 57 (by decide +kernel) rfl, jtb_at 492 (by decide +kernel) rfl, (by decide +kernel)⟩, jtb_at 491 (by decide +kernel) rfl, jtb_at 9 (by decide +kernel) rfl, _, rfl, rfl⟩
theorem cl_RX3_50 : jcv RX3 50 mX3_placeParts 0 1 := ⟨⟨jtb_at 508 (by decide +kernel) rfl, jtb_at 57 (by decide +kernel) rfl, jtb_at 511 (by decide +kernel) rfl, (by decide +kernel)⟩, jtb_at 510 (by decide +kernel) rfl, jtb_at 12 (by decide +kernel) rfl, _, rfl, rfl⟩
theorem cl_RX3_53 : jcv RX3 53 mX3_markMoving 0 1 := ⟨⟨jtb_at 512 (by decide +kernel) rfl, jtb_at 57 (by decide +kernel) rfl, jtb_at 515 (by decide +kernel) rfl, (by decide +kernel)⟩, jtb_at 514 (by decide +kernel) rfl, jtb_at 13 (by decide +kernel) rfl, _, rfl, rfl⟩
theorem cl_RX3_76 : jcs RX3 76 mJ9_max_7cf53 2 := ⟨⟨jtb_at 459 (by decide +kernel) rfl, jtb_at 66 (by decide +kernel) rfl, jtb_at 461 (by decide +kernel) rfl, (by decide +kernel)⟩, jtb_at 460 (by decide +kernel) rfl⟩
theorem cl_RX3_82 : jcv RX3 82 mX3_beginOfRecord 1 1 := ⟨⟨jtb_at 493 (by decide +kernel) rfl, jtb_at 57 (by decide +kernel) rfl, jtb_at 496 (by decide +kernel) rfl, (by decide +kernel)⟩, jtb_at 495 (by decide +kernel) rfl, jtb_at 10 (by decide +kernel) rfl, _, rfl, rfl⟩
theorem cl_RX3_86 : jcs RX3 86 mX3_beginBelow 2 := ⟨⟨jtb_at 501 (by decide +kernel) rfl, jtb_at 57 (by decide +kernel) rfl, jtb_at 503 (by decide +kernel) rfl, (by decide +kernel)⟩, jtb_at 502 (by decide +kernel) rfl⟩
theorem cl_RX3_93 : jcs RX3 93 mX3_roundUp 2 := ⟨⟨jtb_at 478 (by decide +kernel) rfl, jtb_at 57 (by decide +kernel) rfl, jtb_at 480 (by decide +kernel) rfl, (by decide +kernel)⟩, jtb_at 479 (by decide +kernel) rfl⟩
theorem cl_RX3_107 : jcv RX3 107 mX3_isLaterExternal 1 1 := ⟨⟨jtb_at 504 (by decide +kernel) rfl, jtb_at 57 (by decide +kernel) rfl, jtb_at 507 (by decide +kernel) rfl, (by decide +kernel)⟩, jtb_at 506 (by decide +kernel) rfl, jtb_at 11 (by decide +kernel) rfl, _, rfl, rfl⟩
theorem cl_RX3_117 : jcv RX3 117 mX8_firstOfName 1 6 := ⟨⟨jtb_at 497 (by decide +kernel) rfl, jtb_at 56 (by decide +kernel) rfl, jtb_at 500 (by decide +kernel) rfl, (by decide +kernel)⟩, jtb_at 498 (by decide +kernel) rfl, jtb_at 499 (by decide +kernel) rfl, _, rfl, rfl⟩
theorem cl_RX3_121 : jcv RX3 121 mX3_finish 1 1 := ⟨⟨jtb_at 470 (by decide +kernel) rfl, jtb_at 57 (by decide +kernel) rfl, jtb_at 473 (by decide +kernel) rfl, (by decide +kernel)⟩, jtb_at 472 (by decide +kernel) rfl, jtb_at 8 (by decide +kernel) rfl, _, rfl, rfl⟩
theorem cl_RX3_124 : jcv RX3 124 mX0_length 0 0 := ⟨⟨jtb_at 474 (by decide +kernel) rfl, jtb_at 61 (by decide +kernel) rfl, jtb_at 477 (by decide +kernel) rfl, (by decide +kernel)⟩, jtb_at 475 (by decide +kernel) rfl, jtb_at 476 (by decide +kernel) rfl, _, rfl, rfl⟩
theorem cl_RX3_133 : jcv RX3 133 mX0_extent 0 0 := ⟨⟨jtb_at 481 (by decide +kernel) rfl, jtb_at 61 (by decide +kernel) rfl, jtb_at 484 (by decide +kernel) rfl, (by decide +kernel)⟩, jtb_at 482 (by decide +kernel) rfl, jtb_at 483 (by decide +kernel) rfl, _, rfl, rfl⟩
theorem cl_RX3_136 : jcs RX3 136 mJ9_max_f86c9 2 := ⟨⟨jtb_at 486 (by decide +kernel) rfl, jtb_at 66 (by decide +kernel) rfl, jtb_at 488 (by decide +kernel) rfl, (by decide +kernel)⟩, jtb_at 487 (by decide +kernel) rfl⟩
theorem cl_RX3_148 : jcv RX3 148 mX3_isRight 1 1 := ⟨⟨jtb_at 520 (by decide +kernel) rfl, jtb_at 57 (by decide +kernel) rfl, jtb_at 523 (by decide +kernel) rfl, (by decide +kernel)⟩, jtb_at 522 (by decide +kernel) rfl, jtb_at 14 (by decide +kernel) rfl, _, rfl, rfl⟩
theorem cl_RX3_158 : jcv RX3 158 mX3_isRightPart 2 1 := ⟨⟨jtb_at 524 (by decide +kernel) rfl, jtb_at 57 (by decide +kernel) rfl, jtb_at 527 (by decide +kernel) rfl, (by decide +kernel)⟩, jtb_at 526 (by decide +kernel) rfl, jtb_at 15 (by decide +kernel) rfl, _, rfl, rfl⟩
theorem cl_RX3_168 : jcv RX3 168 mX3_isLastOfRecord 1 1 := ⟨⟨jtb_at 531 (by decide +kernel) rfl, jtb_at 57 (by decide +kernel) rfl, jtb_at 534 (by decide +kernel) rfl, (by decide +kernel)⟩, jtb_at 533 (by decide +kernel) rfl, jtb_at 16 (by decide +kernel) rfl, _, rfl, rfl⟩
theorem cl_RX3_171 : jcs RX3 171 mX3_fitsOver 2 := ⟨⟨jtb_at 535 (by decide +kernel) rfl, jtb_at 57 (by decide +kernel) rfl, jtb_at 537 (by decide +kernel) rfl, (by decide +kernel)⟩, jtb_at 536 (by decide +kernel) rfl⟩
theorem cl_RX3_174 : jcv RX3 174 mX3_fitsFirstOfName 1 1 := ⟨⟨jtb_at 538 (by decide +kernel) rfl, jtb_at 57 (by decide +kernel) rfl, jtb_at 541 (by decide +kernel) rfl, (by decide +kernel)⟩, jtb_at 540 (by decide +kernel) rfl, jtb_at 17 (by decide +kernel) rfl, _, rfl, rfl⟩
theorem cl_RX3_177 : jcv RX3 177 mX0_liesInRedefining 0 0 := ⟨⟨jtb_at 528 (by decide +kernel) rfl, jtb_at 61 (by decide +kernel) rfl, jtb_at 413 (by decide +kernel) rfl, (by decide +kernel)⟩, jtb_at 411 (by decide +kernel) rfl, jtb_at 412 (by decide +kernel) rfl, _, rfl, rfl⟩
theorem cl_RX3_183 : jcv RX3 183 mX0_isBelow 1 0 := ⟨⟨jtb_at 529 (by decide +kernel) rfl, jtb_at 61 (by decide +kernel) rfl, jtb_at 402 (by decide +kernel) rfl, (by decide +kernel)⟩, jtb_at 400 (by decide +kernel) rfl, jtb_at 401 (by decide +kernel) rfl, _, rfl, rfl⟩
theorem cl_RX3_186 : jcv RX3 186 mX0_tablesWithin 0 0 := ⟨⟨jtb_at 530 (by decide +kernel) rfl, jtb_at 61 (by decide +kernel) rfl, jtb_at 398 (by decide +kernel) rfl, (by decide +kernel)⟩, jtb_at 396 (by decide +kernel) rfl, jtb_at 397 (by decide +kernel) rfl, _, rfl, rfl⟩
theorem cl_RX6_19 : jcs RX6 19 mJ9_min_7cf53 2 := ⟨⟨jtb_at 547 (by decide +kernel) rfl, jtb_at 66 (by decide +kernel) rfl, jtb_at 549 (by decide +kernel) rfl, (by decide +kernel)⟩, jtb_at 548 (by decide +kernel) rfl⟩
theorem cl_RX6_25 : jcs RX6 25 mJ9_max_7cf53 2 := ⟨⟨jtb_at 550 (by decide +kernel) rfl, jtb_at 66 (by decide +kernel) rfl, jtb_at 461 (by decide +kernel) rfl, (by decide +kernel)⟩, jtb_at 460 (by decide +kernel) rfl⟩
theorem cl_RX6_28 : jcv RX6 28 mX6_has 1 4 := ⟨⟨jtb_at 564 (by decide +kernel) rfl, jtb_at 58 (by decide +kernel) rfl, jtb_at 567 (by decide +kernel) rfl, (by decide +kernel)⟩, jtb_at 565 (by decide +kernel) rfl, jtb_at 566 (by decide +kernel) rfl, _, rfl, rfl⟩
theorem cl_RX8_21 : jcv RX8 21 mX8_find 1 6 := ⟨⟨jtb_at 174 (by decide +kernel) rfl, jtb_at 56 (by decide +kernel) rfl, jtb_at 177 (by decide +kernel) rfl, (by decide +kernel)⟩, jtb_at 175 (by decide +kernel) rfl, jtb_at 176 (by decide +kernel) rfl, _, rfl, rfl⟩
theorem cl_RX8_25 : jcv RX8 25 mX8_around 1 6 := ⟨⟨jtb_at 166 (by decide +kernel) rfl, jtb_at 56 (by decide +kernel) rfl, jtb_at 169 (by decide +kernel) rfl, (by decide +kernel)⟩, jtb_at 168 (by decide +kernel) rfl, jtb_at 0 (by decide +kernel) rfl, _, rfl, rfl⟩
theorem cl_RX8_28 : jci RX8 28 mX0_init 5 := ⟨⟨jtb_at 196 (by decide +kernel) rfl, jtb_at 61 (by decide +kernel) rfl, jtb_at 198 (by decide +kernel) rfl, (by decide +kernel)⟩, jtb_at 197 (by decide +kernel) rfl, rfl, rfl⟩
theorem cl_RX8_38 : jcv RX8 38 mX0_isNumber 0 0 := ⟨⟨jtb_at 186 (by decide +kernel) rfl, jtb_at 61 (by decide +kernel) rfl, jtb_at 189 (by decide +kernel) rfl, (by decide +kernel)⟩, jtb_at 187 (by decide +kernel) rfl, jtb_at 188 (by decide +kernel) rfl, _, rfl, rfl⟩
theorem cl_RX8_45 : jcv RX8 45 mX8_latestTopRecord 0 6 := ⟨⟨jtb_at 170 (by decide +kernel) rfl, jtb_at 56 (by decide +kernel) rfl, jtb_at 173 (by decide +kernel) rfl, (by decide +kernel)⟩, jtb_at 172 (by decide +kernel) rfl, jtb_at 1 (by decide +kernel) rfl, _, rfl, rfl⟩
theorem cl_RX8_49 : jcv RX8 49 mX8_latestNotNaming 0 6 := ⟨⟨jtb_at 178 (by decide +kernel) rfl, jtb_at 56 (by decide +kernel) rfl, jtb_at 181 (by decide +kernel) rfl, (by decide +kernel)⟩, jtb_at 180 (by decide +kernel) rfl, jtb_at 2 (by decide +kernel) rfl, _, rfl, rfl⟩
theorem cl_RX8_52 : jcv RX8 52 mX8_latestOfLesserLevel 1 6 := ⟨⟨jtb_at 182 (by decide +kernel) rfl, jtb_at 56 (by decide +kernel) rfl, jtb_at 185 (by decide +kernel) rfl, (by decide +kernel)⟩, jtb_at 184 (by decide +kernel) rfl, jtb_at 3 (by decide +kernel) rfl, _, rfl, rfl⟩
theorem cl_RX8_58 : jcv RX8 58 mX0_isInner 0 0 := ⟨⟨jtb_at 391 (by decide +kernel) rfl, jtb_at 61 (by decide +kernel) rfl, jtb_at 394 (by decide +kernel) rfl, (by decide +kernel)⟩, jtb_at 392 (by decide +kernel) rfl, jtb_at 393 (by decide +kernel) rfl, _, rfl, rfl⟩
theorem cl_RX8_69 : jcv RX8 69 mX0_tablesWithin 0 0 := ⟨⟨jtb_at 395 (by decide +kernel) rfl, jtb_at 61 (by decide +kernel) rfl, jtb_at 398 (by decide +kernel) rfl, (by decide +kernel)⟩, jtb_at 396 (by decide +kernel) rfl, jtb_at 397 (by decide +kernel) rfl, _, rfl, rfl⟩
theorem cl_RX8_76 : jcv RX8 76 mX0_isBelow 1 0 := ⟨⟨jtb_at 399 (by decide +kernel) rfl, jtb_at 61 (by decide +kernel) rfl, jtb_at 402 (by decide +kernel) rfl, (by decide +kernel)⟩, jtb_at 400 (by decide +kernel) rfl, jtb_at 401 (by decide +kernel) rfl, _, rfl, rfl⟩
theorem cl_RX8_94 : jcv RX8 94 mX8_allBetweenRedefine 2 6 := ⟨⟨jtb_at 631 (by decide +kernel) rfl, jtb_at 56 (by decide +kernel) rfl, jtb_at 634 (by decide +kernel) rfl, (by decide +kernel)⟩, jtb_at 633 (by decide +kernel) rfl, jtb_at 22 (by decide +kernel) rfl, _, rfl, rfl⟩
theorem cl_RX8_98 : jcv RX8 98 mX8_hasValues 1 6 := ⟨⟨jtb_at 635 (by decide +kernel) rfl, jtb_at 56 (by decide +kernel) rfl, jtb_at 638 (by decide +kernel) rfl, (by decide +kernel)⟩, jtb_at 637 (by decide +kernel) rfl, jtb_at 23 (by decide +kernel) rfl, _, rfl, rfl⟩
theorem cl_RX9_9 : jcn RX9 9 mX8_init 0 := ⟨⟨"DataLayout", by decide +kernel⟩, jtb_at 56 (by decide +kernel) rfl, jtb_at 86 (by decide +kernel) rfl, (by decide +kernel), jtb_at 85 (by decide +kernel) rfl, rfl, rfl⟩
theorem cl_RX9_18 : jci RX9 18 mX3_init 1 := ⟨⟨jtb_at 103 (by decide +kernel) rfl, jtb_at 57 (by decide +kernel) rfl, jtb_at 105 (by decide +kernel) rfl, (by decide +kernel)⟩, jtb_at 104 (by decide +kernel) rfl, rfl, rfl⟩
theorem cl_RX9_27 : jcn RX9 27 mX6_init 0 := ⟨⟨"DataLayout", by decide +kernel⟩, jtb_at 58 (by decide +kernel) rfl, jtb_at 119 (by decide +kernel) rfl, (by decide +kernel), jtb_at 118 (by decide +kernel) rfl, rfl, rfl⟩
theorem cl_RX9_43 : jcs RX9 43 mX1_isLevel 1 := ⟨⟨jtb_at 153 (by decide +kernel) rfl, jtb_at 60 (by decide +kernel) rfl, jtb_at 155 (by decide +kernel) rfl, (by decide +kernel)⟩, jtb_at 154 (by decide +kernel) rfl⟩
theorem cl_RX9_49 : jcs RX9 49 mX1_isUsage 3 := ⟨⟨jtb_at 156 (by decide +kernel) rfl, jtb_at 60 (by decide +kernel) rfl, jtb_at 158 (by decide +kernel) rfl, (by decide +kernel)⟩, jtb_at 157 (by decide +kernel) rfl⟩
theorem cl_RX9_53 : jcv RX9 53 mX8_hasPlaceFor 1 6 := ⟨⟨jtb_at 162 (by decide +kernel) rfl, jtb_at 56 (by decide +kernel) rfl, jtb_at 165 (by decide +kernel) rfl, (by decide +kernel)⟩, jtb_at 163 (by decide +kernel) rfl, jtb_at 164 (by decide +kernel) rfl, _, rfl, rfl⟩
theorem cl_RX9_59 : jcv RX9 59 mX8_add 3 6 := ⟨⟨jtb_at 191 (by decide +kernel) rfl, jtb_at 56 (by decide +kernel) rfl, jtb_at 194 (by decide +kernel) rfl, (by decide +kernel)⟩, jtb_at 192 (by decide +kernel) rfl, jtb_at 193 (by decide +kernel) rfl, _, rfl, rfl⟩
theorem cl_RX9_63 : jcv RX9 63 mX8_find 1 6 := ⟨⟨jtb_at 342 (by decide +kernel) rfl, jtb_at 56 (by decide +kernel) rfl, jtb_at 177 (by decide +kernel) rfl, (by decide +kernel)⟩, jtb_at 175 (by decide +kernel) rfl, jtb_at 176 (by decide +kernel) rfl, _, rfl, rfl⟩
theorem cl_RX9_67 : jcs RX9 67 mX1_isClause 3 := ⟨⟨jtb_at 343 (by decide +kernel) rfl, jtb_at 60 (by decide +kernel) rfl, jtb_at 345 (by decide +kernel) rfl, (by decide +kernel)⟩, jtb_at 344 (by decide +kernel) rfl⟩
theorem cl_RX9_70 : jcv RX9 70 mX9_tellClause 4 7 := ⟨⟨jtb_at 346 (by decide +kernel) rfl, jtb_at 55 (by decide +kernel) rfl, jtb_at 349 (by decide +kernel) rfl, (by decide +kernel)⟩, jtb_at 348 (by decide +kernel) rfl, jtb_at 4 (by decide +kernel) rfl, _, rfl, rfl⟩
theorem cl_RX9_74 : jcv RX9 74 mX3_layAll 0 1 := ⟨⟨jtb_at 451 (by decide +kernel) rfl, jtb_at 57 (by decide +kernel) rfl, jtb_at 454 (by decide +kernel) rfl, (by decide +kernel)⟩, jtb_at 452 (by decide +kernel) rfl, jtb_at 453 (by decide +kernel) rfl, _, rfl, rfl⟩
theorem cl_RX9_77 : jcv RX9 77 mX3_firstWrong 0 1 := ⟨⟨jtb_at 516 (by decide +kernel) rfl, jtb_at 57 (by decide +kernel) rfl, jtb_at 519 (by decide +kernel) rfl, (by decide +kernel)⟩, jtb_at 517 (by decide +kernel) rfl, jtb_at 518 (by decide +kernel) rfl, _, rfl, rfl⟩
theorem cl_RX9_87 : jcv RX9 87 mX6_clear 1 4 := ⟨⟨jtb_at 543 (by decide +kernel) rfl, jtb_at 58 (by decide +kernel) rfl, jtb_at 546 (by decide +kernel) rfl, (by decide +kernel)⟩, jtb_at 544 (by decide +kernel) rfl, jtb_at 545 (by decide +kernel) rfl, _, rfl, rfl⟩
theorem cl_RX9_91 : jcv RX9 91 mX9_fillFirstEntries 0 7 := ⟨⟨jtb_at 551 (by decide +kernel) rfl, jtb_at 55 (by decide +kernel) rfl, jtb_at 554 (by decide +kernel) rfl, (by decide +kernel)⟩, jtb_at 553 (by decide +kernel) rfl, jtb_at 18 (by decide +kernel) rfl, _, rfl, rfl⟩
theorem cl_RX9_94 : jcv RX9 94 mX9_fillOtherEntries 0 7 := ⟨⟨jtb_at 591 (by decide +kernel) rfl, jtb_at 55 (by decide +kernel) rfl, jtb_at 594 (by decide +kernel) rfl, (by decide +kernel)⟩, jtb_at 593 (by decide +kernel) rfl, jtb_at 20 (by decide +kernel) rfl, _, rfl, rfl⟩
theorem cl_RX9_100 : jcv RX9 100 mX9_refusalFor 2 7 := ⟨⟨jtb_at 603 (by decide +kernel) rfl, jtb_at 55 (by decide +kernel) rfl, jtb_at 606 (by decide +kernel) rfl, (by decide +kernel)⟩, jtb_at 605 (by decide +kernel) rfl, jtb_at 21 (by decide +kernel) rfl, _, rfl, rfl⟩
theorem cl_RX9_115 : jcv RX9 115 mX0_lengthNow 0 0 := ⟨⟨jtb_at 611 (by decide +kernel) rfl, jtb_at 61 (by decide +kernel) rfl, jtb_at 614 (by decide +kernel) rfl, (by decide +kernel)⟩, jtb_at 612 (by decide +kernel) rfl, jtb_at 613 (by decide +kernel) rfl, _, rfl, rfl⟩
theorem cl_RX9_119 : jcv RX9 119 mX0_tablesWithin 0 0 := ⟨⟨jtb_at 680 (by decide +kernel) rfl, jtb_at 61 (by decide +kernel) rfl, jtb_at 398 (by decide +kernel) rfl, (by decide +kernel)⟩, jtb_at 396 (by decide +kernel) rfl, jtb_at 397 (by decide +kernel) rfl, _, rfl, rfl⟩
theorem cl_RX9_122 : jcv RX9 122 mX0_tableOutwards 1 0 := ⟨⟨jtb_at 681 (by decide +kernel) rfl, jtb_at 61 (by decide +kernel) rfl, jtb_at 684 (by decide +kernel) rfl, (by decide +kernel)⟩, jtb_at 682 (by decide +kernel) rfl, jtb_at 683 (by decide +kernel) rfl, _, rfl, rfl⟩
theorem cl_RX9_134 : jcv RX9 134 mX0_length 0 0 := ⟨⟨jtb_at 685 (by decide +kernel) rfl, jtb_at 61 (by decide +kernel) rfl, jtb_at 477 (by decide +kernel) rfl, (by decide +kernel)⟩, jtb_at 475 (by decide +kernel) rfl, jtb_at 476 (by decide +kernel) rfl, _, rfl, rfl⟩
theorem cl_RX9_157 : jcv RX9 157 mX8_mayRedefine 2 6 := ⟨⟨jtb_at 627 (by decide +kernel) rfl, jtb_at 56 (by decide +kernel) rfl, jtb_at 630 (by decide +kernel) rfl, (by decide +kernel)⟩, jtb_at 628 (by decide +kernel) rfl, jtb_at 629 (by decide +kernel) rfl, _, rfl, rfl⟩
theorem cl_RX9_177 : jcv RX9 177 mX6_has 1 4 := ⟨⟨jtb_at 655 (by decide +kernel) rfl, jtb_at 58 (by decide +kernel) rfl, jtb_at 567 (by decide +kernel) rfl, (by decide +kernel)⟩, jtb_at 565 (by decide +kernel) rfl, jtb_at 566 (by decide +kernel) rfl, _, rfl, rfl⟩
theorem cl_RX9_182 : jcv RX9 182 mX6_get 1 4 := ⟨⟨jtb_at 766 (by decide +kernel) rfl, jtb_at 58 (by decide +kernel) rfl, jtb_at 769 (by decide +kernel) rfl, (by decide +kernel)⟩, jtb_at 767 (by decide +kernel) rfl, jtb_at 768 (by decide +kernel) rfl, _, rfl, rfl⟩
theorem cl_RX9_186 : jcv RX9 186 mX6_put 2 4 := ⟨⟨jtb_at 560 (by decide +kernel) rfl, jtb_at 58 (by decide +kernel) rfl, jtb_at 563 (by decide +kernel) rfl, (by decide +kernel)⟩, jtb_at 561 (by decide +kernel) rfl, jtb_at 562 (by decide +kernel) rfl, _, rfl, rfl⟩
theorem cl_RX9_203 : jcs RX9 203 mX2_read 2 := ⟨⟨jtb_at 811 (by decide +kernel) rfl, jtb_at 64 (by decide +kernel) rfl, jtb_at 813 (by decide +kernel) rfl, (by decide +kernel)⟩, jtb_at 812 (by decide +kernel) rfl⟩
theorem cl_RX9_213 : jcv RX9 213 mX4_contain 1 2 := ⟨⟨jtb_at 838 (by decide +kernel) rfl, jtb_at 65 (by decide +kernel) rfl, jtb_at 841 (by decide +kernel) rfl, (by decide +kernel)⟩, jtb_at 839 (by decide +kernel) rfl, jtb_at 840 (by decide +kernel) rfl, _, rfl, rfl⟩
theorem cl_RX9_219 : jcv RX9 219 mX8_records 0 6 := ⟨⟨jtb_at 660 (by decide +kernel) rfl, jtb_at 56 (by decide +kernel) rfl, jtb_at 663 (by decide +kernel) rfl, (by decide +kernel)⟩, jtb_at 661 (by decide +kernel) rfl, jtb_at 662 (by decide +kernel) rfl, _, rfl, rfl⟩
theorem cl_RX9_222 : jcv RX9 222 mX8_tables 0 6 := ⟨⟨jtb_at 664 (by decide +kernel) rfl, jtb_at 56 (by decide +kernel) rfl, jtb_at 667 (by decide +kernel) rfl, (by decide +kernel)⟩, jtb_at 665 (by decide +kernel) rfl, jtb_at 666 (by decide +kernel) rfl, _, rfl, rfl⟩
theorem cl_RX9_225 : jcv RX9 225 mX8_slackBytes 0 6 := ⟨⟨jtb_at 668 (by decide +kernel) rfl, jtb_at 56 (by decide +kernel) rfl, jtb_at 671 (by decide +kernel) rfl, (by decide +kernel)⟩, jtb_at 669 (by decide +kernel) rfl, jtb_at 670 (by decide +kernel) rfl, _, rfl, rfl⟩
theorem cl_RX9_228 : jci RX9 228 mX7_init 3 := ⟨⟨jtb_at 352 (by decide +kernel) rfl, jtb_at 63 (by decide +kernel) rfl, jtb_at 354 (by decide +kernel) rfl, (by decide +kernel)⟩, jtb_at 353 (by decide +kernel) rfl, rfl, rfl⟩
theorem cl_RX9_231 : jcv RX9 231 mX9_tellTable 2 7 := ⟨⟨jtb_at 383 (by decide +kernel) rfl, jtb_at 55 (by decide +kernel) rfl, jtb_at 386 (by decide +kernel) rfl, (by decide +kernel)⟩, jtb_at 385 (by decide +kernel) rfl, jtb_at 5 (by decide +kernel) rfl, _, rfl, rfl⟩
theorem cl_RX9_235 : jcs RX9 235 mX9_tellSynchronised 1 := ⟨⟨jtb_at 403 (by decide +kernel) rfl, jtb_at 55 (by decide +kernel) rfl, jtb_at 405 (by decide +kernel) rfl, (by decide +kernel)⟩, jtb_at 404 (by decide +kernel) rfl⟩
theorem cl_RX9_239 : jcs RX9 239 mX9_tellValue 2 := ⟨⟨jtb_at 406 (by decide +kernel) rfl, jtb_at 55 (by decide +kernel) rfl, jtb_at 408 (by decide +kernel) rfl, (by decide +kernel)⟩, jtb_at 407 (by decide +kernel) rfl⟩
theorem cl_RX9_243 : jcs RX9 243 mX9_tellRange 3 := ⟨⟨jtb_at 418 (by decide +kernel) rfl, jtb_at 55 (by decide +kernel) rfl, jtb_at 420 (by decide +kernel) rfl, (by decide +kernel)⟩, jtb_at 419 (by decide +kernel) rfl⟩
theorem cl_RX9_247 : jcs RX9 247 mX9_tellPart 3 := ⟨⟨jtb_at 442 (by decide +kernel) rfl, jtb_at 55 (by decide +kernel) rfl, jtb_at 444 (by decide +kernel) rfl, (by decide +kernel)⟩, jtb_at 443 (by decide +kernel) rfl⟩
theorem cl_RX9_251 : jcv RX9 251 mX8_mayBeTable 2 6 := ⟨⟨jtb_at 387 (by decide +kernel) rfl, jtb_at 56 (by decide +kernel) rfl, jtb_at 390 (by decide +kernel) rfl, (by decide +kernel)⟩, jtb_at 388 (by decide +kernel) rfl, jtb_at 389 (by decide +kernel) rfl, _, rfl, rfl⟩
theorem cl_RX9_261 : jcv RX9 261 mX0_isNumber 0 0 := ⟨⟨jtb_at 409 (by decide +kernel) rfl, jtb_at 61 (by decide +kernel) rfl, jtb_at 189 (by decide +kernel) rfl, (by decide +kernel)⟩, jtb_at 187 (by decide +kernel) rfl, jtb_at 188 (by decide +kernel) rfl, _, rfl, rfl⟩
theorem cl_RX9_268 : jcv RX9 268 mX0_liesInRedefining 0 0 := ⟨⟨jtb_at 410 (by decide +kernel) rfl, jtb_at 61 (by decide +kernel) rfl, jtb_at 413 (by decide +kernel) rfl, (by decide +kernel)⟩, jtb_at 411 (by decide +kernel) rfl, jtb_at 412 (by decide +kernel) rfl, _, rfl, rfl⟩
theorem cl_RX9_274 : jcs RX9 274 mX2_hasRoomFor 2 := ⟨⟨jtb_at 414 (by decide +kernel) rfl, jtb_at 64 (by decide +kernel) rfl, jtb_at 416 (by decide +kernel) rfl, (by decide +kernel)⟩, jtb_at 415 (by decide +kernel) rfl⟩
theorem cl_RX9_281 : jcn RX9 281 mX4_init 0 := ⟨⟨"DataLayout", by decide +kernel⟩, jtb_at 65 (by decide +kernel) rfl, jtb_at 425 (by decide +kernel) rfl, (by decide +kernel), jtb_at 424 (by decide +kernel) rfl, rfl, rfl⟩
theorem cl_RX9_282 : jcv RX9 282 mX4_add 2 2 := ⟨⟨jtb_at 438 (by decide +kernel) rfl, jtb_at 65 (by decide +kernel) rfl, jtb_at 441 (by decide +kernel) rfl, (by decide +kernel)⟩, jtb_at 439 (by decide +kernel) rfl, jtb_at 440 (by decide +kernel) rfl, _, rfl, rfl⟩
theorem cl_RX9_287 : jcv RX9 287 mX0_isInner 0 0 := ⟨⟨jtb_at 445 (by decide +kernel) rfl, jtb_at 61 (by decide +kernel) rfl, jtb_at 394 (by decide +kernel) rfl, (by decide +kernel)⟩, jtb_at 392 (by decide +kernel) rfl, jtb_at 393 (by decide +kernel) rfl, _, rfl, rfl⟩
theorem cl_RX9_296 : jcv RX9 296 mX0_isBelow 1 0 := ⟨⟨jtb_at 446 (by decide +kernel) rfl, jtb_at 61 (by decide +kernel) rfl, jtb_at 402 (by decide +kernel) rfl, (by decide +kernel)⟩, jtb_at 400 (by decide +kernel) rfl, jtb_at 401 (by decide +kernel) rfl, _, rfl, rfl⟩
theorem cl_RX9_306 : jcv RX9 306 mX0_lies 0 0 := ⟨⟨jtb_at 555 (by decide +kernel) rfl, jtb_at 61 (by decide +kernel) rfl, jtb_at 465 (by decide +kernel) rfl, (by decide +kernel)⟩, jtb_at 463 (by decide +kernel) rfl, jtb_at 464 (by decide +kernel) rfl, _, rfl, rfl⟩
theorem cl_RX9_315 : jcv RX9 315 mX9_fillText 3 7 := ⟨⟨jtb_at 556 (by decide +kernel) rfl, jtb_at 55 (by decide +kernel) rfl, jtb_at 559 (by decide +kernel) rfl, (by decide +kernel)⟩, jtb_at 558 (by decide +kernel) rfl, jtb_at 19 (by decide +kernel) rfl, _, rfl, rfl⟩
theorem cl_RX9_318 : jcs RX9 318 mX2_write 2 := ⟨⟨jtb_at 568 (by decide +kernel) rfl, jtb_at 64 (by decide +kernel) rfl, jtb_at 570 (by decide +kernel) rfl, (by decide +kernel)⟩, jtb_at 569 (by decide +kernel) rfl⟩
theorem cl_RX9_322 : jcv RX9 322 mX6_repeat 3 4 := ⟨⟨jtb_at 595 (by decide +kernel) rfl, jtb_at 58 (by decide +kernel) rfl, jtb_at 598 (by decide +kernel) rfl, (by decide +kernel)⟩, jtb_at 596 (by decide +kernel) rfl, jtb_at 597 (by decide +kernel) rfl, _, rfl, rfl⟩
theorem cl_RX10_105 : jcv RX10 105 mX10_lies 1 8 := ⟨⟨jtb_at 974 (by decide +kernel) rfl, jtb_at 59 (by decide +kernel) rfl, jtb_at 977 (by decide +kernel) rfl, (by decide +kernel)⟩, jtb_at 976 (by decide +kernel) rfl, jtb_at 26 (by decide +kernel) rfl, _, rfl, rfl⟩
theorem cl_RX10_109 : jcs RX10 109 mX10_isSize 2 := ⟨⟨jtb_at 967 (by decide +kernel) rfl, jtb_at 59 (by decide +kernel) rfl, jtb_at 969 (by decide +kernel) rfl, (by decide +kernel)⟩, jtb_at 968 (by decide +kernel) rfl⟩
theorem cl_RX10_113 : jcv RX10 113 mX10_above 1 8 := ⟨⟨jtb_at 970 (by decide +kernel) rfl, jtb_at 59 (by decide +kernel) rfl, jtb_at 973 (by decide +kernel) rfl, (by decide +kernel)⟩, jtb_at 972 (by decide +kernel) rfl, jtb_at 25 (by decide +kernel) rfl, _, rfl, rfl⟩
theorem cl_RX10_117 : jcv RX10 117 mX10_named 0 8 := ⟨⟨jtb_at 978 (by decide +kernel) rfl, jtb_at 59 (by decide +kernel) rfl, jtb_at 981 (by decide +kernel) rfl, (by decide +kernel)⟩, jtb_at 980 (by decide +kernel) rfl, jtb_at 27 (by decide +kernel) rfl, _, rfl, rfl⟩
theorem cl_RX10_124 : jcv RX10 124 mX10_isRedefined 1 8 := ⟨⟨jtb_at 997 (by decide +kernel) rfl, jtb_at 59 (by decide +kernel) rfl, jtb_at 1000 (by decide +kernel) rfl, (by decide +kernel)⟩, jtb_at 999 (by decide +kernel) rfl, jtb_at 30 (by decide +kernel) rfl, _, rfl, rfl⟩
theorem cl_RX10_127 : jcv RX10 127 mX10_tablesUp 2 8 := ⟨⟨jtb_at 1001 (by decide +kernel) rfl, jtb_at 59 (by decide +kernel) rfl, jtb_at 1004 (by decide +kernel) rfl, (by decide +kernel)⟩, jtb_at 1003 (by decide +kernel) rfl, jtb_at 31 (by decide +kernel) rfl, _, rfl, rfl⟩
theorem cl_RX10_131 : jcv RX10 131 mX10_isBelow 2 8 := ⟨⟨jtb_at 1005 (by decide +kernel) rfl, jtb_at 59 (by decide +kernel) rfl, jtb_at 1008 (by decide +kernel) rfl, (by decide +kernel)⟩, jtb_at 1007 (by decide +kernel) rfl, jtb_at 32 (by decide +kernel) rfl, _, rfl, rfl⟩
theorem cl_RX10_136 : jcv RX10 136 mX10_is 1 8 := ⟨⟨jtb_at 986 (by decide +kernel) rfl, jtb_at 59 (by decide +kernel) rfl, jtb_at 989 (by decide +kernel) rfl, (by decide +kernel)⟩, jtb_at 988 (by decide +kernel) rfl, jtb_at 28 (by decide +kernel) rfl, _, rfl, rfl⟩
theorem cl_RX10_139 : jcs RX10 139 mX10_isClause 3 := ⟨⟨jtb_at 990 (by decide +kernel) rfl, jtb_at 59 (by decide +kernel) rfl, jtb_at 992 (by decide +kernel) rfl, (by decide +kernel)⟩, jtb_at 991 (by decide +kernel) rfl⟩
theorem cl_RX10_143 : jcv RX10 143 mX10_mayBeTable 2 8 := ⟨⟨jtb_at 993 (by decide +kernel) rfl, jtb_at 59 (by decide +kernel) rfl, jtb_at 996 (by decide +kernel) rfl, (by decide +kernel)⟩, jtb_at 995 (by decide +kernel) rfl, jtb_at 29 (by decide +kernel) rfl, _, rfl, rfl⟩
theorem cl_RX10_147 : jcs RX10 147 mX10_digitsOf 1 := ⟨⟨jtb_at 1009 (by decide +kernel) rfl, jtb_at 59 (by decide +kernel) rfl, jtb_at 1011 (by decide +kernel) rfl, (by decide +kernel)⟩, jtb_at 1010 (by decide +kernel) rfl⟩
theorem cl_RX10_150 : jcv RX10 150 mX10_isAside 1 8 := ⟨⟨jtb_at 1013 (by decide +kernel) rfl, jtb_at 59 (by decide +kernel) rfl, jtb_at 1016 (by decide +kernel) rfl, (by decide +kernel)⟩, jtb_at 1015 (by decide +kernel) rfl, jtb_at 33 (by decide +kernel) rfl, _, rfl, rfl⟩
theorem cl_RX10_153 : jcv RX10 153 mX10_isPart 2 8 := ⟨⟨jtb_at 1017 (by decide +kernel) rfl, jtb_at 59 (by decide +kernel) rfl, jtb_at 1020 (by decide +kernel) rfl, (by decide +kernel)⟩, jtb_at 1019 (by decide +kernel) rfl, jtb_at 34 (by decide +kernel) rfl, _, rfl, rfl⟩
theorem cl_RX10_156 : jcs RX10 156 mX10_up 2 := ⟨⟨jtb_at 1049 (by decide +kernel) rfl, jtb_at 59 (by decide +kernel) rfl, jtb_at 1051 (by decide +kernel) rfl, (by decide +kernel)⟩, jtb_at 1050 (by decide +kernel) rfl⟩
theorem cl_RX10_160 : jcv RX10 160 mX10_bytesOf 1 8 := ⟨⟨jtb_at 1041 (by decide +kernel) rfl, jtb_at 59 (by decide +kernel) rfl, jtb_at 1044 (by decide +kernel) rfl, (by decide +kernel)⟩, jtb_at 1043 (by decide +kernel) rfl, jtb_at 36 (by decide +kernel) rfl, _, rfl, rfl⟩
theorem cl_RX10_163 : jcv RX10 163 mX10_close 1 8 := ⟨⟨jtb_at 1045 (by decide +kernel) rfl, jtb_at 59 (by decide +kernel) rfl, jtb_at 1048 (by decide +kernel) rfl, (by decide +kernel)⟩, jtb_at 1047 (by decide +kernel) rfl, jtb_at 37 (by decide +kernel) rfl, _, rfl, rfl⟩
theorem cl_RX10_167 : jcv RX10 167 mX10_begin 2 8 := ⟨⟨jtb_at 1052 (by decide +kernel) rfl, jtb_at 59 (by decide +kernel) rfl, jtb_at 1055 (by decide +kernel) rfl, (by decide +kernel)⟩, jtb_at 1054 (by decide +kernel) rfl, jtb_at 38 (by decide +kernel) rfl, _, rfl, rfl⟩
theorem cl_RX10_171 : jcv RX10 171 mX10_firstOf 1 8 := ⟨⟨jtb_at 1056 (by decide +kernel) rfl, jtb_at 59 (by decide +kernel) rfl, jtb_at 1059 (by decide +kernel) rfl, (by decide +kernel)⟩, jtb_at 1058 (by decide +kernel) rfl, jtb_at 39 (by decide +kernel) rfl, _, rfl, rfl⟩
theorem cl_RX10_174 : jcv RX10 174 mX10_alignment 1 8 := ⟨⟨jtb_at 1060 (by decide +kernel) rfl, jtb_at 59 (by decide +kernel) rfl, jtb_at 1063 (by decide +kernel) rfl, (by decide +kernel)⟩, jtb_at 1062 (by decide +kernel) rfl, jtb_at 40 (by decide +kernel) rfl, _, rfl, rfl⟩
theorem cl_RX10_177 : jcv RX10 177 mX10_isBadPart 1 8 := ⟨⟨jtb_at 1068 (by decide +kernel) rfl, jtb_at 59 (by decide +kernel) rfl, jtb_at 1071 (by decide +kernel) rfl, (by decide +kernel)⟩, jtb_at 1070 (by decide +kernel) rfl, jtb_at 42 (by decide +kernel) rfl, _, rfl, rfl⟩
theorem cl_RX10_180 : jcv RX10 180 mX10_hasBelow 1 8 := ⟨⟨jtb_at 1072 (by decide +kernel) rfl, jtb_at 59 (by decide +kernel) rfl, jtb_at 1075 (by decide +kernel) rfl, (by decide +kernel)⟩, jtb_at 1074 (by decide +kernel) rfl, jtb_at 43 (by decide +kernel) rfl, _, rfl, rfl⟩
theorem cl_RX10_183 : jcv RX10 183 mX10_isLast 1 8 := ⟨⟨jtb_at 1076 (by decide +kernel) rfl, jtb_at 59 (by decide +kernel) rfl, jtb_at 1079 (by decide +kernel) rfl, (by decide +kernel)⟩, jtb_at 1078 (by decide +kernel) rfl, jtb_at 44 (by decide +kernel) rfl, _, rfl, rfl⟩
theorem cl_RX10_186 : jcv RX10 186 mX10_layAll 0 8 := ⟨⟨jtb_at 1037 (by decide +kernel) rfl, jtb_at 59 (by decide +kernel) rfl, jtb_at 1040 (by decide +kernel) rfl, (by decide +kernel)⟩, jtb_at 1039 (by decide +kernel) rfl, jtb_at 35 (by decide +kernel) rfl, _, rfl, rfl⟩
theorem cl_RX10_189 : jcv RX10 189 mX10_isWrong 1 8 := ⟨⟨jtb_at 1064 (by decide +kernel) rfl, jtb_at 59 (by decide +kernel) rfl, jtb_at 1067 (by decide +kernel) rfl, (by decide +kernel)⟩, jtb_at 1066 (by decide +kernel) rfl, jtb_at 41 (by decide +kernel) rfl, _, rfl, rfl⟩
theorem cl_RX10_200 : jcv RX10 200 mX10_fillAll 1 8 := ⟨⟨jtb_at 1081 (by decide +kernel) rfl, jtb_at 59 (by decide +kernel) rfl, jtb_at 1084 (by decide +kernel) rfl, (by decide +kernel)⟩, jtb_at 1083 (by decide +kernel) rfl, jtb_at 45 (by decide +kernel) rfl, _, rfl, rfl⟩
theorem cl_RX10_206 : jcv RX10 206 mX10_findAround 1 8 := ⟨⟨jtb_at 1085 (by decide +kernel) rfl, jtb_at 59 (by decide +kernel) rfl, jtb_at 1088 (by decide +kernel) rfl, (by decide +kernel)⟩, jtb_at 1087 (by decide +kernel) rfl, jtb_at 46 (by decide +kernel) rfl, _, rfl, rfl⟩
theorem cl_RX10_209 : jcv RX10 209 mX10_fill 2 8 := ⟨⟨jtb_at 1089 (by decide +kernel) rfl, jtb_at 59 (by decide +kernel) rfl, jtb_at 1092 (by decide +kernel) rfl, (by decide +kernel)⟩, jtb_at 1091 (by decide +kernel) rfl, jtb_at 47 (by decide +kernel) rfl, _, rfl, rfl⟩
theorem cl_RX10_215 : jcv RX10 215 mX10_refused 2 8 := ⟨⟨jtb_at 1098 (by decide +kernel) rfl, jtb_at 59 (by decide +kernel) rfl, jtb_at 1101 (by decide +kernel) rfl, (by decide +kernel)⟩, jtb_at 1100 (by decide +kernel) rfl, jtb_at 48 (by decide +kernel) rfl, _, rfl, rfl⟩
theorem cl_RX10_219 : jcv RX10 219 mX10_placeOf 1 8 := ⟨⟨jtb_at 1102 (by decide +kernel) rfl, jtb_at 59 (by decide +kernel) rfl, jtb_at 1105 (by decide +kernel) rfl, (by decide +kernel)⟩, jtb_at 1104 (by decide +kernel) rfl, jtb_at 49 (by decide +kernel) rfl, _, rfl, rfl⟩
theorem cl_RX10_223 : jcv RX10 223 mX10_sizeOf 1 8 := ⟨⟨jtb_at 1110 (by decide +kernel) rfl, jtb_at 59 (by decide +kernel) rfl, jtb_at 1113 (by decide +kernel) rfl, (by decide +kernel)⟩, jtb_at 1112 (by decide +kernel) rfl, jtb_at 50 (by decide +kernel) rfl, _, rfl, rfl⟩
theorem cl_RX10_233 : jcv RX10 233 mX10_saysPacked 3 8 := ⟨⟨jtb_at 1146 (by decide +kernel) rfl, jtb_at 59 (by decide +kernel) rfl, jtb_at 1149 (by decide +kernel) rfl, (by decide +kernel)⟩, jtb_at 1148 (by decide +kernel) rfl, jtb_at 52 (by decide +kernel) rfl, _, rfl, rfl⟩
theorem cl_RX10_236 : jcv RX10 236 mX10_isDigit 1 8 := ⟨⟨jtb_at 1150 (by decide +kernel) rfl, jtb_at 59 (by decide +kernel) rfl, jtb_at 1153 (by decide +kernel) rfl, (by decide +kernel)⟩, jtb_at 1152 (by decide +kernel) rfl, jtb_at 53 (by decide +kernel) rfl, _, rfl, rfl⟩
theorem cl_RX10_239 : jcv RX10 239 mX10_says 1 8 := ⟨⟨jtb_at 1142 (by decide +kernel) rfl, jtb_at 59 (by decide +kernel) rfl, jtb_at 1145 (by decide +kernel) rfl, (by decide +kernel)⟩, jtb_at 1144 (by decide +kernel) rfl, jtb_at 51 (by decide +kernel) rfl, _, rfl, rfl⟩
theorem cl_RL_7 : jcv RL 7 mX9_subscript 4 7 := ⟨⟨jtb_at 676 (by decide +kernel) rfl, jtb_at 55 (by decide +kernel) rfl, jtb_at 679 (by decide +kernel) rfl, (by decide +kernel)⟩, jtb_at 677 (by decide +kernel) rfl, jtb_at 678 (by decide +kernel) rfl, _, rfl, rfl⟩
theorem cl_RL_15 : jcv RL 15 mX9_at 1 7 := ⟨⟨jtb_at 761 (by decide +kernel) rfl, jtb_at 55 (by decide +kernel) rfl, jtb_at 764 (by decide +kernel) rfl, (by decide +kernel)⟩, jtb_at 762 (by decide +kernel) rfl, jtb_at 763 (by decide +kernel) rfl, _, rfl, rfl⟩
theorem cl_RL_19 : jcv RL 19 mX9_holds 1 7 := ⟨⟨jtb_at 775 (by decide +kernel) rfl, jtb_at 55 (by decide +kernel) rfl, jtb_at 778 (by decide +kernel) rfl, (by decide +kernel)⟩, jtb_at 776 (by decide +kernel) rfl, jtb_at 777 (by decide +kernel) rfl, _, rfl, rfl⟩
theorem cl_RL_27 : jci RL 27 mX9_init 0 := ⟨⟨jtb_at 76 (by decide +kernel) rfl, jtb_at 55 (by decide +kernel) rfl, jtb_at 78 (by decide +kernel) rfl, (by decide +kernel)⟩, jtb_at 77 (by decide +kernel) rfl, rfl, rfl⟩
theorem cl_RL_30 : jci RL 30 mX10_init 0 := ⟨⟨jtb_at 844 (by decide +kernel) rfl, jtb_at 59 (by decide +kernel) rfl, jtb_at 846 (by decide +kernel) rfl, (by decide +kernel)⟩, jtb_at 845 (by decide +kernel) rfl, rfl, rfl⟩
theorem cl_RL_31 : jcv RL 31 mX9_item 3 7 := ⟨⟨jtb_at 149 (by decide +kernel) rfl, jtb_at 55 (by decide +kernel) rfl, jtb_at 152 (by decide +kernel) rfl, (by decide +kernel)⟩, jtb_at 150 (by decide +kernel) rfl, jtb_at 151 (by decide +kernel) rfl, _, rfl, rfl⟩
theorem cl_RL_35 : jcv RL 35 mX10_item 3 8 := ⟨⟨jtb_at 963 (by decide +kernel) rfl, jtb_at 59 (by decide +kernel) rfl, jtb_at 966 (by decide +kernel) rfl, (by decide +kernel)⟩, jtb_at 964 (by decide +kernel) rfl, jtb_at 965 (by decide +kernel) rfl, _, rfl, rfl⟩
theorem cl_RL_36 : jcv RL 36 mX9_clause 4 7 := ⟨⟨jtb_at 338 (by decide +kernel) rfl, jtb_at 55 (by decide +kernel) rfl, jtb_at 341 (by decide +kernel) rfl, (by decide +kernel)⟩, jtb_at 339 (by decide +kernel) rfl, jtb_at 340 (by decide +kernel) rfl, _, rfl, rfl⟩
theorem cl_RL_39 : jcv RL 39 mX10_clause 4 8 := ⟨⟨jtb_at 982 (by decide +kernel) rfl, jtb_at 59 (by decide +kernel) rfl, jtb_at 985 (by decide +kernel) rfl, (by decide +kernel)⟩, jtb_at 983 (by decide +kernel) rfl, jtb_at 984 (by decide +kernel) rfl, _, rfl, rfl⟩
theorem cl_RL_40 : jcv RL 40 mX9_lay 0 7 := ⟨⟨jtb_at 447 (by decide +kernel) rfl, jtb_at 55 (by decide +kernel) rfl, jtb_at 450 (by decide +kernel) rfl, (by decide +kernel)⟩, jtb_at 448 (by decide +kernel) rfl, jtb_at 449 (by decide +kernel) rfl, _, rfl, rfl⟩
theorem cl_RL_44 : jcv RL 44 mX10_lay 0 8 := ⟨⟨jtb_at 1033 (by decide +kernel) rfl, jtb_at 59 (by decide +kernel) rfl, jtb_at 1036 (by decide +kernel) rfl, (by decide +kernel)⟩, jtb_at 1034 (by decide +kernel) rfl, jtb_at 1035 (by decide +kernel) rfl, _, rfl, rfl⟩
theorem cl_RL_45 : jcv RL 45 mX9_place 1 7 := ⟨⟨jtb_at 599 (by decide +kernel) rfl, jtb_at 55 (by decide +kernel) rfl, jtb_at 602 (by decide +kernel) rfl, (by decide +kernel)⟩, jtb_at 600 (by decide +kernel) rfl, jtb_at 601 (by decide +kernel) rfl, _, rfl, rfl⟩
theorem cl_RL_49 : jcv RL 49 mX10_place 1 8 := ⟨⟨jtb_at 1094 (by decide +kernel) rfl, jtb_at 59 (by decide +kernel) rfl, jtb_at 1097 (by decide +kernel) rfl, (by decide +kernel)⟩, jtb_at 1095 (by decide +kernel) rfl, jtb_at 1096 (by decide +kernel) rfl, _, rfl, rfl⟩
theorem cl_RL_50 : jcv RL 50 mX9_size 1 7 := ⟨⟨jtb_at 607 (by decide +kernel) rfl, jtb_at 55 (by decide +kernel) rfl, jtb_at 610 (by decide +kernel) rfl, (by decide +kernel)⟩, jtb_at 608 (by decide +kernel) rfl, jtb_at 609 (by decide +kernel) rfl, _, rfl, rfl⟩
theorem cl_RL_53 : jcv RL 53 mX10_size 1 8 := ⟨⟨jtb_at 1106 (by decide +kernel) rfl, jtb_at 59 (by decide +kernel) rfl, jtb_at 1109 (by decide +kernel) rfl, (by decide +kernel)⟩, jtb_at 1107 (by decide +kernel) rfl, jtb_at 1108 (by decide +kernel) rfl, _, rfl, rfl⟩
theorem cl_RL_59 : jcv RL 59 mX10_subscript 4 8 := ⟨⟨jtb_at 1114 (by decide +kernel) rfl, jtb_at 59 (by decide +kernel) rfl, jtb_at 1117 (by decide +kernel) rfl, (by decide +kernel)⟩, jtb_at 1115 (by decide +kernel) rfl, jtb_at 1116 (by decide +kernel) rfl, _, rfl, rfl⟩
theorem cl_RL_60 : jcv RL 60 mX10_thrown 0 8 := ⟨⟨jtb_at 959 (by decide +kernel) rfl, jtb_at 59 (by decide +kernel) rfl, jtb_at 962 (by decide +kernel) rfl, (by decide +kernel)⟩, jtb_at 960 (by decide +kernel) rfl, jtb_at 961 (by decide +kernel) rfl, _, rfl, rfl⟩
theorem cl_RL_63 : jcv RL 63 mX9_checks 1 7 := ⟨⟨jtb_at 615 (by decide +kernel) rfl, jtb_at 55 (by decide +kernel) rfl, jtb_at 618 (by decide +kernel) rfl, (by decide +kernel)⟩, jtb_at 616 (by decide +kernel) rfl, jtb_at 617 (by decide +kernel) rfl, _, rfl, rfl⟩
theorem cl_RL_67 : jcv RL 67 mX10_checks 1 8 := ⟨⟨jtb_at 1118 (by decide +kernel) rfl, jtb_at 59 (by decide +kernel) rfl, jtb_at 1121 (by decide +kernel) rfl, (by decide +kernel)⟩, jtb_at 1119 (by decide +kernel) rfl, jtb_at 1120 (by decide +kernel) rfl, _, rfl, rfl⟩
theorem cl_RL_68 : jcv RL 68 mX9_depending 2 7 := ⟨⟨jtb_at 619 (by decide +kernel) rfl, jtb_at 55 (by decide +kernel) rfl, jtb_at 622 (by decide +kernel) rfl, (by decide +kernel)⟩, jtb_at 620 (by decide +kernel) rfl, jtb_at 621 (by decide +kernel) rfl, _, rfl, rfl⟩
theorem cl_RL_72 : jcv RL 72 mX10_depending 2 8 := ⟨⟨jtb_at 1029 (by decide +kernel) rfl, jtb_at 59 (by decide +kernel) rfl, jtb_at 1032 (by decide +kernel) rfl, (by decide +kernel)⟩, jtb_at 1030 (by decide +kernel) rfl, jtb_at 1031 (by decide +kernel) rfl, _, rfl, rfl⟩
theorem cl_RL_73 : jcv RL 73 mX9_redefines 2 7 := ⟨⟨jtb_at 623 (by decide +kernel) rfl, jtb_at 55 (by decide +kernel) rfl, jtb_at 626 (by decide +kernel) rfl, (by decide +kernel)⟩, jtb_at 624 (by decide +kernel) rfl, jtb_at 625 (by decide +kernel) rfl, _, rfl, rfl⟩
theorem cl_RL_76 : jcv RL 76 mX10_redefines 2 8 := ⟨⟨jtb_at 1021 (by decide +kernel) rfl, jtb_at 59 (by decide +kernel) rfl, jtb_at 1024 (by decide +kernel) rfl, (by decide +kernel)⟩, jtb_at 1022 (by decide +kernel) rfl, jtb_at 1023 (by decide +kernel) rfl, _, rfl, rfl⟩
theorem cl_RL_77 : jcv RL 77 mX9_refer 3 7 := ⟨⟨jtb_at 639 (by decide +kernel) rfl, jtb_at 55 (by decide +kernel) rfl, jtb_at 642 (by decide +kernel) rfl, (by decide +kernel)⟩, jtb_at 640 (by decide +kernel) rfl, jtb_at 641 (by decide +kernel) rfl, _, rfl, rfl⟩
theorem cl_RL_80 : jcv RL 80 mX10_refer 3 8 := ⟨⟨jtb_at 1122 (by decide +kernel) rfl, jtb_at 59 (by decide +kernel) rfl, jtb_at 1125 (by decide +kernel) rfl, (by decide +kernel)⟩, jtb_at 1123 (by decide +kernel) rfl, jtb_at 1124 (by decide +kernel) rfl, _, rfl, rfl⟩
theorem cl_RL_81 : jcv RL 81 mX9_slack 1 7 := ⟨⟨jtb_at 643 (by decide +kernel) rfl, jtb_at 55 (by decide +kernel) rfl, jtb_at 646 (by decide +kernel) rfl, (by decide +kernel)⟩, jtb_at 644 (by decide +kernel) rfl, jtb_at 645 (by decide +kernel) rfl, _, rfl, rfl⟩
theorem cl_RL_84 : jcv RL 84 mX10_slack 1 8 := ⟨⟨jtb_at 1126 (by decide +kernel) rfl, jtb_at 59 (by decide +kernel) rfl, jtb_at 1129 (by decide +kernel) rfl, (by decide +kernel)⟩, jtb_at 1127 (by decide +kernel) rfl, jtb_at 1128 (by decide +kernel) rfl, _, rfl, rfl⟩
theorem cl_RL_85 : jcv RL 85 mX9_external 2 7 := ⟨⟨jtb_at 647 (by decide +kernel) rfl, jtb_at 55 (by decide +kernel) rfl, jtb_at 650 (by decide +kernel) rfl, (by decide +kernel)⟩, jtb_at 648 (by decide +kernel) rfl, jtb_at 649 (by decide +kernel) rfl, _, rfl, rfl⟩
theorem cl_RL_88 : jcv RL 88 mX10_external 2 8 := ⟨⟨jtb_at 1025 (by decide +kernel) rfl, jtb_at 59 (by decide +kernel) rfl, jtb_at 1028 (by decide +kernel) rfl, (by decide +kernel)⟩, jtb_at 1026 (by decide +kernel) rfl, jtb_at 1027 (by decide +kernel) rfl, _, rfl, rfl⟩
theorem cl_RL_92 : jcv RL 92 mX10_at 1 8 := ⟨⟨jtb_at 1130 (by decide +kernel) rfl, jtb_at 59 (by decide +kernel) rfl, jtb_at 1133 (by decide +kernel) rfl, (by decide +kernel)⟩, jtb_at 1131 (by decide +kernel) rfl, jtb_at 1132 (by decide +kernel) rfl, _, rfl, rfl⟩
theorem cl_RL_93 : jcv RL 93 mX9_octet 2 7 := ⟨⟨jtb_at 651 (by decide +kernel) rfl, jtb_at 55 (by decide +kernel) rfl, jtb_at 654 (by decide +kernel) rfl, (by decide +kernel)⟩, jtb_at 652 (by decide +kernel) rfl, jtb_at 653 (by decide +kernel) rfl, _, rfl, rfl⟩
theorem cl_RL_97 : jcv RL 97 mX10_octet 2 8 := ⟨⟨jtb_at 1134 (by decide +kernel) rfl, jtb_at 59 (by decide +kernel) rfl, jtb_at 1137 (by decide +kernel) rfl, (by decide +kernel)⟩, jtb_at 1135 (by decide +kernel) rfl, jtb_at 1136 (by decide +kernel) rfl, _, rfl, rfl⟩
theorem cl_RL_100 : jcv RL 100 mX10_holds 1 8 := ⟨⟨jtb_at 1138 (by decide +kernel) rfl, jtb_at 59 (by decide +kernel) rfl, jtb_at 1141 (by decide +kernel) rfl, (by decide +kernel)⟩, jtb_at 1139 (by decide +kernel) rfl, jtb_at 1140 (by decide +kernel) rfl, _, rfl, rfl⟩
theorem cl_RL_101 : jcv RL 101 mX9_count 1 7 := ⟨⟨jtb_at 656 (by decide +kernel) rfl, jtb_at 55 (by decide +kernel) rfl, jtb_at 659 (by decide +kernel) rfl, (by decide +kernel)⟩, jtb_at 657 (by decide +kernel) rfl, jtb_at 658 (by decide +kernel) rfl, _, rfl, rfl⟩
theorem cl_RL_104 : jcv RL 104 mX10_count 1 8 := ⟨⟨jtb_at 1154 (by decide +kernel) rfl, jtb_at 59 (by decide +kernel) rfl, jtb_at 1157 (by decide +kernel) rfl, (by decide +kernel)⟩, jtb_at 1155 (by decide +kernel) rfl, jtb_at 1156 (by decide +kernel) rfl, _, rfl, rfl⟩
theorem nl_RX0_40 : jnl RX0 40 3 6 := ⟨RX5, TX5, rfl, rfl, jinX5, tyX5_ok, jtb_at 203 (by decide +kernel) rfl, jtb_at 204 (by decide +kernel) rfl, jtb_at 62 (by decide +kernel) rfl⟩
theorem nl_RX8_9 : jnl RX8 9 0 20 := ⟨RX0, TX0, rfl, rfl, jinX0, tyX0_ok, jtb_at 88 (by decide +kernel) rfl, jtb_at 195 (by decide +kernel) rfl, jtb_at 61 (by decide +kernel) rfl⟩
theorem nl_RX9_7 : jnl RX9 7 6 2 := ⟨RX8, TX8, rfl, rfl, jinX8, tyX8_ok, jtb_at 82 (by decide +kernel) rfl, jtb_at 83 (by decide +kernel) rfl, jtb_at 56 (by decide +kernel) rfl⟩
theorem nl_RX9_16 : jnl RX9 16 1 2 := ⟨RX3, TX3, rfl, rfl, jinX3, tyX3_ok, jtb_at 101 (by decide +kernel) rfl, jtb_at 102 (by decide +kernel) rfl, jtb_at 57 (by decide +kernel) rfl⟩
theorem nl_RX9_25 : jnl RX9 25 4 2 := ⟨RX6, TX6, rfl, rfl, jinX6, tyX6_ok, jtb_at 115 (by decide +kernel) rfl, jtb_at 116 (by decide +kernel) rfl, jtb_at 58 (by decide +kernel) rfl⟩
theorem nl_RX9_127 : jnl RX9 127 5 5 := ⟨RX7, TX7, rfl, rfl, jinX7, tyX7_ok, jtb_at 350 (by decide +kernel) rfl, jtb_at 351 (by decide +kernel) rfl, jtb_at 63 (by decide +kernel) rfl⟩
theorem nl_RX9_214 : jnl RX9 214 2 3 := ⟨RX4, TX4, rfl, rfl, jinX4, tyX4_ok, jtb_at 421 (by decide +kernel) rfl, jtb_at 422 (by decide +kernel) rfl, jtb_at 65 (by decide +kernel) rfl⟩
theorem nl_RL_8 : jnl RL 8 7 6 := ⟨RX9, TX9, rfl, rfl, jinX9, tyX9_ok, jtb_at 74 (by decide +kernel) rfl, jtb_at 75 (by decide +kernel) rfl, jtb_at 55 (by decide +kernel) rfl⟩
theorem nl_RL_28 : jnl RL 28 8 36 := ⟨RX10, TX10, rfl, rfl, jinX10, tyX10_ok, jtb_at 842 (by decide +kernel) rfl, jtb_at 843 (by decide +kernel) rfl, jtb_at 59 (by decide +kernel) rfl⟩
theorem ja_int : Cond.arrayClass .int ∈ jtb := jtb_at 437 (by decide +kernel) rfl
theorem ja_byte : Cond.arrayClass .byte ∈ jtb := jtb_at 129 (by decide +kernel) rfl
theorem ja_boolean : Cond.arrayClass .boolean ∈ jtb := jtb_at 957 (by decide +kernel) rfl
theorem ja_long : Cond.arrayClass .long ∈ jtb := jtb_at 958 (by decide +kernel) rfl
theorem ol_X0_init : Cond.methodLink RX0 3 Lib.objectInit ∈ jtb := jtb_at 199 (by decide +kernel) rfl
theorem kl_RX2_9 : Cond.constantLong RX2 9 (10) ∈ jtb := jtb_at 417 (by decide +kernel) rfl
theorem kl_RX2_46 : Cond.constantLong RX2 46 (255) ∈ jtb := jtb_at 574 (by decide +kernel) rfl
theorem kl_RX2_85 : Cond.constantLong RX2 85 (256) ∈ jtb := jtb_at 818 (by decide +kernel) rfl
theorem kl_RX2_106 : Cond.constantLong RX2 106 (48) ∈ jtb := jtb_at 837 (by decide +kernel) rfl
theorem ol_X3_init : Cond.methodLink RX3 3 Lib.objectInit ∈ jtb := jtb_at 106 (by decide +kernel) rfl
theorem ol_X4_init : Cond.methodLink RX4 3 Lib.objectInit ∈ jtb := jtb_at 426 (by decide +kernel) rfl
theorem ol_X5_init : Cond.methodLink RX5 1 Lib.objectInit ∈ jtb := jtb_at 208 (by decide +kernel) rfl
theorem ol_X6_init : Cond.methodLink RX6 3 Lib.objectInit ∈ jtb := jtb_at 120 (by decide +kernel) rfl
theorem ol_X7_init : Cond.methodLink RX7 1 Lib.objectInit ∈ jtb := jtb_at 355 (by decide +kernel) rfl
theorem ol_X8_init : Cond.methodLink RX8 3 Lib.objectInit ∈ jtb := jtb_at 87 (by decide +kernel) rfl
theorem rl_RX8_9 : Cond.classLink RX8 9 RX0 ∈ jtb := jtb_at 88 (by decide +kernel) rfl
theorem ol_X9_init : Cond.methodLink RX9 1 Lib.objectInit ∈ jtb := jtb_at 79 (by decide +kernel) rfl
theorem kl_RX9_85 : Cond.constantLong RX9 85 (20000) ∈ jtb := jtb_at 542 (by decide +kernel) rfl
theorem ol_X10_init : Cond.methodLink RX10 1 Lib.objectInit ∈ jtb := jtb_at 847 (by decide +kernel) rfl
theorem kl_RX10_134 : Cond.constantLong RX10 134 (10) ∈ jtb := jtb_at 1012 (by decide +kernel) rfl
theorem kl_RX10_192 : Cond.constantLong RX10 192 (20000) ∈ jtb := jtb_at 1080 (by decide +kernel) rfl
theorem kl_RX10_213 : Cond.constantLong RX10 213 (48) ∈ jtb := jtb_at 1093 (by decide +kernel) rfl
theorem oi_i : Cond.instanceMethod Lib.objectInit ∈ jtb := jtb_at 80 (by decide +kernel) rfl
theorem oi_c : Cond.code Lib.objectInit ⟨#[0xb1]⟩ 1 none ∈ jtb := jtb_at 81 (by decide +kernel) rfl
