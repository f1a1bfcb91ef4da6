section
-- ===== PART A: goes FIRST, ahead of the names: the tables' words, and 'selects' of the private methods out of them =====
/-- a private method of a class that the tables say can be made, by its rows of tables_1 -/
def lw_okq (q : MethodName × Nat) : Prop := (q.1.cls ≠ "java/lang/invoke/MethodHandle" ∧ q.1.cls ≠ "java/lang/invoke/VarHandle") ∧ Cond.instantiable q.1.cls q.2 ∈ tables_1 ∧ Cond.privateMethod q.1 ∈ tables_1 ∧ Cond.instanceMethod q.1 ∈ tables_1
theorem lw_p0 : lw_okq (⟨"UpdateDesk", "slotOf", "(I)LUpdateDesk$Bytes;"⟩, 8) := ⟨⟨by decide +kernel, by decide +kernel⟩, List.mem_of_getElem? (i := 14) (by decide +kernel), List.mem_of_getElem? (i := 195) (by decide +kernel), List.mem_of_getElem? (i := 196) (by decide +kernel)⟩
theorem lw_p1 : lw_okq (⟨"UpdateDesk", "tapeHas", "(I)Z"⟩, 8) := ⟨⟨by decide +kernel, by decide +kernel⟩, List.mem_of_getElem? (i := 14) (by decide +kernel), List.mem_of_getElem? (i := 199) (by decide +kernel), List.mem_of_getElem? (i := 200) (by decide +kernel)⟩
theorem lw_p2 : lw_okq (⟨"UpdateDesk$Checker", "holderEnd", "(LUpdateDesk$Bytes;IIII)I"⟩, 3) := ⟨⟨by decide +kernel, by decide +kernel⟩, List.mem_of_getElem? (i := 44) (by decide +kernel), List.mem_of_getElem? (i := 207) (by decide +kernel), List.mem_of_getElem? (i := 208) (by decide +kernel)⟩
theorem lw_p3 : lw_okq (⟨"UpdateDesk$Checker", "isRightName", "(LUpdateDesk$Bytes;IIII)Z"⟩, 3) := ⟨⟨by decide +kernel, by decide +kernel⟩, List.mem_of_getElem? (i := 44) (by decide +kernel), List.mem_of_getElem? (i := 215) (by decide +kernel), List.mem_of_getElem? (i := 216) (by decide +kernel)⟩
theorem lw_p4 : lw_okq (⟨"UpdateDesk$Checker", "isOneOf", "(LUpdateDesk$Bytes;II)Z"⟩, 3) := ⟨⟨by decide +kernel, by decide +kernel⟩, List.mem_of_getElem? (i := 44) (by decide +kernel), List.mem_of_getElem? (i := 249) (by decide +kernel), List.mem_of_getElem? (i := 250) (by decide +kernel)⟩
theorem lw_p5 : lw_okq (⟨"UpdateDesk$Checker", "checkedEnd", "(LUpdateDesk$Bytes;III)I"⟩, 3) := ⟨⟨by decide +kernel, by decide +kernel⟩, List.mem_of_getElem? (i := 44) (by decide +kernel), List.mem_of_getElem? (i := 257) (by decide +kernel), List.mem_of_getElem? (i := 258) (by decide +kernel)⟩
theorem lw_p6 : lw_okq (⟨"UpdateDesk$Plan", "studyOperator", "(I)I"⟩, 8) := ⟨⟨by decide +kernel, by decide +kernel⟩, List.mem_of_getElem? (i := 63) (by decide +kernel), List.mem_of_getElem? (i := 295) (by decide +kernel), List.mem_of_getElem? (i := 296) (by decide +kernel)⟩
theorem lw_p7 : lw_okq (⟨"UpdateDesk$Plan", "codeOf", "(I)I"⟩, 8) := ⟨⟨by decide +kernel, by decide +kernel⟩, List.mem_of_getElem? (i := 63) (by decide +kernel), List.mem_of_getElem? (i := 299) (by decide +kernel), List.mem_of_getElem? (i := 300) (by decide +kernel)⟩
theorem lw_p8 : lw_okq (⟨"UpdateDesk$Plan", "isNamed", "(ILjava/lang/String;)Z"⟩, 8) := ⟨⟨by decide +kernel, by decide +kernel⟩, List.mem_of_getElem? (i := 63) (by decide +kernel), List.mem_of_getElem? (i := 312) (by decide +kernel), List.mem_of_getElem? (i := 313) (by decide +kernel)⟩
theorem lw_p9 : lw_okq (⟨"UpdateDesk$Plan", "studyPath", "(II)I"⟩, 8) := ⟨⟨by decide +kernel, by decide +kernel⟩, List.mem_of_getElem? (i := 63) (by decide +kernel), List.mem_of_getElem? (i := 366) (by decide +kernel), List.mem_of_getElem? (i := 367) (by decide +kernel)⟩
theorem lw_p10 : lw_okq (⟨"UpdateDesk$Plan", "isPath", "(II)Z"⟩, 8) := ⟨⟨by decide +kernel, by decide +kernel⟩, List.mem_of_getElem? (i := 63) (by decide +kernel), List.mem_of_getElem? (i := 371) (by decide +kernel), List.mem_of_getElem? (i := 372) (by decide +kernel)⟩
theorem lw_p11 : lw_okq (⟨"UpdateDesk$Plan", "clash", "(II)Z"⟩, 8) := ⟨⟨by decide +kernel, by decide +kernel⟩, List.mem_of_getElem? (i := 63) (by decide +kernel), List.mem_of_getElem? (i := 378) (by decide +kernel), List.mem_of_getElem? (i := 379) (by decide +kernel)⟩
theorem lw_p12 : lw_okq (⟨"UpdateDesk$Plan", "enlist", "(II)V"⟩, 8) := ⟨⟨by decide +kernel, by decide +kernel⟩, List.mem_of_getElem? (i := 63) (by decide +kernel), List.mem_of_getElem? (i := 382) (by decide +kernel), List.mem_of_getElem? (i := 383) (by decide +kernel)⟩
theorem lw_p13 : lw_okq (⟨"UpdateDesk$Editor", "performPath", "(LUpdateDesk$Bytes;II)I"⟩, 12) := ⟨⟨by decide +kernel, by decide +kernel⟩, List.mem_of_getElem? (i := 102) (by decide +kernel), List.mem_of_getElem? (i := 403) (by decide +kernel), List.mem_of_getElem? (i := 404) (by decide +kernel)⟩
theorem lw_p14 : lw_okq (⟨"UpdateDesk$Editor", "reach", "(LUpdateDesk$Bytes;IIZ)Z"⟩, 12) := ⟨⟨by decide +kernel, by decide +kernel⟩, List.mem_of_getElem? (i := 102) (by decide +kernel), List.mem_of_getElem? (i := 408) (by decide +kernel), List.mem_of_getElem? (i := 409) (by decide +kernel)⟩
theorem lw_p15 : lw_okq (⟨"UpdateDesk$Editor", "enter", "(II)V"⟩, 12) := ⟨⟨by decide +kernel, by decide +kernel⟩, List.mem_of_getElem? (i := 102) (by decide +kernel), List.mem_of_getElem? (i := 412) (by decide +kernel), List.mem_of_getElem? (i := 413) (by decide +kernel)⟩
def lw_privs_1 : List (MethodName × Nat) := [(⟨"UpdateDesk", "slotOf", "(I)LUpdateDesk$Bytes;"⟩, 8), (⟨"UpdateDesk", "tapeHas", "(I)Z"⟩, 8), (⟨"UpdateDesk$Checker", "holderEnd", "(LUpdateDesk$Bytes;IIII)I"⟩, 3), (⟨"UpdateDesk$Checker", "isRightName", "(LUpdateDesk$Bytes;IIII)Z"⟩, 3), (⟨"UpdateDesk$Checker", "isOneOf", "(LUpdateDesk$Bytes;II)Z"⟩, 3), (⟨"UpdateDesk$Checker", "checkedEnd", "(LUpdateDesk$Bytes;III)I"⟩, 3), (⟨"UpdateDesk$Plan", "studyOperator", "(I)I"⟩, 8), (⟨"UpdateDesk$Plan", "codeOf", "(I)I"⟩, 8), (⟨"UpdateDesk$Plan", "isNamed", "(ILjava/lang/String;)Z"⟩, 8), (⟨"UpdateDesk$Plan", "studyPath", "(II)I"⟩, 8), (⟨"UpdateDesk$Plan", "isPath", "(II)Z"⟩, 8), (⟨"UpdateDesk$Plan", "clash", "(II)Z"⟩, 8), (⟨"UpdateDesk$Plan", "enlist", "(II)V"⟩, 8), (⟨"UpdateDesk$Editor", "performPath", "(LUpdateDesk$Bytes;II)I"⟩, 12), (⟨"UpdateDesk$Editor", "reach", "(LUpdateDesk$Bytes;IIZ)Z"⟩, 12), (⟨"UpdateDesk$Editor", "enter", "(II)V"⟩, 12)]
theorem lw_r1 : ∀ q ∈ lw_privs_1, lw_okq q := List.forall_mem_cons.mpr ⟨lw_p0, List.forall_mem_cons.mpr ⟨lw_p1, List.forall_mem_cons.mpr ⟨lw_p2, List.forall_mem_cons.mpr ⟨lw_p3, List.forall_mem_cons.mpr ⟨lw_p4, List.forall_mem_cons.mpr ⟨lw_p5, List.forall_mem_cons.mpr ⟨lw_p6, List.forall_mem_cons.mpr ⟨lw_p7, List.forall_mem_cons.mpr ⟨lw_p8, List.forall_mem_cons.mpr ⟨lw_p9, List.forall_mem_cons.mpr ⟨lw_p10, List.forall_mem_cons.mpr ⟨lw_p11, List.forall_mem_cons.mpr ⟨lw_p12, List.forall_mem_cons.mpr ⟨lw_p13, List.forall_mem_cons.mpr ⟨lw_p14, List.forall_mem_cons.mpr ⟨lw_p15, fun _ h => absurd h List.not_mem_nil⟩⟩⟩⟩⟩⟩⟩⟩⟩⟩⟩⟩⟩⟩⟩⟩
theorem lw_p16 : lw_okq (⟨"UpdateDesk$Editor", "findStep", "(LUpdateDesk$Bytes;)Z"⟩, 12) := ⟨⟨by decide +kernel, by decide +kernel⟩, List.mem_of_getElem? (i := 102) (by decide +kernel), List.mem_of_getElem? (i := 420) (by decide +kernel), List.mem_of_getElem? (i := 421) (by decide +kernel)⟩
theorem lw_p17 : lw_okq (⟨"UpdateDesk$Editor", "holder", "()I"⟩, 12) := ⟨⟨by decide +kernel, by decide +kernel⟩, List.mem_of_getElem? (i := 102) (by decide +kernel), List.mem_of_getElem? (i := 424) (by decide +kernel), List.mem_of_getElem? (i := 425) (by decide +kernel)⟩
theorem lw_p18 : lw_okq (⟨"UpdateDesk$Editor", "addElement", "(ILUpdateDesk$Bytes;LUpdateDesk$Bytes;II)V"⟩, 12) := ⟨⟨by decide +kernel, by decide +kernel⟩, List.mem_of_getElem? (i := 102) (by decide +kernel), List.mem_of_getElem? (i := 432) (by decide +kernel), List.mem_of_getElem? (i := 433) (by decide +kernel)⟩
theorem lw_p19 : lw_okq (⟨"UpdateDesk$Editor", "resize", "(III)Z"⟩, 12) := ⟨⟨by decide +kernel, by decide +kernel⟩, List.mem_of_getElem? (i := 102) (by decide +kernel), List.mem_of_getElem? (i := 436) (by decide +kernel), List.mem_of_getElem? (i := 437) (by decide +kernel)⟩
theorem lw_p20 : lw_okq (⟨"UpdateDesk$Editor", "setValue", "(LUpdateDesk$Bytes;I)I"⟩, 12) := ⟨⟨by decide +kernel, by decide +kernel⟩, List.mem_of_getElem? (i := 102) (by decide +kernel), List.mem_of_getElem? (i := 462) (by decide +kernel), List.mem_of_getElem? (i := 463) (by decide +kernel)⟩
theorem lw_p21 : lw_okq (⟨"UpdateDesk$Editor", "replaceValue", "(ILUpdateDesk$Bytes;II)I"⟩, 12) := ⟨⟨by decide +kernel, by decide +kernel⟩, List.mem_of_getElem? (i := 102) (by decide +kernel), List.mem_of_getElem? (i := 466) (by decide +kernel), List.mem_of_getElem? (i := 467) (by decide +kernel)⟩
theorem lw_p22 : lw_okq (⟨"UpdateDesk$Editor", "unsetValue", "()I"⟩, 12) := ⟨⟨by decide +kernel, by decide +kernel⟩, List.mem_of_getElem? (i := 102) (by decide +kernel), List.mem_of_getElem? (i := 470) (by decide +kernel), List.mem_of_getElem? (i := 471) (by decide +kernel)⟩
theorem lw_p23 : lw_okq (⟨"UpdateDesk$Editor", "increase", "(LUpdateDesk$Bytes;I)I"⟩, 12) := ⟨⟨by decide +kernel, by decide +kernel⟩, List.mem_of_getElem? (i := 102) (by decide +kernel), List.mem_of_getElem? (i := 474) (by decide +kernel), List.mem_of_getElem? (i := 475) (by decide +kernel)⟩
theorem lw_p24 : lw_okq (⟨"UpdateDesk$Editor", "addItem", "(LUpdateDesk$Bytes;I)I"⟩, 12) := ⟨⟨by decide +kernel, by decide +kernel⟩, List.mem_of_getElem? (i := 102) (by decide +kernel), List.mem_of_getElem? (i := 492) (by decide +kernel), List.mem_of_getElem? (i := 493) (by decide +kernel)⟩
theorem lw_p25 : lw_okq (⟨"UpdateDesk$Editor", "pullItems", "(LUpdateDesk$Bytes;I)I"⟩, 12) := ⟨⟨by decide +kernel, by decide +kernel⟩, List.mem_of_getElem? (i := 102) (by decide +kernel), List.mem_of_getElem? (i := 497) (by decide +kernel), List.mem_of_getElem? (i := 498) (by decide +kernel)⟩
theorem lw_p26 : lw_okq (⟨"UpdateDesk$Editor", "moveItem", "(IIII)I"⟩, 12) := ⟨⟨by decide +kernel, by decide +kernel⟩, List.mem_of_getElem? (i := 102) (by decide +kernel), List.mem_of_getElem? (i := 516) (by decide +kernel), List.mem_of_getElem? (i := 517) (by decide +kernel)⟩
theorem lw_p27 : lw_okq (⟨"UpdateDesk$Editor", "hasItem", "(LUpdateDesk$Bytes;I)Z"⟩, 12) := ⟨⟨by decide +kernel, by decide +kernel⟩, List.mem_of_getElem? (i := 102) (by decide +kernel), List.mem_of_getElem? (i := 520) (by decide +kernel), List.mem_of_getElem? (i := 521) (by decide +kernel)⟩
theorem lw_p28 : lw_okq (⟨"UpdateDeskModel", "put", "(I)V"⟩, 27) := ⟨⟨by decide +kernel, by decide +kernel⟩, List.mem_of_getElem? (i := 553) (by decide +kernel), List.mem_of_getElem? (i := 645) (by decide +kernel), List.mem_of_getElem? (i := 646) (by decide +kernel)⟩
theorem lw_p29 : lw_okq (⟨"UpdateDeskModel", "take", "(II)I"⟩, 27) := ⟨⟨by decide +kernel, by decide +kernel⟩, List.mem_of_getElem? (i := 553) (by decide +kernel), List.mem_of_getElem? (i := 656) (by decide +kernel), List.mem_of_getElem? (i := 657) (by decide +kernel)⟩
theorem lw_p30 : lw_okq (⟨"UpdateDeskModel", "load", "(II)I"⟩, 27) := ⟨⟨by decide +kernel, by decide +kernel⟩, List.mem_of_getElem? (i := 553) (by decide +kernel), List.mem_of_getElem? (i := 660) (by decide +kernel), List.mem_of_getElem? (i := 661) (by decide +kernel)⟩
theorem lw_p31 : lw_okq (⟨"UpdateDeskModel", "whole", "(I)I"⟩, 27) := ⟨⟨by decide +kernel, by decide +kernel⟩, List.mem_of_getElem? (i := 553) (by decide +kernel), List.mem_of_getElem? (i := 664) (by decide +kernel), List.mem_of_getElem? (i := 665) (by decide +kernel)⟩
def lw_privs_2 : List (MethodName × Nat) := [(⟨"UpdateDesk$Editor", "findStep", "(LUpdateDesk$Bytes;)Z"⟩, 12), (⟨"UpdateDesk$Editor", "holder", "()I"⟩, 12), (⟨"UpdateDesk$Editor", "addElement", "(ILUpdateDesk$Bytes;LUpdateDesk$Bytes;II)V"⟩, 12), (⟨"UpdateDesk$Editor", "resize", "(III)Z"⟩, 12), (⟨"UpdateDesk$Editor", "setValue", "(LUpdateDesk$Bytes;I)I"⟩, 12), (⟨"UpdateDesk$Editor", "replaceValue", "(ILUpdateDesk$Bytes;II)I"⟩, 12), (⟨"UpdateDesk$Editor", "unsetValue", "()I"⟩, 12), (⟨"UpdateDesk$Editor", "increase", "(LUpdateDesk$Bytes;I)I"⟩, 12), (⟨"UpdateDesk$Editor", "addItem", "(LUpdateDesk$Bytes;I)I"⟩, 12), (⟨"UpdateDesk$Editor", "pullItems", "(LUpdateDesk$Bytes;I)I"⟩, 12), (⟨"UpdateDesk$Editor", "moveItem", "(IIII)I"⟩, 12), (⟨"UpdateDesk$Editor", "hasItem", "(LUpdateDesk$Bytes;I)Z"⟩, 12), (⟨"UpdateDeskModel", "put", "(I)V"⟩, 27), (⟨"UpdateDeskModel", "take", "(II)I"⟩, 27), (⟨"UpdateDeskModel", "load", "(II)I"⟩, 27), (⟨"UpdateDeskModel", "whole", "(I)I"⟩, 27)]
theorem lw_r2 : ∀ q ∈ lw_privs_2, lw_okq q := List.forall_mem_cons.mpr ⟨lw_p16, List.forall_mem_cons.mpr ⟨lw_p17, List.forall_mem_cons.mpr ⟨lw_p18, List.forall_mem_cons.mpr ⟨lw_p19, List.forall_mem_cons.mpr ⟨lw_p20, List.forall_mem_cons.mpr ⟨lw_p21, List.forall_mem_cons.mpr ⟨lw_p22, List.forall_mem_cons.mpr ⟨lw_p23, List.forall_mem_cons.mpr ⟨lw_p24, List.forall_mem_cons.mpr ⟨lw_p25, List.forall_mem_cons.mpr ⟨lw_p26, List.forall_mem_cons.mpr ⟨lw_p27, List.forall_mem_cons.mpr ⟨lw_p28, List.forall_mem_cons.mpr ⟨lw_p29, List.forall_mem_cons.mpr ⟨lw_p30, List.forall_mem_cons.mpr ⟨lw_p31, fun _ h => absurd h List.not_mem_nil⟩⟩⟩⟩⟩⟩⟩⟩⟩⟩⟩⟩⟩⟩⟩⟩
theorem lw_p32 : lw_okq (⟨"UpdateDeskModel", "at", "(I)I"⟩, 27) := ⟨⟨by decide +kernel, by decide +kernel⟩, List.mem_of_getElem? (i := 553) (by decide +kernel), List.mem_of_getElem? (i := 668) (by decide +kernel), List.mem_of_getElem? (i := 669) (by decide +kernel)⟩
theorem lw_p33 : lw_okq (⟨"UpdateDeskModel", "make", "(I)I"⟩, 27) := ⟨⟨by decide +kernel, by decide +kernel⟩, List.mem_of_getElem? (i := 553) (by decide +kernel), List.mem_of_getElem? (i := 674) (by decide +kernel), List.mem_of_getElem? (i := 675) (by decide +kernel)⟩
theorem lw_p34 : lw_okq (⟨"UpdateDeskModel", "opens", "(IIII)Z"⟩, 27) := ⟨⟨by decide +kernel, by decide +kernel⟩, List.mem_of_getElem? (i := 553) (by decide +kernel), List.mem_of_getElem? (i := 678) (by decide +kernel), List.mem_of_getElem? (i := 679) (by decide +kernel)⟩
theorem lw_p35 : lw_okq (⟨"UpdateDeskModel", "isText", "(II)Z"⟩, 27) := ⟨⟨by decide +kernel, by decide +kernel⟩, List.mem_of_getElem? (i := 553) (by decide +kernel), List.mem_of_getElem? (i := 685) (by decide +kernel), List.mem_of_getElem? (i := 686) (by decide +kernel)⟩
theorem lw_p36 : lw_okq (⟨"UpdateDeskModel", "character", "(II)I"⟩, 27) := ⟨⟨by decide +kernel, by decide +kernel⟩, List.mem_of_getElem? (i := 553) (by decide +kernel), List.mem_of_getElem? (i := 689) (by decide +kernel), List.mem_of_getElem? (i := 690) (by decide +kernel)⟩
theorem lw_p37 : lw_okq (⟨"UpdateDeskModel", "numberAt", "(II)I"⟩, 27) := ⟨⟨by decide +kernel, by decide +kernel⟩, List.mem_of_getElem? (i := 553) (by decide +kernel), List.mem_of_getElem? (i := 697) (by decide +kernel), List.mem_of_getElem? (i := 698) (by decide +kernel)⟩
theorem lw_p38 : lw_okq (⟨"UpdateDeskModel", "countOf", "(I)I"⟩, 27) := ⟨⟨by decide +kernel, by decide +kernel⟩, List.mem_of_getElem? (i := 553) (by decide +kernel), List.mem_of_getElem? (i := 702) (by decide +kernel), List.mem_of_getElem? (i := 703) (by decide +kernel)⟩
theorem lw_p39 : lw_okq (⟨"UpdateDeskModel", "named", "(III)I"⟩, 27) := ⟨⟨by decide +kernel, by decide +kernel⟩, List.mem_of_getElem? (i := 553) (by decide +kernel), List.mem_of_getElem? (i := 706) (by decide +kernel), List.mem_of_getElem? (i := 707) (by decide +kernel)⟩
theorem lw_p40 : lw_okq (⟨"UpdateDeskModel", "isAlike", "(IIII)Z"⟩, 27) := ⟨⟨by decide +kernel, by decide +kernel⟩, List.mem_of_getElem? (i := 553) (by decide +kernel), List.mem_of_getElem? (i := 710) (by decide +kernel), List.mem_of_getElem? (i := 711) (by decide +kernel)⟩
theorem lw_p41 : lw_okq (⟨"UpdateDeskModel", "append", "(II)V"⟩, 27) := ⟨⟨by decide +kernel, by decide +kernel⟩, List.mem_of_getElem? (i := 553) (by decide +kernel), List.mem_of_getElem? (i := 714) (by decide +kernel), List.mem_of_getElem? (i := 715) (by decide +kernel)⟩
theorem lw_p42 : lw_okq (⟨"UpdateDeskModel", "value", "(III)I"⟩, 27) := ⟨⟨by decide +kernel, by decide +kernel⟩, List.mem_of_getElem? (i := 553) (by decide +kernel), List.mem_of_getElem? (i := 718) (by decide +kernel), List.mem_of_getElem? (i := 719) (by decide +kernel)⟩
theorem lw_p43 : lw_okq (⟨"UpdateDeskModel", "look", "(I)I"⟩, 27) := ⟨⟨by decide +kernel, by decide +kernel⟩, List.mem_of_getElem? (i := 553) (by decide +kernel), List.mem_of_getElem? (i := 728) (by decide +kernel), List.mem_of_getElem? (i := 729) (by decide +kernel)⟩
theorem lw_p44 : lw_okq (⟨"UpdateDeskModel", "operator", "(I)I"⟩, 27) := ⟨⟨by decide +kernel, by decide +kernel⟩, List.mem_of_getElem? (i := 553) (by decide +kernel), List.mem_of_getElem? (i := 732) (by decide +kernel), List.mem_of_getElem? (i := 733) (by decide +kernel)⟩
theorem lw_p45 : lw_okq (⟨"UpdateDeskModel", "isNamed", "(IIIIII)Z"⟩, 27) := ⟨⟨by decide +kernel, by decide +kernel⟩, List.mem_of_getElem? (i := 553) (by decide +kernel), List.mem_of_getElem? (i := 736) (by decide +kernel), List.mem_of_getElem? (i := 737) (by decide +kernel)⟩
theorem lw_p46 : lw_okq (⟨"UpdateDeskModel", "isAdd", "(I)Z"⟩, 27) := ⟨⟨by decide +kernel, by decide +kernel⟩, List.mem_of_getElem? (i := 553) (by decide +kernel), List.mem_of_getElem? (i := 740) (by decide +kernel), List.mem_of_getElem? (i := 741) (by decide +kernel)⟩
theorem lw_p47 : lw_okq (⟨"UpdateDeskModel", "fail", "(III)I"⟩, 27) := ⟨⟨by decide +kernel, by decide +kernel⟩, List.mem_of_getElem? (i := 553) (by decide +kernel), List.mem_of_getElem? (i := 744) (by decide +kernel), List.mem_of_getElem? (i := 745) (by decide +kernel)⟩
def lw_privs_3 : List (MethodName × Nat) := [(⟨"UpdateDeskModel", "at", "(I)I"⟩, 27), (⟨"UpdateDeskModel", "make", "(I)I"⟩, 27), (⟨"UpdateDeskModel", "opens", "(IIII)Z"⟩, 27), (⟨"UpdateDeskModel", "isText", "(II)Z"⟩, 27), (⟨"UpdateDeskModel", "character", "(II)I"⟩, 27), (⟨"UpdateDeskModel", "numberAt", "(II)I"⟩, 27), (⟨"UpdateDeskModel", "countOf", "(I)I"⟩, 27), (⟨"UpdateDeskModel", "named", "(III)I"⟩, 27), (⟨"UpdateDeskModel", "isAlike", "(IIII)Z"⟩, 27), (⟨"UpdateDeskModel", "append", "(II)V"⟩, 27), (⟨"UpdateDeskModel", "value", "(III)I"⟩, 27), (⟨"UpdateDeskModel", "look", "(I)I"⟩, 27), (⟨"UpdateDeskModel", "operator", "(I)I"⟩, 27), (⟨"UpdateDeskModel", "isNamed", "(IIIIII)Z"⟩, 27), (⟨"UpdateDeskModel", "isAdd", "(I)Z"⟩, 27), (⟨"UpdateDeskModel", "fail", "(III)I"⟩, 27)]
theorem lw_r3 : ∀ q ∈ lw_privs_3, lw_okq q := List.forall_mem_cons.mpr ⟨lw_p32, List.forall_mem_cons.mpr ⟨lw_p33, List.forall_mem_cons.mpr ⟨lw_p34, List.forall_mem_cons.mpr ⟨lw_p35, List.forall_mem_cons.mpr ⟨lw_p36, List.forall_mem_cons.mpr ⟨lw_p37, List.forall_mem_cons.mpr ⟨lw_p38, List.forall_mem_cons.mpr ⟨lw_p39, List.forall_mem_cons.mpr ⟨lw_p40, List.forall_mem_cons.mpr ⟨lw_p41, List.forall_mem_cons.mpr ⟨lw_p42, List.forall_mem_cons.mpr ⟨lw_p43, List.forall_mem_cons.mpr ⟨lw_p44, List.forall_mem_cons.mpr ⟨lw_p45, List.forall_mem_cons.mpr ⟨lw_p46, List.forall_mem_cons.mpr ⟨lw_p47, fun _ h => absurd h List.not_mem_nil⟩⟩⟩⟩⟩⟩⟩⟩⟩⟩⟩⟩⟩⟩⟩⟩
theorem lw_p48 : lw_okq (⟨"UpdateDeskModel", "split", "(I)Z"⟩, 27) := ⟨⟨by decide +kernel, by decide +kernel⟩, List.mem_of_getElem? (i := 553) (by decide +kernel), List.mem_of_getElem? (i := 748) (by decide +kernel), List.mem_of_getElem? (i := 749) (by decide +kernel)⟩
theorem lw_p49 : lw_okq (⟨"UpdateDeskModel", "meetsEarlier", "(II)Z"⟩, 27) := ⟨⟨by decide +kernel, by decide +kernel⟩, List.mem_of_getElem? (i := 553) (by decide +kernel), List.mem_of_getElem? (i := 752) (by decide +kernel), List.mem_of_getElem? (i := 753) (by decide +kernel)⟩
theorem lw_p50 : lw_okq (⟨"UpdateDeskModel", "begins", "(II)Z"⟩, 27) := ⟨⟨by decide +kernel, by decide +kernel⟩, List.mem_of_getElem? (i := 553) (by decide +kernel), List.mem_of_getElem? (i := 756) (by decide +kernel), List.mem_of_getElem? (i := 757) (by decide +kernel)⟩
theorem lw_p51 : lw_okq (⟨"UpdateDeskModel", "print", "(I)V"⟩, 27) := ⟨⟨by decide +kernel, by decide +kernel⟩, List.mem_of_getElem? (i := 553) (by decide +kernel), List.mem_of_getElem? (i := 764) (by decide +kernel), List.mem_of_getElem? (i := 765) (by decide +kernel)⟩
theorem lw_p52 : lw_okq (⟨"UpdateDeskModel", "writeLow", "(JI)V"⟩, 27) := ⟨⟨by decide +kernel, by decide +kernel⟩, List.mem_of_getElem? (i := 553) (by decide +kernel), List.mem_of_getElem? (i := 768) (by decide +kernel), List.mem_of_getElem? (i := 769) (by decide +kernel)⟩
theorem lw_p53 : lw_okq (⟨"UpdateDeskModel", "write", "(I)V"⟩, 27) := ⟨⟨by decide +kernel, by decide +kernel⟩, List.mem_of_getElem? (i := 553) (by decide +kernel), List.mem_of_getElem? (i := 773) (by decide +kernel), List.mem_of_getElem? (i := 774) (by decide +kernel)⟩
theorem lw_p54 : lw_okq (⟨"UpdateDeskModel", "writeDigits", "(I)V"⟩, 27) := ⟨⟨by decide +kernel, by decide +kernel⟩, List.mem_of_getElem? (i := 553) (by decide +kernel), List.mem_of_getElem? (i := 777) (by decide +kernel), List.mem_of_getElem? (i := 778) (by decide +kernel)⟩
theorem lw_p55 : lw_okq (⟨"UpdateDeskModel", "writeBytes", "(II)V"⟩, 27) := ⟨⟨by decide +kernel, by decide +kernel⟩, List.mem_of_getElem? (i := 553) (by decide +kernel), List.mem_of_getElem? (i := 781) (by decide +kernel), List.mem_of_getElem? (i := 782) (by decide +kernel)⟩
theorem lw_p56 : lw_okq (⟨"UpdateDeskModel", "writeValue", "(I)V"⟩, 27) := ⟨⟨by decide +kernel, by decide +kernel⟩, List.mem_of_getElem? (i := 553) (by decide +kernel), List.mem_of_getElem? (i := 785) (by decide +kernel), List.mem_of_getElem? (i := 786) (by decide +kernel)⟩
theorem lw_p57 : lw_okq (⟨"UpdateDeskModel", "isChanged", "()Z"⟩, 27) := ⟨⟨by decide +kernel, by decide +kernel⟩, List.mem_of_getElem? (i := 553) (by decide +kernel), List.mem_of_getElem? (i := 789) (by decide +kernel), List.mem_of_getElem? (i := 790) (by decide +kernel)⟩
theorem lw_p58 : lw_okq (⟨"UpdateDeskModel", "takes", "(IIZ)I"⟩, 27) := ⟨⟨by decide +kernel, by decide +kernel⟩, List.mem_of_getElem? (i := 553) (by decide +kernel), List.mem_of_getElem? (i := 793) (by decide +kernel), List.mem_of_getElem? (i := 794) (by decide +kernel)⟩
theorem lw_p59 : lw_okq (⟨"UpdateDeskModel", "meets", "(II)I"⟩, 27) := ⟨⟨by decide +kernel, by decide +kernel⟩, List.mem_of_getElem? (i := 553) (by decide +kernel), List.mem_of_getElem? (i := 797) (by decide +kernel), List.mem_of_getElem? (i := 798) (by decide +kernel)⟩
theorem lw_p60 : lw_okq (⟨"UpdateDeskModel", "item", "(II)I"⟩, 27) := ⟨⟨by decide +kernel, by decide +kernel⟩, List.mem_of_getElem? (i := 553) (by decide +kernel), List.mem_of_getElem? (i := 801) (by decide +kernel), List.mem_of_getElem? (i := 802) (by decide +kernel)⟩
theorem lw_p61 : lw_okq (⟨"UpdateDeskModel", "remove", "(II)V"⟩, 27) := ⟨⟨by decide +kernel, by decide +kernel⟩, List.mem_of_getElem? (i := 553) (by decide +kernel), List.mem_of_getElem? (i := 805) (by decide +kernel), List.mem_of_getElem? (i := 806) (by decide +kernel)⟩
theorem lw_p62 : lw_okq (⟨"UpdateDeskModel", "replace", "(III)V"⟩, 27) := ⟨⟨by decide +kernel, by decide +kernel⟩, List.mem_of_getElem? (i := 553) (by decide +kernel), List.mem_of_getElem? (i := 809) (by decide +kernel), List.mem_of_getElem? (i := 810) (by decide +kernel)⟩
theorem lw_p63 : lw_okq (⟨"UpdateDeskModel", "same", "(II)Z"⟩, 27) := ⟨⟨by decide +kernel, by decide +kernel⟩, List.mem_of_getElem? (i := 553) (by decide +kernel), List.mem_of_getElem? (i := 813) (by decide +kernel), List.mem_of_getElem? (i := 814) (by decide +kernel)⟩
def lw_privs_4 : List (MethodName × Nat) := [(⟨"UpdateDeskModel", "split", "(I)Z"⟩, 27), (⟨"UpdateDeskModel", "meetsEarlier", "(II)Z"⟩, 27), (⟨"UpdateDeskModel", "begins", "(II)Z"⟩, 27), (⟨"UpdateDeskModel", "print", "(I)V"⟩, 27), (⟨"UpdateDeskModel", "writeLow", "(JI)V"⟩, 27), (⟨"UpdateDeskModel", "write", "(I)V"⟩, 27), (⟨"UpdateDeskModel", "writeDigits", "(I)V"⟩, 27), (⟨"UpdateDeskModel", "writeBytes", "(II)V"⟩, 27), (⟨"UpdateDeskModel", "writeValue", "(I)V"⟩, 27), (⟨"UpdateDeskModel", "isChanged", "()Z"⟩, 27), (⟨"UpdateDeskModel", "takes", "(IIZ)I"⟩, 27), (⟨"UpdateDeskModel", "meets", "(II)I"⟩, 27), (⟨"UpdateDeskModel", "item", "(II)I"⟩, 27), (⟨"UpdateDeskModel", "remove", "(II)V"⟩, 27), (⟨"UpdateDeskModel", "replace", "(III)V"⟩, 27), (⟨"UpdateDeskModel", "same", "(II)Z"⟩, 27)]
theorem lw_r4 : ∀ q ∈ lw_privs_4, lw_okq q := List.forall_mem_cons.mpr ⟨lw_p48, List.forall_mem_cons.mpr ⟨lw_p49, List.forall_mem_cons.mpr ⟨lw_p50, List.forall_mem_cons.mpr ⟨lw_p51, List.forall_mem_cons.mpr ⟨lw_p52, List.forall_mem_cons.mpr ⟨lw_p53, List.forall_mem_cons.mpr ⟨lw_p54, List.forall_mem_cons.mpr ⟨lw_p55, List.forall_mem_cons.mpr ⟨lw_p56, List.forall_mem_cons.mpr ⟨lw_p57, List.forall_mem_cons.mpr ⟨lw_p58, List.forall_mem_cons.mpr ⟨lw_p59, List.forall_mem_cons.mpr ⟨lw_p60, List.forall_mem_cons.mpr ⟨lw_p61, List.forall_mem_cons.mpr ⟨lw_p62, List.forall_mem_cons.mpr ⟨lw_p63, fun _ h => absurd h List.not_mem_nil⟩⟩⟩⟩⟩⟩⟩⟩⟩⟩⟩⟩⟩⟩⟩⟩
theorem lw_p64 : lw_okq (⟨"UpdateDeskModel", "isOne", "(II)Z"⟩, 27) := ⟨⟨by decide +kernel, by decide +kernel⟩, List.mem_of_getElem? (i := 553) (by decide +kernel), List.mem_of_getElem? (i := 817) (by decide +kernel), List.mem_of_getElem? (i := 818) (by decide +kernel)⟩
theorem lw_p65 : lw_okq (⟨"UpdateDeskModel", "makes", "(III)I"⟩, 27) := ⟨⟨by decide +kernel, by decide +kernel⟩, List.mem_of_getElem? (i := 553) (by decide +kernel), List.mem_of_getElem? (i := 824) (by decide +kernel), List.mem_of_getElem? (i := 825) (by decide +kernel)⟩
theorem lw_p66 : lw_okq (⟨"UpdateDeskModel", "goMaking", "(I)I"⟩, 27) := ⟨⟨by decide +kernel, by decide +kernel⟩, List.mem_of_getElem? (i := 553) (by decide +kernel), List.mem_of_getElem? (i := 828) (by decide +kernel), List.mem_of_getElem? (i := 829) (by decide +kernel)⟩
theorem lw_p67 : lw_okq (⟨"UpdateDeskModel", "mayGo", "(II)Z"⟩, 27) := ⟨⟨by decide +kernel, by decide +kernel⟩, List.mem_of_getElem? (i := 553) (by decide +kernel), List.mem_of_getElem? (i := 832) (by decide +kernel), List.mem_of_getElem? (i := 833) (by decide +kernel)⟩
theorem lw_p68 : lw_okq (⟨"UpdateDeskModel", "name", "(II)V"⟩, 27) := ⟨⟨by decide +kernel, by decide +kernel⟩, List.mem_of_getElem? (i := 553) (by decide +kernel), List.mem_of_getElem? (i := 836) (by decide +kernel), List.mem_of_getElem? (i := 837) (by decide +kernel)⟩
theorem lw_p69 : lw_okq (⟨"UpdateDeskModel", "add", "(II)I"⟩, 27) := ⟨⟨by decide +kernel, by decide +kernel⟩, List.mem_of_getElem? (i := 553) (by decide +kernel), List.mem_of_getElem? (i := 843) (by decide +kernel), List.mem_of_getElem? (i := 844) (by decide +kernel)⟩
def lw_privs_5 : List (MethodName × Nat) := [(⟨"UpdateDeskModel", "isOne", "(II)Z"⟩, 27), (⟨"UpdateDeskModel", "makes", "(III)I"⟩, 27), (⟨"UpdateDeskModel", "goMaking", "(I)I"⟩, 27), (⟨"UpdateDeskModel", "mayGo", "(II)Z"⟩, 27), (⟨"UpdateDeskModel", "name", "(II)V"⟩, 27), (⟨"UpdateDeskModel", "add", "(II)I"⟩, 27)]
theorem lw_r5 : ∀ q ∈ lw_privs_5, lw_okq q := List.forall_mem_cons.mpr ⟨lw_p64, List.forall_mem_cons.mpr ⟨lw_p65, List.forall_mem_cons.mpr ⟨lw_p66, List.forall_mem_cons.mpr ⟨lw_p67, List.forall_mem_cons.mpr ⟨lw_p68, List.forall_mem_cons.mpr ⟨lw_p69, fun _ h => absurd h List.not_mem_nil⟩⟩⟩⟩⟩⟩
def lw_privs : List (MethodName × Nat) := lw_privs_1 ++ (lw_privs_2 ++ (lw_privs_3 ++ (lw_privs_4 ++ (lw_privs_5))))
def lw_tbl : List Cond := k2_sels lw_privs ++ tables_1
theorem lw_privs_ok : ∀ q ∈ lw_privs, lw_okq q := by
  show ∀ q ∈ lw_privs_1 ++ (lw_privs_2 ++ (lw_privs_3 ++ (lw_privs_4 ++ (lw_privs_5)))), lw_okq q
  exact List.forall_mem_append.mpr ⟨lw_r1, List.forall_mem_append.mpr ⟨lw_r2, List.forall_mem_append.mpr ⟨lw_r3, List.forall_mem_append.mpr ⟨lw_r4, lw_r5⟩⟩⟩⟩
-- ===== end of PART A; then your names; then what follows =====
end
section
/-! names: field tables of the six kinds of cells, the methods; printed by wip/whole/mk_names.py -/
abbrev sm_M : Type := MethodName × ByteArray × Nat × Option FieldType
def sm_R0 : String := "UpdateDesk$Bytes"
def sm_F0 : u_T := fun k => match k with
  | 0 => ("UpdateDesk$Bytes", "data", "[B", true)
  | _ => ("UpdateDesk$Bytes", "length", "I", false)
def sm_t0 : Nat → FieldType := fun k => match k with
  | 0 => .array .byte
  | _ => .int
theorem sm_nm0 : ∀ a, a < 2 → ∀ b, b < 2 → a ≠ b → (sm_F0 a).2.1 ≠ (sm_F0 b).2.1 := by decide +kernel
theorem sm_ty0 : ∀ k, k < 2 → parseFieldDescriptor (sm_F0 k).2.2.1 = some (sm_t0 k) := by decide +kernel
def sm_R1 : String := "UpdateDesk$Checker"
def sm_F1 : u_T := fun k => match k with
  | 0 => ("UpdateDesk$Checker", "names", "[I", true)
  | 1 => ("UpdateDesk$Checker", "digits", "LUpdateDesk$Bytes;", true)
  | _ => ("UpdateDesk$Checker", "nameCount", "I", false)
def sm_t1 : Nat → FieldType := fun k => match k with
  | 0 => .array .int
  | 1 => .object "UpdateDesk$Bytes"
  | _ => .int
theorem sm_nm1 : ∀ a, a < 3 → ∀ b, b < 3 → a ≠ b → (sm_F1 a).2.1 ≠ (sm_F1 b).2.1 := by decide +kernel
theorem sm_ty1 : ∀ k, k < 3 → parseFieldDescriptor (sm_F1 k).2.2.1 = some (sm_t1 k) := by decide +kernel
def sm_R2 : String := "UpdateDesk$Editor"
def sm_F2 : u_T := fun k => match k with
  | 0 => ("UpdateDesk$Editor", "draft", "LUpdateDesk$Bytes;", true)
  | 1 => ("UpdateDesk$Editor", "holders", "[I", true)
  | 2 => ("UpdateDesk$Editor", "emptyDocument", "LUpdateDesk$Bytes;", true)
  | 3 => ("UpdateDesk$Editor", "digits", "LUpdateDesk$Bytes;", true)
  | 4 => ("UpdateDesk$Editor", "sum", "LUpdateDesk$Bytes;", true)
  | 5 => ("UpdateDesk$Editor", "holderCount", "I", false)
  | 6 => ("UpdateDesk$Editor", "holderKind", "I", false)
  | 7 => ("UpdateDesk$Editor", "element", "I", false)
  | 8 => ("UpdateDesk$Editor", "stepFrom", "I", false)
  | 9 => ("UpdateDesk$Editor", "stepTo", "I", false)
  | 10 => ("UpdateDesk$Editor", "overfull", "Z", false)
  | _ => ("UpdateDesk$Editor", "failed", "I", false)
def sm_t2 : Nat → FieldType := fun k => match k with
  | 0 => .object "UpdateDesk$Bytes"
  | 1 => .array .int
  | 2 => .object "UpdateDesk$Bytes"
  | 3 => .object "UpdateDesk$Bytes"
  | 4 => .object "UpdateDesk$Bytes"
  | 5 => .int
  | 6 => .int
  | 7 => .int
  | 8 => .int
  | 9 => .int
  | 10 => .boolean
  | _ => .int
theorem sm_nm2 : ∀ a, a < 12 → ∀ b, b < 12 → a ≠ b → (sm_F2 a).2.1 ≠ (sm_F2 b).2.1 := by decide +kernel
theorem sm_ty2 : ∀ k, k < 12 → parseFieldDescriptor (sm_F2 k).2.2.1 = some (sm_t2 k) := by decide +kernel
def sm_R3 : String := "UpdateDesk$Plan"
def sm_F3 : u_T := fun k => match k with
  | 0 => ("UpdateDesk$Plan", "script", "LUpdateDesk$Bytes;", true)
  | 1 => ("UpdateDesk$Plan", "elements", "[I", true)
  | 2 => ("UpdateDesk$Plan", "codes", "[I", true)
  | 3 => ("UpdateDesk$Plan", "operators", "[I", true)
  | 4 => ("UpdateDesk$Plan", "numbers", "[I", true)
  | 5 => ("UpdateDesk$Plan", "count", "I", false)
  | 6 => ("UpdateDesk$Plan", "operator", "I", false)
  | _ => ("UpdateDesk$Plan", "path", "I", false)
def sm_t3 : Nat → FieldType := fun k => match k with
  | 0 => .object "UpdateDesk$Bytes"
  | 1 => .array .int
  | 2 => .array .int
  | 3 => .array .int
  | 4 => .array .int
  | 5 => .int
  | 6 => .int
  | _ => .int
theorem sm_nm3 : ∀ a, a < 8 → ∀ b, b < 8 → a ≠ b → (sm_F3 a).2.1 ≠ (sm_F3 b).2.1 := by decide +kernel
theorem sm_ty3 : ∀ k, k < 8 → parseFieldDescriptor (sm_F3 k).2.2.1 = some (sm_t3 k) := by decide +kernel
def sm_R4 : String := "UpdateDesk"
def sm_F4 : u_T := fun k => match k with
  | 0 => ("UpdateDesk", "tape", "LUpdateDesk$Bytes;", true)
  | 1 => ("UpdateDesk", "slots", "[LUpdateDesk$Bytes;", true)
  | 2 => ("UpdateDesk", "checker", "LUpdateDesk$Checker;", true)
  | 3 => ("UpdateDesk", "plan", "LUpdateDesk$Plan;", true)
  | 4 => ("UpdateDesk", "editor", "LUpdateDesk$Editor;", true)
  | 5 => ("UpdateDesk", "planned", "Z", false)
  | 6 => ("UpdateDesk", "faultOperator", "I", false)
  | _ => ("UpdateDesk", "faultPath", "I", false)
def sm_t4 : Nat → FieldType := fun k => match k with
  | 0 => .object "UpdateDesk$Bytes"
  | 1 => .array (.object "UpdateDesk$Bytes")
  | 2 => .object "UpdateDesk$Checker"
  | 3 => .object "UpdateDesk$Plan"
  | 4 => .object "UpdateDesk$Editor"
  | 5 => .boolean
  | 6 => .int
  | _ => .int
theorem sm_nm4 : ∀ a, a < 8 → ∀ b, b < 8 → a ≠ b → (sm_F4 a).2.1 ≠ (sm_F4 b).2.1 := by decide +kernel
theorem sm_ty4 : ∀ k, k < 8 → parseFieldDescriptor (sm_F4 k).2.2.1 = some (sm_t4 k) := by decide +kernel
def sm_R5 : String := "UpdateDeskModel"
def sm_F5 : u_T := fun k => match k with
  | 0 => ("UpdateDeskModel", "thrown", "I", false)
  | 1 => ("UpdateDeskModel", "store", "[B", true)
  | 2 => ("UpdateDeskModel", "taped", "I", false)
  | 3 => ("UpdateDeskModel", "has", "Z", false)
  | 4 => ("UpdateDeskModel", "faultOperator", "I", false)
  | 5 => ("UpdateDeskModel", "faultPath", "I", false)
  | 6 => ("UpdateDeskModel", "nodes", "I", false)
  | 7 => ("UpdateDeskModel", "kind", "[I", true)
  | 8 => ("UpdateDeskModel", "nameAt", "[I", true)
  | 9 => ("UpdateDeskModel", "nameSize", "[I", true)
  | 10 => ("UpdateDeskModel", "number", "[J", true)
  | 11 => ("UpdateDeskModel", "textAt", "[I", true)
  | 12 => ("UpdateDeskModel", "textSize", "[I", true)
  | 13 => ("UpdateDeskModel", "first", "[I", true)
  | 14 => ("UpdateDeskModel", "next", "[I", true)
  | 15 => ("UpdateDeskModel", "last", "[I", true)
  | 16 => ("UpdateDeskModel", "openNode", "[I", true)
  | 17 => ("UpdateDeskModel", "openEnd", "[I", true)
  | 18 => ("UpdateDeskModel", "openOther", "[I", true)
  | 19 => ("UpdateDeskModel", "size", "I", false)
  | 20 => ("UpdateDeskModel", "deepest", "I", false)
  | 21 => ("UpdateDeskModel", "out", "[B", true)
  | 22 => ("UpdateDeskModel", "sizeBefore", "I", false)
  | 23 => ("UpdateDeskModel", "before", "[B", true)
  | 24 => ("UpdateDeskModel", "steps", "I", false)
  | 25 => ("UpdateDeskModel", "stepAt", "[I", true)
  | _ => ("UpdateDeskModel", "stepSize", "[I", true)
def sm_t5 : Nat → FieldType := fun k => match k with
  | 0 => .int
  | 1 => .array .byte
  | 2 => .int
  | 3 => .boolean
  | 4 => .int
  | 5 => .int
  | 6 => .int
  | 7 => .array .int
  | 8 => .array .int
  | 9 => .array .int
  | 10 => .array .long
  | 11 => .array .int
  | 12 => .array .int
  | 13 => .array .int
  | 14 => .array .int
  | 15 => .array .int
  | 16 => .array .int
  | 17 => .array .int
  | 18 => .array .int
  | 19 => .int
  | 20 => .int
  | 21 => .array .byte
  | 22 => .int
  | 23 => .array .byte
  | 24 => .int
  | 25 => .array .int
  | _ => .array .int
theorem sm_nm5 : ∀ a, a < 27 → ∀ b, b < 27 → a ≠ b → (sm_F5 a).2.1 ≠ (sm_F5 b).2.1 := by decide +kernel
theorem sm_ty5 : ∀ k, k < 27 → parseFieldDescriptor (sm_F5 k).2.2.1 = some (sm_t5 k) := by decide +kernel
abbrev sm_cl : List vw_C := [(sm_R0, sm_F0, 2), (sm_R1, sm_F1, 3), (sm_R2, sm_F2, 12), (sm_R3, sm_F3, 8), (sm_R4, sm_F4, 8), (sm_R5, sm_F5, 27)]
def sm_big : List Cond := lw_tbl.filter goodWord
def sm_isN : Cond → Bool
  | .fieldLinkNest .. => true
  | .methodLinkNest .. => true
  | _ => false
def sm_nest : List Cond := lw_tbl.filter sm_isN
theorem sm_in {w : Cond} (i : Nat) (h : lw_tbl[i]? = some w) (g : goodWord w = true) : w ∈ sm_big := List.mem_filter.mpr ⟨List.mem_of_getElem? h, g⟩
theorem sm_inN {w : Cond} (i : Nat) (h : lw_tbl[i]? = some w) (g : sm_isN w = true) : w ∈ sm_nest := List.mem_filter.mpr ⟨List.mem_of_getElem? h, g⟩
def mm_D_init : sm_M := (⟨"UpdateDesk", "<init>", "()V"⟩, prog_1_method_1_code, 2, none)
def mm_B_init : sm_M := (⟨"UpdateDesk$Bytes", "<init>", "(I)V"⟩, prog_2_method_1_code, 2, none)
def mm_K_init : sm_M := (⟨"UpdateDesk$Checker", "<init>", "()V"⟩, prog_3_method_1_code, 1, none)
def mm_P_init : sm_M := (⟨"UpdateDesk$Plan", "<init>", "()V"⟩, prog_5_method_1_code, 1, none)
def mm_E_init : sm_M := (⟨"UpdateDesk$Editor", "<init>", "()V"⟩, prog_4_method_1_code, 1, none)
def mm_B_becomeEmptyDocument : sm_M := (⟨"UpdateDesk$Bytes", "becomeEmptyDocument", "()V"⟩, prog_2_method_9_code, 2, none)
def mm_B_add : sm_M := (⟨"UpdateDesk$Bytes", "add", "(I)V"⟩, prog_2_method_7_code, 2, none)
def mm_D_feed : sm_M := (⟨"UpdateDesk", "feed", "(IIIII)I"⟩, prog_1_method_2_code, 6, some .int)
def mm_B_addHighestFirst : sm_M := (⟨"UpdateDesk$Bytes", "addHighestFirst", "(I)V"⟩, prog_2_method_8_code, 3, none)
def mm_D_read : sm_M := (⟨"UpdateDesk", "read", "(II)I"⟩, prog_1_method_3_code, 5, some .int)
def mm_D_slotOf : sm_M := (⟨"UpdateDesk", "slotOf", "(I)LUpdateDesk$Bytes;"⟩, prog_1_method_10_code, 2, some (.object "UpdateDesk$Bytes"))
def mm_D_tapeHas : sm_M := (⟨"UpdateDesk", "tapeHas", "(I)Z"⟩, prog_1_method_11_code, 2, some .boolean)
def mm_K_isDocument : sm_M := (⟨"UpdateDesk$Checker", "isDocument", "(LUpdateDesk$Bytes;I)Z"⟩, prog_3_method_2_code, 3, some .boolean)
def mm_K_holderEnd : sm_M := (⟨"UpdateDesk$Checker", "holderEnd", "(LUpdateDesk$Bytes;IIII)I"⟩, prog_3_method_3_code, 11, some .int)
def mm_B_intAt : sm_M := (⟨"UpdateDesk$Bytes", "intAt", "(I)I"⟩, prog_2_method_4_code, 3, some .int)
def mm_K_isRightName : sm_M := (⟨"UpdateDesk$Checker", "isRightName", "(LUpdateDesk$Bytes;IIII)Z"⟩, prog_3_method_4_code, 8, some .boolean)
def mm_B_nameEnd : sm_M := (⟨"UpdateDesk$Bytes", "nameEnd", "(I)I"⟩, prog_2_method_16_code, 2, some .int)
def mm_B_valueStart : sm_M := (⟨"UpdateDesk$Bytes", "valueStart", "(I)I"⟩, prog_2_method_15_code, 3, some .int)
def mm_K_isRightText : sm_M := (⟨"UpdateDesk$Checker", "isRightText", "(LUpdateDesk$Bytes;II)Z"⟩, prog_3_method_8_code, 6, some .boolean)
def mm_K_characterSize : sm_M := (⟨"UpdateDesk$Checker", "characterSize", "(LUpdateDesk$Bytes;II)I"⟩, prog_3_method_9_code, 8, some .int)
def mm_B_at : sm_M := (⟨"UpdateDesk$Bytes", "at", "(I)I"⟩, prog_2_method_2_code, 2, some .int)
def mm_B_becomeDigits : sm_M := (⟨"UpdateDesk$Bytes", "becomeDigits", "(I)V"⟩, prog_2_method_11_code, 4, none)
def mm_D_sameRange : sm_M := (⟨"UpdateDesk", "sameRange", "(LUpdateDesk$Bytes;IILUpdateDesk$Bytes;II)Z"⟩, prog_1_method_18_code, 8, some .boolean)
def mm_K_isOneOf : sm_M := (⟨"UpdateDesk$Checker", "isOneOf", "(LUpdateDesk$Bytes;II)Z"⟩, prog_3_method_5_code, 5, some .boolean)
def mm_D_sameNames : sm_M := (⟨"UpdateDesk", "sameNames", "(LUpdateDesk$Bytes;ILUpdateDesk$Bytes;I)Z"⟩, prog_1_method_17_code, 6, some .boolean)
def mm_K_checkedEnd : sm_M := (⟨"UpdateDesk$Checker", "checkedEnd", "(LUpdateDesk$Bytes;III)I"⟩, prog_3_method_6_code, 8, some .int)
def mm_K_textEnd : sm_M := (⟨"UpdateDesk$Checker", "textEnd", "(LUpdateDesk$Bytes;II)I"⟩, prog_3_method_7_code, 5, some .int)
def mm_B_become : sm_M := (⟨"UpdateDesk$Bytes", "become", "(LUpdateDesk$Bytes;I)V"⟩, prog_2_method_12_code, 3, none)
def mm_B_countElements : sm_M := (⟨"UpdateDesk$Bytes", "countElements", "(I)I"⟩, prog_2_method_20_code, 5, some .int)
def mm_B_lastOf : sm_M := (⟨"UpdateDesk$Bytes", "lastOf", "(I)I"⟩, prog_2_method_19_code, 2, some .int)
def mm_B_valueEnd : sm_M := (⟨"UpdateDesk$Bytes", "valueEnd", "(I)I"⟩, prog_2_method_17_code, 3, some .int)
def mm_D_change : sm_M := (⟨"UpdateDesk", "change", "(I)I"⟩, prog_1_method_4_code, 4, some .int)
def mm_P_study : sm_M := (⟨"UpdateDesk$Plan", "study", "()I"⟩, prog_5_method_2_code, 5, some .int)
def mm_P_studyOperator : sm_M := (⟨"UpdateDesk$Plan", "studyOperator", "(I)I"⟩, prog_5_method_3_code, 8, some .int)
def mm_P_codeOf : sm_M := (⟨"UpdateDesk$Plan", "codeOf", "(I)I"⟩, prog_5_method_6_code, 3, some .int)
def mm_P_textOf : sm_M := (⟨"UpdateDesk$Plan", "textOf", "(I)Ljava/lang/String;"⟩, prog_5_method_8_code, 1, some (.object "java/lang/String"))
def mm_P_isNamed : sm_M := (⟨"UpdateDesk$Plan", "isNamed", "(ILjava/lang/String;)Z"⟩, prog_5_method_7_code, 4, some .boolean)
def mm_P_studyPath : sm_M := (⟨"UpdateDesk$Plan", "studyPath", "(II)I"⟩, prog_5_method_4_code, 4, some .int)
def mm_P_isPath : sm_M := (⟨"UpdateDesk$Plan", "isPath", "(II)Z"⟩, prog_5_method_9_code, 6, some .boolean)
def mm_D_isNumber : sm_M := (⟨"UpdateDesk", "isNumber", "(I)Z"⟩, prog_1_method_13_code, 1, some .boolean)
def mm_P_clash : sm_M := (⟨"UpdateDesk$Plan", "clash", "(II)Z"⟩, prog_5_method_10_code, 6, some .boolean)
def mm_P_enlist : sm_M := (⟨"UpdateDesk$Plan", "enlist", "(II)V"⟩, prog_5_method_5_code, 3, none)
def mm_D_apply : sm_M := (⟨"UpdateDesk", "apply", "(I)I"⟩, prog_1_method_5_code, 4, some .int)
def mm_E_perform : sm_M := (⟨"UpdateDesk$Editor", "perform", "(LUpdateDesk$Plan;)I"⟩, prog_4_method_2_code, 5, some .int)
def mm_P_elementOf : sm_M := (⟨"UpdateDesk$Plan", "elementOf", "(I)I"⟩, prog_5_method_11_code, 2, some .int)
def mm_P_codeOfPath : sm_M := (⟨"UpdateDesk$Plan", "codeOfPath", "(I)I"⟩, prog_5_method_12_code, 2, some .int)
def mm_E_performPath : sm_M := (⟨"UpdateDesk$Editor", "performPath", "(LUpdateDesk$Bytes;II)I"⟩, prog_4_method_3_code, 5, some .int)
def mm_E_reach : sm_M := (⟨"UpdateDesk$Editor", "reach", "(LUpdateDesk$Bytes;IIZ)Z"⟩, prog_4_method_4_code, 7, some .boolean)
def mm_E_enter : sm_M := (⟨"UpdateDesk$Editor", "enter", "(II)V"⟩, prog_4_method_6_code, 3, none)
def mm_E_stepEnd : sm_M := (⟨"UpdateDesk$Editor", "stepEnd", "(LUpdateDesk$Bytes;II)I"⟩, prog_4_method_5_code, 4, some .int)
def mm_E_findStep : sm_M := (⟨"UpdateDesk$Editor", "findStep", "(LUpdateDesk$Bytes;)Z"⟩, prog_4_method_8_code, 5, some .boolean)
def mm_E_holder : sm_M := (⟨"UpdateDesk$Editor", "holder", "()I"⟩, prog_4_method_7_code, 1, some .int)
def mm_E_addElement : sm_M := (⟨"UpdateDesk$Editor", "addElement", "(ILUpdateDesk$Bytes;LUpdateDesk$Bytes;II)V"⟩, prog_4_method_16_code, 7, none)
def mm_E_resize : sm_M := (⟨"UpdateDesk$Editor", "resize", "(III)Z"⟩, prog_4_method_18_code, 5, some .boolean)
def mm_B_resize : sm_M := (⟨"UpdateDesk$Bytes", "resize", "(III)Z"⟩, prog_2_method_13_code, 4, some .boolean)
def mm_B_putInt : sm_M := (⟨"UpdateDesk$Bytes", "putInt", "(II)V"⟩, prog_2_method_6_code, 4, none)
def mm_B_put : sm_M := (⟨"UpdateDesk$Bytes", "put", "(II)V"⟩, prog_2_method_3_code, 3, none)
def mm_B_write : sm_M := (⟨"UpdateDesk$Bytes", "write", "(ILUpdateDesk$Bytes;II)V"⟩, prog_2_method_14_code, 6, none)
def mm_D_isHolder : sm_M := (⟨"UpdateDesk", "isHolder", "(I)Z"⟩, prog_1_method_12_code, 1, some .boolean)
def mm_E_setValue : sm_M := (⟨"UpdateDesk$Editor", "setValue", "(LUpdateDesk$Bytes;I)I"⟩, prog_4_method_9_code, 5, some .int)
def mm_E_replaceValue : sm_M := (⟨"UpdateDesk$Editor", "replaceValue", "(ILUpdateDesk$Bytes;II)I"⟩, prog_4_method_17_code, 7, some .int)
def mm_E_unsetValue : sm_M := (⟨"UpdateDesk$Editor", "unsetValue", "()I"⟩, prog_4_method_10_code, 1, some .int)
def mm_E_increase : sm_M := (⟨"UpdateDesk$Editor", "increase", "(LUpdateDesk$Bytes;I)I"⟩, prog_4_method_11_code, 11, some .int)
def mm_B_numberOf : sm_M := (⟨"UpdateDesk$Bytes", "numberOf", "(I)J"⟩, prog_2_method_18_code, 3, some .long)
def mm_B_longAt : sm_M := (⟨"UpdateDesk$Bytes", "longAt", "(I)J"⟩, prog_2_method_5_code, 2, some .long)
def mm_B_becomeNumber : sm_M := (⟨"UpdateDesk$Bytes", "becomeNumber", "(J)V"⟩, prog_2_method_10_code, 4, none)
def mm_E_addItem : sm_M := (⟨"UpdateDesk$Editor", "addItem", "(LUpdateDesk$Bytes;I)I"⟩, prog_4_method_12_code, 3, some .int)
def mm_E_pullItems : sm_M := (⟨"UpdateDesk$Editor", "pullItems", "(LUpdateDesk$Bytes;I)I"⟩, prog_4_method_14_code, 9, some .int)
def mm_D_sameValues : sm_M := (⟨"UpdateDesk", "sameValues", "(LUpdateDesk$Bytes;ILUpdateDesk$Bytes;II)Z"⟩, prog_1_method_15_code, 9, some .boolean)
def mm_D_sameHolders : sm_M := (⟨"UpdateDesk", "sameHolders", "(LUpdateDesk$Bytes;ILUpdateDesk$Bytes;II)Z"⟩, prog_1_method_16_code, 10, some .boolean)
def mm_E_moveItem : sm_M := (⟨"UpdateDesk$Editor", "moveItem", "(IIII)I"⟩, prog_4_method_15_code, 8, some .int)
def mm_E_hasItem : sm_M := (⟨"UpdateDesk$Editor", "hasItem", "(LUpdateDesk$Bytes;I)Z"⟩, prog_4_method_13_code, 7, some .boolean)
def mm_D_deepest : sm_M := (⟨"UpdateDesk", "deepest", "(LUpdateDesk$Bytes;II)I"⟩, prog_1_method_14_code, 7, some .int)
def mm_P_operatorOf : sm_M := (⟨"UpdateDesk$Plan", "operatorOf", "(I)I"⟩, prog_5_method_13_code, 2, some .int)
def mm_P_numberOf : sm_M := (⟨"UpdateDesk$Plan", "numberOf", "(I)I"⟩, prog_5_method_14_code, 2, some .int)
def mm_D_place : sm_M := (⟨"UpdateDesk", "place", "(I)I"⟩, prog_1_method_6_code, 2, some .int)
def mm_D_many : sm_M := (⟨"UpdateDesk", "many", "(II)I"⟩, prog_1_method_7_code, 4, some .int)
def mm_D_byteAt : sm_M := (⟨"UpdateDesk", "byteAt", "(II)I"⟩, prog_1_method_8_code, 4, some .int)
def mm_D_copy : sm_M := (⟨"UpdateDesk", "copy", "(II)Z"⟩, prog_1_method_9_code, 5, some .boolean)
def mm_M_init : sm_M := (⟨"UpdateDeskModel", "<init>", "()V"⟩, prog_7_method_1_code, 2, none)
def mm_M_feed : sm_M := (⟨"UpdateDeskModel", "feed", "(IIIII)I"⟩, prog_7_method_7_code, 6, some .int)
def mm_M_put : sm_M := (⟨"UpdateDeskModel", "put", "(I)V"⟩, prog_7_method_6_code, 3, none)
def mm_M_read : sm_M := (⟨"UpdateDeskModel", "read", "(II)I"⟩, prog_7_method_21_code, 4, some .int)
def mm_M_isSlot : sm_M := (⟨"UpdateDeskModel", "isSlot", "(I)Z"⟩, prog_7_method_5_code, 1, some .boolean)
def mm_M_take : sm_M := (⟨"UpdateDeskModel", "take", "(II)I"⟩, prog_7_method_20_code, 5, some .int)
def mm_M_load : sm_M := (⟨"UpdateDeskModel", "load", "(II)I"⟩, prog_7_method_19_code, 12, some .int)
def mm_M_whole : sm_M := (⟨"UpdateDeskModel", "whole", "(I)I"⟩, prog_7_method_4_code, 2, some .int)
def mm_M_at : sm_M := (⟨"UpdateDeskModel", "at", "(I)I"⟩, prog_7_method_3_code, 2, some .int)
def mm_M_make : sm_M := (⟨"UpdateDeskModel", "make", "(I)I"⟩, prog_7_method_10_code, 2, some .int)
def mm_M_opens : sm_M := (⟨"UpdateDeskModel", "opens", "(IIII)Z"⟩, prog_7_method_16_code, 6, some .boolean)
def mm_M_isKind : sm_M := (⟨"UpdateDeskModel", "isKind", "(I)Z"⟩, prog_7_method_18_code, 1, some .boolean)
def mm_M_isText : sm_M := (⟨"UpdateDeskModel", "isText", "(II)Z"⟩, prog_7_method_9_code, 5, some .boolean)
def mm_M_character : sm_M := (⟨"UpdateDeskModel", "character", "(II)I"⟩, prog_7_method_8_code, 8, some .int)
def mm_M_numberAt : sm_M := (⟨"UpdateDeskModel", "numberAt", "(II)I"⟩, prog_7_method_15_code, 5, some .int)
def mm_M_countOf : sm_M := (⟨"UpdateDeskModel", "countOf", "(I)I"⟩, prog_7_method_14_code, 4, some .int)
def mm_M_named : sm_M := (⟨"UpdateDeskModel", "named", "(III)I"⟩, prog_7_method_13_code, 6, some .int)
def mm_M_isAlike : sm_M := (⟨"UpdateDeskModel", "isAlike", "(IIII)Z"⟩, prog_7_method_12_code, 7, some .boolean)
def mm_M_append : sm_M := (⟨"UpdateDeskModel", "append", "(II)V"⟩, prog_7_method_11_code, 3, none)
def mm_M_value : sm_M := (⟨"UpdateDeskModel", "value", "(III)I"⟩, prog_7_method_17_code, 6, some .int)
def mm_M_change : sm_M := (⟨"UpdateDeskModel", "change", "(I)I"⟩, prog_7_method_39_code, 6, some .int)
def mm_M_look : sm_M := (⟨"UpdateDeskModel", "look", "(I)I"⟩, prog_7_method_38_code, 6, some .int)
def mm_M_operator : sm_M := (⟨"UpdateDeskModel", "operator", "(I)I"⟩, prog_7_method_32_code, 2, some .int)
def mm_M_isNamed : sm_M := (⟨"UpdateDeskModel", "isNamed", "(IIIIII)Z"⟩, prog_7_method_31_code, 10, some .boolean)
def mm_M_isAdd : sm_M := (⟨"UpdateDeskModel", "isAdd", "(I)Z"⟩, prog_7_method_33_code, 3, some .boolean)
def mm_M_fail : sm_M := (⟨"UpdateDeskModel", "fail", "(III)I"⟩, prog_7_method_37_code, 4, some .int)
def mm_M_split : sm_M := (⟨"UpdateDeskModel", "split", "(I)Z"⟩, prog_7_method_34_code, 7, some .boolean)
def mm_M_meetsEarlier : sm_M := (⟨"UpdateDeskModel", "meetsEarlier", "(II)Z"⟩, prog_7_method_36_code, 5, some .boolean)
def mm_M_begins : sm_M := (⟨"UpdateDeskModel", "begins", "(II)Z"⟩, prog_7_method_35_code, 3, some .boolean)
def mm_M_apply : sm_M := (⟨"UpdateDeskModel", "apply", "(I)I"⟩, prog_7_method_52_code, 12, some .int)
def mm_M_print : sm_M := (⟨"UpdateDeskModel", "print", "(I)V"⟩, prog_7_method_26_code, 9, none)
def mm_M_writeLow : sm_M := (⟨"UpdateDeskModel", "writeLow", "(JI)V"⟩, prog_7_method_23_code, 5, none)
def mm_M_write : sm_M := (⟨"UpdateDeskModel", "write", "(I)V"⟩, prog_7_method_22_code, 2, none)
def mm_M_writeDigits : sm_M := (⟨"UpdateDeskModel", "writeDigits", "(I)V"⟩, prog_7_method_24_code, 3, none)
def mm_M_writeBytes : sm_M := (⟨"UpdateDeskModel", "writeBytes", "(II)V"⟩, prog_7_method_25_code, 4, none)
def mm_M_writeValue : sm_M := (⟨"UpdateDeskModel", "writeValue", "(I)V"⟩, prog_7_method_27_code, 3, none)
def mm_M_isChanged : sm_M := (⟨"UpdateDeskModel", "isChanged", "()Z"⟩, prog_7_method_51_code, 3, some .boolean)
def mm_M_takes : sm_M := (⟨"UpdateDeskModel", "takes", "(IIZ)I"⟩, prog_7_method_50_code, 8, some .int)
def mm_M_meets : sm_M := (⟨"UpdateDeskModel", "meets", "(II)I"⟩, prog_7_method_41_code, 4, some .int)
def mm_M_item : sm_M := (⟨"UpdateDeskModel", "item", "(II)I"⟩, prog_7_method_40_code, 5, some .int)
def mm_M_remove : sm_M := (⟨"UpdateDeskModel", "remove", "(II)V"⟩, prog_7_method_46_code, 5, none)
def mm_M_replace : sm_M := (⟨"UpdateDeskModel", "replace", "(III)V"⟩, prog_7_method_45_code, 6, none)
def mm_M_same : sm_M := (⟨"UpdateDeskModel", "same", "(II)Z"⟩, prog_7_method_30_code, 7, some .boolean)
def mm_M_isOne : sm_M := (⟨"UpdateDeskModel", "isOne", "(II)Z"⟩, prog_7_method_29_code, 3, some .boolean)
def mm_M_classOf : sm_M := (⟨"UpdateDeskModel", "classOf", "(I)I"⟩, prog_7_method_28_code, 1, some .int)
def mm_M_makes : sm_M := (⟨"UpdateDeskModel", "makes", "(III)I"⟩, prog_7_method_49_code, 7, some .int)
def mm_M_goMaking : sm_M := (⟨"UpdateDeskModel", "goMaking", "(I)I"⟩, prog_7_method_44_code, 5, some .int)
def mm_M_mayGo : sm_M := (⟨"UpdateDeskModel", "mayGo", "(II)Z"⟩, prog_7_method_42_code, 4, some .boolean)
def mm_M_name : sm_M := (⟨"UpdateDeskModel", "name", "(II)V"⟩, prog_7_method_43_code, 3, none)
def mm_M_isNumber : sm_M := (⟨"UpdateDeskModel", "isNumber", "(I)Z"⟩, prog_7_method_47_code, 1, some .boolean)
def mm_M_add : sm_M := (⟨"UpdateDeskModel", "add", "(II)I"⟩, prog_7_method_48_code, 10, some .int)
def mm_M_place : sm_M := (⟨"UpdateDeskModel", "place", "(I)I"⟩, prog_7_method_53_code, 2, some .int)
def mm_M_many : sm_M := (⟨"UpdateDeskModel", "many", "(II)I"⟩, prog_7_method_54_code, 4, some .int)
def mm_M_byteAt : sm_M := (⟨"UpdateDeskModel", "byteAt", "(II)I"⟩, prog_7_method_55_code, 3, some .int)
def mm_M_copy : sm_M := (⟨"UpdateDeskModel", "copy", "(II)Z"⟩, prog_7_method_56_code, 5, some .boolean)
theorem sm_u0 : ∀ w ∈ u_ws sm_R0 sm_F0 2, w ∈ sm_big := by
  intro w hw
  obtain ⟨k, hk, rfl⟩ := List.mem_map.mp hw
  have hk := List.mem_range.mp hk
  match k, hk with
  | 0, _ => exact sm_in 106 (by decide +kernel) (by decide +kernel)
  | 1, _ => exact sm_in 108 (by decide +kernel) (by decide +kernel)
  | k + 2, hk => exact absurd hk (by omega)
theorem sm_u1 : ∀ w ∈ u_ws sm_R1 sm_F1 3, w ∈ sm_big := by
  intro w hw
  obtain ⟨k, hk, rfl⟩ := List.mem_map.mp hw
  have hk := List.mem_range.mp hk
  match k, hk with
  | 0, _ => exact sm_in 124 (by decide +kernel) (by decide +kernel)
  | 1, _ => exact sm_in 126 (by decide +kernel) (by decide +kernel)
  | 2, _ => exact sm_in 128 (by decide +kernel) (by decide +kernel)
  | k + 3, hk => exact absurd hk (by omega)
theorem sm_u2 : ∀ w ∈ u_ws sm_R2 sm_F2 12, w ∈ sm_big := by
  intro w hw
  obtain ⟨k, hk, rfl⟩ := List.mem_map.mp hw
  have hk := List.mem_range.mp hk
  match k, hk with
  | 0, _ => exact sm_in 201 (by decide +kernel) (by decide +kernel)
  | 1, _ => exact sm_in 203 (by decide +kernel) (by decide +kernel)
  | 2, _ => exact sm_in 205 (by decide +kernel) (by decide +kernel)
  | 3, _ => exact sm_in 207 (by decide +kernel) (by decide +kernel)
  | 4, _ => exact sm_in 209 (by decide +kernel) (by decide +kernel)
  | 5, _ => exact sm_in 211 (by decide +kernel) (by decide +kernel)
  | 6, _ => exact sm_in 213 (by decide +kernel) (by decide +kernel)
  | 7, _ => exact sm_in 215 (by decide +kernel) (by decide +kernel)
  | 8, _ => exact sm_in 217 (by decide +kernel) (by decide +kernel)
  | 9, _ => exact sm_in 219 (by decide +kernel) (by decide +kernel)
  | 10, _ => exact sm_in 221 (by decide +kernel) (by decide +kernel)
  | 11, _ => exact sm_in 223 (by decide +kernel) (by decide +kernel)
  | k + 12, hk => exact absurd hk (by omega)
theorem sm_u3 : ∀ w ∈ u_ws sm_R3 sm_F3 8, w ∈ sm_big := by
  intro w hw
  obtain ⟨k, hk, rfl⟩ := List.mem_map.mp hw
  have hk := List.mem_range.mp hk
  match k, hk with
  | 0, _ => exact sm_in 154 (by decide +kernel) (by decide +kernel)
  | 1, _ => exact sm_in 156 (by decide +kernel) (by decide +kernel)
  | 2, _ => exact sm_in 158 (by decide +kernel) (by decide +kernel)
  | 3, _ => exact sm_in 160 (by decide +kernel) (by decide +kernel)
  | 4, _ => exact sm_in 162 (by decide +kernel) (by decide +kernel)
  | 5, _ => exact sm_in 164 (by decide +kernel) (by decide +kernel)
  | 6, _ => exact sm_in 166 (by decide +kernel) (by decide +kernel)
  | 7, _ => exact sm_in 168 (by decide +kernel) (by decide +kernel)
  | k + 8, hk => exact absurd hk (by omega)
theorem sm_u4 : ∀ w ∈ u_ws sm_R4 sm_F4 8, w ∈ sm_big := by
  intro w hw
  obtain ⟨k, hk, rfl⟩ := List.mem_map.mp hw
  have hk := List.mem_range.mp hk
  match k, hk with
  | 0, _ => exact sm_in 235 (by decide +kernel) (by decide +kernel)
  | 1, _ => exact sm_in 237 (by decide +kernel) (by decide +kernel)
  | 2, _ => exact sm_in 239 (by decide +kernel) (by decide +kernel)
  | 3, _ => exact sm_in 241 (by decide +kernel) (by decide +kernel)
  | 4, _ => exact sm_in 243 (by decide +kernel) (by decide +kernel)
  | 5, _ => exact sm_in 245 (by decide +kernel) (by decide +kernel)
  | 6, _ => exact sm_in 247 (by decide +kernel) (by decide +kernel)
  | 7, _ => exact sm_in 249 (by decide +kernel) (by decide +kernel)
  | k + 8, hk => exact absurd hk (by omega)
theorem sm_u5 : ∀ w ∈ u_ws sm_R5 sm_F5 27, w ∈ sm_big := by
  intro w hw
  obtain ⟨k, hk, rfl⟩ := List.mem_map.mp hw
  have hk := List.mem_range.mp hk
  match k, hk with
  | 0, _ => exact sm_in 654 (by decide +kernel) (by decide +kernel)
  | 1, _ => exact sm_in 656 (by decide +kernel) (by decide +kernel)
  | 2, _ => exact sm_in 658 (by decide +kernel) (by decide +kernel)
  | 3, _ => exact sm_in 660 (by decide +kernel) (by decide +kernel)
  | 4, _ => exact sm_in 662 (by decide +kernel) (by decide +kernel)
  | 5, _ => exact sm_in 664 (by decide +kernel) (by decide +kernel)
  | 6, _ => exact sm_in 666 (by decide +kernel) (by decide +kernel)
  | 7, _ => exact sm_in 668 (by decide +kernel) (by decide +kernel)
  | 8, _ => exact sm_in 670 (by decide +kernel) (by decide +kernel)
  | 9, _ => exact sm_in 672 (by decide +kernel) (by decide +kernel)
  | 10, _ => exact sm_in 674 (by decide +kernel) (by decide +kernel)
  | 11, _ => exact sm_in 676 (by decide +kernel) (by decide +kernel)
  | 12, _ => exact sm_in 678 (by decide +kernel) (by decide +kernel)
  | 13, _ => exact sm_in 680 (by decide +kernel) (by decide +kernel)
  | 14, _ => exact sm_in 682 (by decide +kernel) (by decide +kernel)
  | 15, _ => exact sm_in 684 (by decide +kernel) (by decide +kernel)
  | 16, _ => exact sm_in 686 (by decide +kernel) (by decide +kernel)
  | 17, _ => exact sm_in 688 (by decide +kernel) (by decide +kernel)
  | 18, _ => exact sm_in 690 (by decide +kernel) (by decide +kernel)
  | 19, _ => exact sm_in 692 (by decide +kernel) (by decide +kernel)
  | 20, _ => exact sm_in 694 (by decide +kernel) (by decide +kernel)
  | 21, _ => exact sm_in 696 (by decide +kernel) (by decide +kernel)
  | 22, _ => exact sm_in 698 (by decide +kernel) (by decide +kernel)
  | 23, _ => exact sm_in 700 (by decide +kernel) (by decide +kernel)
  | 24, _ => exact sm_in 702 (by decide +kernel) (by decide +kernel)
  | 25, _ => exact sm_in 704 (by decide +kernel) (by decide +kernel)
  | 26, _ => exact sm_in 706 (by decide +kernel) (by decide +kernel)
  | k + 27, hk => exact absurd hk (by omega)
end
section
/-! A judgement over plain data: the cells of a run are a list, a reference is a place in it (a text constant: retAddr of its number). sm_W: from this place of a method's code the machine comes to the method's return, and Q holds of answer and cells. No cell is made here. -/
abbrev sm_E : Type := (Nat × vp_A) ⊕ (Nat × List Value)
abbrev sm_H : Type := List sm_E
/-- where cells lie, texts, their bytes; class numbers and slots; array classes -/
abbrev sm_G : Type := (Nat → Nat) × (Nat → Nat) × (Nat → Nat) × va_G × (Nat → ClassId)
def sm_v (G : sm_G) : Value → Value
  | .ref k => .ref (G.1 k)
  | .retAddr k => .ref (G.2.1 k)
  | .int x => .int x
  | .long x => .long x
  | .float x => .float x
  | .double x => .double x
  | .null => .null
def sm_o (G : sm_G) (f : Nat → Option Nat) : Nat → Option Nat := fun j => (f j).map G.1
def sm_a (G : sm_G) : vp_A → vp_A
  | (n, .inl f) => (n, .inl f)
  | (n, .inr (.inl f)) => (n, .inr (.inl f))
  | (n, .inr (.inr (.inl f))) => (n, .inr (.inr (.inl f)))
  | (n, .inr (.inr (.inr (.inl f)))) => (n, .inr (.inr (.inr (.inl f))))
  | (n, .inr (.inr (.inr (.inr f)))) => (n, .inr (.inr (.inr (.inr (sm_o G f)))))
def sm_e (G : sm_G) : sm_E → va_E
  | .inl (t, a) => .inl (G.2.2.2.2 t, sm_a G a)
  | .inr (c, fs) => .inr (c, fs.map (sm_v G))
def sm_w (G : sm_G) (h : sm_H) : va_W := h.mapIdx (fun k c => (G.1 k, sm_e G c))
def sm_A (G : sm_G) (n : Nat) : Nat → Prop := fun q => ∃ k, k < n ∧ q = G.1 k
def sm_tys (G : sm_G) : List (ClassId × FieldType) := [(G.2.2.2.2 0, .byte), (G.2.2.2.2 1, .int), (G.2.2.2.2 2, .long), (G.2.2.2.2 3, .object "UpdateDesk$Bytes")]
def sm_ws (M : sm_M) : List Cond := Cond.code M.1 M.2.1 M.2.2.1 M.2.2.2 :: sm_big
def sm_R (d : Nat) : Room := { frames := d, cells := 0, slots := 0, locals := 40 * d }
def sm_sx : List Nat := [102, 104, 106, 108, 110, 112]
def sm_st : List String := ["$set", "$unset", "$inc", "$push", "$pull", "$addToSet"]
def sm_sb : List (List Int32) := [[36, 115, 101, 116], [36, 117, 110, 115, 101, 116], [36, 105, 110, 99], [36, 112, 117, 115, 104], [36, 112, 117, 108, 108], [36, 97, 100, 100, 84, 111, 83, 101, 116]]
def sm_sl : List Nat := [4, 6, 4, 5, 5, 9]
def sm_K (G : sm_G) (n : Nat) (U : State) : Prop := va_K G.2.2.2.1 sm_cl (sm_tys G) U ∧ (∀ w ∈ sm_nest, va_Nw w U) ∧ (∀ i, i < 6 → vk_R "UpdateDesk$Plan" (sm_sx.getD i 0) (sm_st.getD i "") (G.2.1 i) U) ∧ vk_S 6 sm_sl sm_sb G.2.1 G.2.2.1 (sm_A G n) U U.heap
def sm_l (G : sm_G) (q : Nat × Value) : Nat × Value := (q.1, sm_v G q.2)
def sm_P (G : sm_G) (N : Nat) (av : List Value) (h : sm_H) : Array Value → State → Prop := va_Pc (av.map (sm_v G)) (fun U => va_P G.2.2.2.1 sm_cl (sm_w G h) U.heap ∧ va_D (sm_A G N) (sm_w G h) ∧ sm_K G N U)
def sm_Q (G : sm_G) (N : Nat) (r : Option Value) (h1 : sm_H) : Array Value → State → Outcome → State → Prop := fun _ st o t => o = .returned (r.map (sm_v G)) ∧ va_P G.2.2.2.1 sm_cl (sm_w G h1) t.heap ∧ va_F (sm_A G N) st t
/-- a method's contract at these arguments and cells: its answer and the cells behind it -/
def sm_C (N d : Nat) (M : sm_M) (av : List Value) (h : sm_H) (r : Option Value) (h1 : sm_H) : Prop := h.length = N → h1.length = N ∧ ∀ (l : Launch) (G : sm_G), Met l M.1 (sm_ws M) (sm_R d) (sm_P G N av h) (sm_Q G N r h1) 0 0 (sm_A G N)
def sm_X (G : sm_G) (N : Nat) (M : sm_M) (p : Program) (s : State) (m : MethodId) (args : Array Value) (meth : Method) (c : Code) : Prop := p.tables.exec = Jvm.exec ∧ c.code = M.2.1 ∧ meth.sig.returnType = M.2.2.2 ∧ meth.locks = false ∧ c.maxLocals = M.2.2.1 ∧ s.vm.findClass M.1.cls = some m.cls ∧ (∀ w ∈ sm_ws M, w.before args s = true) ∧ sm_K G N s
def sm_B (G : sm_G) (N : Nat) (h : sm_H) (s : State) (H : Heap) (locs : List Loc) : Prop := va_P G.2.2.2.1 sm_cl (sm_w G h) H ∧ va_D (sm_A G N) (sm_w G h) ∧ va_S (sm_A G N) s.heap H locs
def sm_S (N d : Nat) (M : sm_M) (pc : Nat) (L : List (Nat × Value)) (st : List Value) (h : sm_H) (r : Option Value) (h1 : sm_H) : Prop :=
  h.length = N → h1.length = N ∧ ∀ (l : Launch) (G : sm_G) (p : Program) (e : Env) (s : State) (m : MethodId) (args : Array Value) (below : List Frame) (meth : Method) (c : Code) (H : Heap) (locs : List Loc) (ls : Array Slot), sm_X G N M p s m args meth c → sm_B G N h s H locs → lv_has ls M.2.2.1 (L.map (sm_l G)) →
    W p l e (sm_R d) s m args below meth c H locs 0 0 (MQ below (sm_Q G N r h1) args s 0 0 (sm_A G N)) (F0 m pc ls (st.map (sm_v G)))
def sm_W (N d : Nat) (M : sm_M) (pc : Nat) (L : List (Nat × Value)) (st : List Value) (h : sm_H) (Q : Option Value → sm_H → Prop) : Prop := ∃ (r : Option Value) (h1 : sm_H), sm_S N d M pc L st h r h1 ∧ Q r h1
/-- a call's contract with what is wanted behind it -/
def sm_T (N d : Nat) (M : sm_M) (av : List Value) (h : sm_H) (Q : Option Value → sm_H → Prop) : Prop := ∃ (r : Option Value) (h1 : sm_H), sm_C N d M av h r h1 ∧ Q r h1
/-- the same of a method of an object at place b of kind ci -/
def sm_V (N d : Nat) (M : sm_M) (ci b : Nat) (av : List Value) (h : sm_H) (Q : Option Value → sm_H → Prop) : Prop := (∃ fs, h[b]? = some (.inr (ci, fs))) ∧ sm_T N d M (.ref b :: av) h Q
-- ===== reading and writing cells =====
def sm_g (h : sm_H) (a ci k : Nat) : Option Value := match h[a]? with
  | some (.inr (c, fs)) => if c = ci then fs[k]? else none
  | _ => none
def sm_p (h : sm_H) (a ci k : Nat) (v : Value) : Option sm_H := match h[a]? with
  | some (.inr (c, fs)) => if c = ci ∧ k < fs.length then some (h.set a (.inr (c, fs.set k v))) else none
  | _ => none
def sm_gi (h : sm_H) (a t : Nat) (i : Int32) : Option Int32 := match h[a]? with
  | some (.inl (t1, n, .inl f)) => if t1 = t ∧ 0 ≤ i.toInt ∧ i.toInt < n then some (f i.toNatClampNeg) else none
  | _ => none
def sm_gl (h : sm_H) (a t : Nat) (i : Int32) : Option Int64 := match h[a]? with
  | some (.inl (t1, n, .inr (.inl f))) => if t1 = t ∧ 0 ≤ i.toInt ∧ i.toInt < n then some (f i.toNatClampNeg) else none
  | _ => none
def sm_gq (h : sm_H) (a t : Nat) (i : Int32) : Option (Option Nat) := match h[a]? with
  | some (.inl (t1, n, .inr (.inr (.inr (.inr f))))) => if t1 = t ∧ 0 ≤ i.toInt ∧ i.toInt < n then some (f i.toNatClampNeg) else none
  | _ => none
def sm_n (h : sm_H) (a : Nat) : Option Int32 := match h[a]? with
  | some (.inl (t1, n, _)) => if t1 < 4 then some (Int32.ofNat n) else none
  | _ => none
def sm_pi (h : sm_H) (a : Nat) (i x : Int32) : Option sm_H := match h[a]? with
  | some (.inl (1, n, .inl f)) => if 0 ≤ i.toInt ∧ i.toInt < n then some (h.set a (.inl (1, n, .inl (upd f i.toNatClampNeg x)))) else none
  | _ => none
def sm_pb (h : sm_H) (a : Nat) (i x : Int32) : Option sm_H := match h[a]? with
  | some (.inl (0, n, .inl f)) => if 0 ≤ i.toInt ∧ i.toInt < n then some (h.set a (.inl (0, n, .inl (upd f i.toNatClampNeg (vp_nar .byte x))))) else none
  | _ => none
def sm_pl (h : sm_H) (a : Nat) (i : Int32) (x : Int64) : Option sm_H := match h[a]? with
  | some (.inl (2, n, .inr (.inl f))) => if 0 ≤ i.toInt ∧ i.toInt < n then some (h.set a (.inl (2, n, .inr (.inl (vp_updL f i.toNatClampNeg x))))) else none
  | _ => none
/-- System.arraycopy on bytes -/
def sm_cp (h : sm_H) (a : Nat) (sp : Int32) (b : Nat) (dp n : Int32) (h1 : sm_H) : Prop := ∃ (n0 n1 : Nat) (f g : Nat → Int32), h[a]? = some (.inl (0, n0, .inl f)) ∧ h[b]? = some (.inl (0, n1, .inl g)) ∧ 0 ≤ sp.toInt ∧ 0 ≤ dp.toInt ∧ 0 ≤ n.toInt ∧ sp.toInt + n.toInt ≤ n0 ∧ dp.toInt + n.toInt ≤ n1 ∧ (∀ i, i < n.toNatClampNeg → fits .byte (.int (f (sp.toNatClampNeg + i))) = true) ∧ h1 = h.set b (.inl (0, n1, .inl (va_cpy f g sp.toNatClampNeg dp.toNatClampNeg n.toNatClampNeg)))
-- ===== plain rows =====
theorem sm_v_cat (G : sm_G) (v : Value) : (sm_v G v).category = v.category := by cases v <;> rfl
theorem sm_v_rf (G : sm_G) (o : Option Nat) : sm_v G (va_rf o) = va_rf (o.map G.1) := by cases o <;> rfl
theorem sm_w_at {G : sm_G} {h : sm_H} {k : Nat} {c : sm_E} (hk : h[k]? = some c) : (sm_w G h)[k]? = some (G.1 k, sm_e G c) := by
  simp [sm_w, List.getElem?_mapIdx, hk]
theorem sm_w_set {G : sm_G} {h : sm_H} {k : Nat} {c : sm_E} : (sm_w G h).set k (G.1 k, sm_e G c) = sm_w G (h.set k c) := by
  simp [sm_w, List.mapIdx_set]
theorem sm_w_len {G : sm_G} {h : sm_H} : (sm_w G h).length = h.length := by simp [sm_w]
theorem sm_filt (G : sm_G) (L : List (Nat × Value)) (P : Nat × Value → Bool) (hP : ∀ q, P (sm_l G q) = P q) : (L.map (sm_l G)).filter P = (L.filter P).map (sm_l G) := by
  rw [List.filter_map]
  congr 2
  funext q
  exact hP q
theorem sm_vpin {i : Int32} {n : Nat} (h0 : 0 ≤ i.toInt) (h1 : i.toInt < n) : vp_in i n := vp_in_iff.mpr ⟨h0, h1⟩
theorem sm_in_code (M : sm_M) {w : Cond} (h : w ∈ sm_big) : w ∈ sm_ws M := List.mem_cons_of_mem _ h
theorem sm_big_good {w : Cond} (h : w ∈ sm_big) : (w.onTables && w.keeps) = true ∨ ∃ ty, w = .arrayClass ty := good_of_word (List.mem_filter.mp h).2
theorem sm_goodIn (M M2 : sm_M) (h : Cond.code M2.1 M2.2.1 M2.2.2.1 M2.2.2.2 ∈ sm_big) : GoodIn (sm_ws M) (sm_ws M2) := by
  intro w hw
  rcases List.mem_cons.mp hw with rfl | hw
  · exact ⟨sm_in_code M h, sm_big_good h⟩
  · exact ⟨sm_in_code M hw, sm_big_good hw⟩
theorem sm_nest_go {w : Cond} (hw : w ∈ sm_nest) {s U : State} (hW : s.WarmedH U.vm) (h : va_Nw w s) : va_Nw w U := by
  have hm := (List.mem_filter.mp hw).2
  cases w <;> first | exact va_Nw.warmF hW h | exact va_Nw.warmM hW h | (simp [sm_isN] at hm)
theorem sm_nest_same {w : Cond} (hw : w ∈ sm_nest) {s U : State} (hv : s.vm = U.vm) (h : va_Nw w s) : va_Nw w U := by
  have hm := (List.mem_filter.mp hw).2
  cases w <;> first | exact va_Nw.same rfl hv h | (simp [sm_isN] at hm)
theorem sm_K.go {G : sm_G} {N : Nat} {s U : State} (hW : s.WarmedH U.vm) (hh : ∀ q : Nat, q < s.heap.size → ¬ sm_A G N q → U.heap[q]? = s.heap[q]?) (h : sm_K G N s) : sm_K G N U :=
  ⟨va_K.moved hW.alike h.1, fun w hw => sm_nest_go hw hW (h.2.1 w hw), fun i hi => (h.2.2.1 i hi).warm hW, vk_S.kept (vk_S.moved hW.alike h.2.2.2) hh⟩
theorem sm_K.same {G : sm_G} {N : Nat} {s U : State} (hv : s.vm = U.vm) (hh : U.heap = s.heap) (h : sm_K G N s) : sm_K G N U :=
  ⟨va_K.moved (by rw [hv]; exact Vm.Alike.refl U.vm) h.1, fun w hw => sm_nest_same hw hv (h.2.1 w hw), fun i hi => (h.2.2.1 i hi).same hv.symm, by rw [hh]; exact vk_S.moved (by rw [hv]; exact Vm.Alike.refl U.vm) h.2.2.2⟩
theorem sm_blind (G : sm_G) (N : Nat) (av : List Value) (h : sm_H) : FrameBlind (sm_P G N av h) := by
  intro a U g mk q
  obtain ⟨q0, q1, q2, q3⟩ := q
  exact ⟨q0, q1, q2, sm_K.same (s := U) (U := U.calling g mk a) rfl rfl q3⟩
theorem sm_D_go {G : sm_G} {N : Nat} {h h1 : sm_H} (e : h1.length = h.length) (hD : va_D (sm_A G N) (sm_w G h)) : va_D (sm_A G N) (sm_w G h1) := by
  have key : ∀ (k : Nat) (q : Nat × va_E), (sm_w G h1)[k]? = some q → ∃ q0, (sm_w G h)[k]? = some q0 ∧ q0.1 = q.1 := by
    intro k q hk
    have hl : k < h1.length := by
      have := (List.getElem?_eq_some_iff.mp hk).1
      rwa [sm_w_len] at this
    have h2 : h[k]? = some (h[k]'(by omega)) := List.getElem?_eq_getElem (by omega)
    have h3 : h1[k]? = some (h1[k]) := List.getElem?_eq_getElem hl
    rw [sm_w_at h3] at hk
    cases hk
    exact ⟨_, sm_w_at h2, rfl⟩
  refine ⟨fun i j x y hi hj hxy => ?_, fun k q hk => ?_⟩
  · obtain ⟨x0, a1, a2⟩ := key i x hi
    obtain ⟨y0, b1, b2⟩ := key j y hj
    exact hD.1 i j x0 y0 a1 b1 (by rw [a2, b2, hxy])
  · obtain ⟨q0, a1, a2⟩ := key k q hk
    rw [← a2]
    exact hD.2 k q0 a1
section Rows
variable {N d : Nat} {M : sm_M} {pc : Nat} {L : List (Nat × Value)} {st : List Value} {h : sm_H} {Q : Option Value → sm_H → Prop}
/-- rows that touch neither cells nor the list of variables -/
theorem sm_go {n : Nat} {st2 : List Value} (hk : ∀ (l : Launch) (G : sm_G) (p : Program) (e : Env) (s : State) (m : MethodId) (args : Array Value) (below : List Frame) (meth : Method) (c : Code) (H : Heap) (locs : List Loc) (ls : Array Slot) (Z : State → Prop), sm_X G N M p s m args meth c → lv_has ls M.2.2.1 (L.map (sm_l G)) →
      W p l e (sm_R d) s m args below meth c H locs 0 0 Z (F0 m n ls (st2.map (sm_v G))) → W p l e (sm_R d) s m args below meth c H locs 0 0 Z (F0 m pc ls (st.map (sm_v G))))
    (k : sm_W N d M n L st2 h Q) : sm_W N d M pc L st h Q := by
  obtain ⟨r, h1, k, hq⟩ := k
  exact ⟨r, h1, fun e0 => ⟨(k e0).1, fun l G p e s m args below meth c H locs ls X B hl => hk l G p e s m args below meth c H locs ls _ X hl ((k e0).2 l G p e s m args below meth c H locs ls X B hl)⟩, hq⟩
/-- rows that change the list of variables -/
theorem sm_goL {n : Nat} {st2 : List Value} {L2 : List (Nat × Value)} (hk : ∀ (l : Launch) (G : sm_G) (p : Program) (e : Env) (s : State) (m : MethodId) (args : Array Value) (below : List Frame) (meth : Method) (c : Code) (H : Heap) (locs : List Loc) (ls : Array Slot) (Z : State → Prop), sm_X G N M p s m args meth c → lv_has ls M.2.2.1 (L.map (sm_l G)) →
      (∀ ls2, lv_has ls2 M.2.2.1 (L2.map (sm_l G)) → W p l e (sm_R d) s m args below meth c H locs 0 0 Z (F0 m n ls2 (st2.map (sm_v G)))) → W p l e (sm_R d) s m args below meth c H locs 0 0 Z (F0 m pc ls (st.map (sm_v G))))
    (k : sm_W N d M n L2 st2 h Q) : sm_W N d M pc L st h Q := by
  obtain ⟨r, h1, k, hq⟩ := k
  exact ⟨r, h1, fun e0 => ⟨(k e0).1, fun l G p e s m args below meth c H locs ls X B hl => hk l G p e s m args below meth c H locs ls _ X hl (fun ls2 hl2 => (k e0).2 l G p e s m args below meth c H locs ls2 X B hl2)⟩, hq⟩
theorem sm_iconst {i : Int} {x : Int32} (n : Nat) (hd : decode M.2.1 pc = .ok (.iconst i, 1)) (hx : Int32.ofInt i = x) (hp : pc + 1 = n) (k : sm_W N d M n L (.int x :: st) h Q) : sm_W N d M pc L st h Q := by
  subst hp
  exact sm_go (fun l G p e s m args below meth c H locs ls Z X hl w => lv_iconst X.1 X.2.1 hd hx w) k
theorem sm_bipush {i : Int} {x : Int32} (n : Nat) (hd : decode M.2.1 pc = .ok (.bipush i, 2)) (hx : (Int8.ofInt i).toInt32 = x) (hp : pc + 2 = n) (k : sm_W N d M n L (.int x :: st) h Q) : sm_W N d M pc L st h Q := by
  subst hp
  exact sm_go (fun l G p e s m args below meth c H locs ls Z X hl w => lv_bipush X.1 X.2.1 hd hx w) k
theorem sm_sipush {i : Int} {x : Int32} (n : Nat) (hd : decode M.2.1 pc = .ok (.sipush i, 3)) (hx : (Int16.ofInt i).toInt32 = x) (hp : pc + 3 = n) (k : sm_W N d M n L (.int x :: st) h Q) : sm_W N d M pc L st h Q := by
  subst hp
  exact sm_go (fun l G p e s m args below meth c H locs ls Z X hl w => lv_sipush X.1 X.2.1 hd hx w) k
theorem sm_lconst {i : Fin 2} {x : Int64} (n : Nat) (hd : decode M.2.1 pc = .ok (.lconst i, 1)) (hx : Int64.ofNat (i : Nat) = x) (hp : pc + 1 = n) (k : sm_W N d M n L (.long x :: st) h Q) : sm_W N d M pc L st h Q := by
  subst hp
  exact sm_go (fun l G p e s m args below meth c H locs ls Z X hl w => lv_lconst X.1 X.2.1 hd hx w) k
theorem sm_ldc {i : Nat} {x : Int32} (n : Nat) (hd : decode M.2.1 pc = .ok (.ldc i, 2)) (hc : Cond.constant M.1.cls i x ∈ sm_big) (hp : pc + 2 = n) (k : sm_W N d M n L (.int x :: st) h Q) : sm_W N d M pc L st h Q := by
  subst hp
  exact sm_go (fun l G p e s m args below meth c H locs ls Z X hl w => lv_ldc X.1 X.2.1 X.2.2.2.2.2.1 (X.2.2.2.2.2.2.1 _ (sm_in_code M hc)) hd w) k
theorem sm_ldc2 {i : Nat} {x : Int64} (n : Nat) (hd : decode M.2.1 pc = .ok (.ldc2_w i, 3)) (hc : Cond.constantLong M.1.cls i x ∈ sm_big) (hp : pc + 3 = n) (k : sm_W N d M n L (.long x :: st) h Q) : sm_W N d M pc L st h Q := by
  subst hp
  exact sm_go (fun l G p e s m args below meth c H locs ls Z X hl w => lv_ldc2 X.1 X.2.1 X.2.2.2.2.2.1 (X.2.2.2.2.2.2.1 _ (sm_in_code M hc)) hd w) k
theorem sm_ldcS {i j : Nat} (n : Nat) (hd : decode M.2.1 pc = .ok (.ldc i, 2)) (hM : M.1.cls = "UpdateDesk$Plan") (hj : j < 6) (hi : sm_sx.getD j 0 = i) (hp : pc + 2 = n) (k : sm_W N d M n L (.retAddr j :: st) h Q) : sm_W N d M pc L st h Q := by
  subst hp
  subst hi
  exact sm_go (fun l G p e s m args below meth c H locs ls Z X hl w => va_ldcS (own := "UpdateDesk$Plan") (tx := sm_st.getD j "") X.1 X.2.1 (hM ▸ X.2.2.2.2.2.1) (X.2.2.2.2.2.2.2.2.2.1 j hj) hd w) k
theorem sm_null (n : Nat) (hd : decode M.2.1 pc = .ok (.aconst_null, 1)) (hp : pc + 1 = n) (k : sm_W N d M n L (.null :: st) h Q) : sm_W N d M pc L st h Q := by
  subst hp
  exact sm_go (fun l G p e s m args below meth c H locs ls Z X hl w => lv_null X.1 X.2.1 hd w) k
end Rows
end
section
section Rows2
variable {N d : Nat} {M : sm_M} {pc : Nat} {L : List (Nat × Value)} {st : List Value} {h : sm_H} {Q : Option Value → sm_H → Prop}
theorem sm_at {G : sm_G} {ls : Array Slot} {nL : Nat} (hl : lv_has ls nL (L.map (sm_l G))) (j : Nat) {i : Nat} {v : Value} (hj : L[j]? = some (i, v)) : ls[i]? = some (.val (sm_v G v)) := lv_at hl j (by rw [List.getElem?_map, hj]; rfl)
theorem sm_f1 (G : sm_G) (i : Nat) (q : Nat × Value) : (fun q : Nat × Value => !(q.1 == i) && !(q.1 + 1 == i && q.2.category == 2)) (sm_l G q) = (fun q : Nat × Value => !(q.1 == i) && !(q.1 + 1 == i && q.2.category == 2)) q := by
  simp only [sm_l, sm_v_cat]
theorem sm_iload_n {k : Fin 4} {i : Nat} {x : Int32} (n j : Nat) (hd : decode M.2.1 pc = .ok (.iload_n k, 1)) (hi : (k : Nat) = i) (hj : L[j]? = some (i, .int x)) (hp : pc + 1 = n) (k : sm_W N d M n L (.int x :: st) h Q) : sm_W N d M pc L st h Q := by
  subst hp
  exact sm_go (fun l G p e s m args below meth c H locs ls Z X hl w => lv_iload_n X.1 X.2.1 hd hi (sm_at hl j hj) w) k
theorem sm_iload {i : Nat} {x : Int32} (n j : Nat) (hd : decode M.2.1 pc = .ok (.iload i, 2)) (hj : L[j]? = some (i, .int x)) (hp : pc + 2 = n) (k : sm_W N d M n L (.int x :: st) h Q) : sm_W N d M pc L st h Q := by
  subst hp
  exact sm_go (fun l G p e s m args below meth c H locs ls Z X hl w => lv_iload X.1 X.2.1 hd (sm_at hl j hj) w) k
theorem sm_lload_n {k : Fin 4} {i : Nat} {x : Int64} (n j : Nat) (hd : decode M.2.1 pc = .ok (.lload_n k, 1)) (hi : (k : Nat) = i) (hj : L[j]? = some (i, .long x)) (hp : pc + 1 = n) (k : sm_W N d M n L (.long x :: st) h Q) : sm_W N d M pc L st h Q := by
  subst hp
  exact sm_go (fun l G p e s m args below meth c H locs ls Z X hl w => lv_lload_n X.1 X.2.1 hd hi (sm_at hl j hj) w) k
theorem sm_lload {i : Nat} {x : Int64} (n j : Nat) (hd : decode M.2.1 pc = .ok (.lload i, 2)) (hj : L[j]? = some (i, .long x)) (hp : pc + 2 = n) (k : sm_W N d M n L (.long x :: st) h Q) : sm_W N d M pc L st h Q := by
  subst hp
  exact sm_go (fun l G p e s m args below meth c H locs ls Z X hl w => lv_lload X.1 X.2.1 hd (sm_at hl j hj) w) k
theorem sm_aload_n {k : Fin 4} {i : Nat} {x : Nat} (n j : Nat) (hd : decode M.2.1 pc = .ok (.aload_n k, 1)) (hi : (k : Nat) = i) (hj : L[j]? = some (i, .ref x)) (hp : pc + 1 = n) (k : sm_W N d M n L (.ref x :: st) h Q) : sm_W N d M pc L st h Q := by
  subst hp
  exact sm_go (fun l G p e s m args below meth c H locs ls Z X hl w => lv_aload_n X.1 X.2.1 hd hi (sm_at hl j hj) w) k
theorem sm_aload {i : Nat} {x : Nat} (n j : Nat) (hd : decode M.2.1 pc = .ok (.aload i, 2)) (hj : L[j]? = some (i, .ref x)) (hp : pc + 2 = n) (k : sm_W N d M n L (.ref x :: st) h Q) : sm_W N d M pc L st h Q := by
  subst hp
  exact sm_go (fun l G p e s m args below meth c H locs ls Z X hl w => lv_aload X.1 X.2.1 hd (sm_at hl j hj) w) k
theorem sm_aload_nQ {k : Fin 4} {i : Nat} {x : Option Nat} (n j : Nat) (hd : decode M.2.1 pc = .ok (.aload_n k, 1)) (hi : (k : Nat) = i) (hj : L[j]? = some (i, va_rf x)) (hp : pc + 1 = n) (k : sm_W N d M n L (va_rf x :: st) h Q) : sm_W N d M pc L st h Q := by
  subst hp
  refine sm_go (fun l G p e s m args below meth c H locs ls Z X hl w => ?_) k
  have hg := sm_at hl j hj
  cases x with
  | none => exact lv_aload_nN X.1 X.2.1 hd hi hg w
  | some a => exact lv_aload_n X.1 X.2.1 hd hi hg w
theorem sm_aload_nS {k : Fin 4} {i : Nat} {x : Nat} (n j : Nat) (hd : decode M.2.1 pc = .ok (.aload_n k, 1)) (hi : (k : Nat) = i) (hj : L[j]? = some (i, .retAddr x)) (hp : pc + 1 = n) (k : sm_W N d M n L (.retAddr x :: st) h Q) : sm_W N d M pc L st h Q := by
  subst hp
  exact sm_go (fun l G p e s m args below meth c H locs ls Z X hl w => lv_aload_n X.1 X.2.1 hd hi (sm_at hl j hj) w) k
theorem sm_istore_n {k : Fin 4} {i : Nat} {x : Int32} (n : Nat) (L2 : List (Nat × Value)) (hd : decode M.2.1 pc = .ok (.istore_n k, 1)) (hi : (k : Nat) = i) (hn : i < M.2.2.1) (hL : (i, Value.int x) :: L.filter (fun q : Nat × Value => !(q.1 == i) && !(q.1 + 1 == i && q.2.category == 2)) = L2) (hp : pc + 1 = n) (k : sm_W N d M n L2 st h Q) : sm_W N d M pc L (.int x :: st) h Q := by
  subst hp
  exact sm_goL (fun l G p e s m args below meth c H locs ls Z X hl w => lv_istore_n X.1 X.2.1 hd hi hl hn (by rw [← hL, List.map_cons, sm_filt G L _ (sm_f1 G i)]; rfl) w) k
theorem sm_istore {i : Nat} {x : Int32} (n : Nat) (L2 : List (Nat × Value)) (hd : decode M.2.1 pc = .ok (.istore i, 2)) (hn : i < M.2.2.1) (hL : (i, Value.int x) :: L.filter (fun q : Nat × Value => !(q.1 == i) && !(q.1 + 1 == i && q.2.category == 2)) = L2) (hp : pc + 2 = n) (k : sm_W N d M n L2 st h Q) : sm_W N d M pc L (.int x :: st) h Q := by
  subst hp
  exact sm_goL (fun l G p e s m args below meth c H locs ls Z X hl w => lv_istore X.1 X.2.1 hd hl hn (by rw [← hL, List.map_cons, sm_filt G L _ (sm_f1 G i)]; rfl) w) k
theorem sm_astore_n {k : Fin 4} {i : Nat} {x : Nat} (n : Nat) (L2 : List (Nat × Value)) (hd : decode M.2.1 pc = .ok (.astore_n k, 1)) (hi : (k : Nat) = i) (hn : i < M.2.2.1) (hL : (i, Value.ref x) :: L.filter (fun q : Nat × Value => !(q.1 == i) && !(q.1 + 1 == i && q.2.category == 2)) = L2) (hp : pc + 1 = n) (k : sm_W N d M n L2 st h Q) : sm_W N d M pc L (.ref x :: st) h Q := by
  subst hp
  exact sm_goL (fun l G p e s m args below meth c H locs ls Z X hl w => lv_astore_n X.1 X.2.1 hd hi hl hn (by rw [← hL, List.map_cons, sm_filt G L _ (sm_f1 G i)]; rfl) w) k
theorem sm_astore {i : Nat} {x : Nat} (n : Nat) (L2 : List (Nat × Value)) (hd : decode M.2.1 pc = .ok (.astore i, 2)) (hn : i < M.2.2.1) (hL : (i, Value.ref x) :: L.filter (fun q : Nat × Value => !(q.1 == i) && !(q.1 + 1 == i && q.2.category == 2)) = L2) (hp : pc + 2 = n) (k : sm_W N d M n L2 st h Q) : sm_W N d M pc L (.ref x :: st) h Q := by
  subst hp
  exact sm_goL (fun l G p e s m args below meth c H locs ls Z X hl w => lv_astore X.1 X.2.1 hd hl hn (by rw [← hL, List.map_cons, sm_filt G L _ (sm_f1 G i)]; rfl) w) k
theorem sm_astore_nQ {k : Fin 4} {i : Nat} {x : Option Nat} (n : Nat) (L2 : List (Nat × Value)) (hd : decode M.2.1 pc = .ok (.astore_n k, 1)) (hi : (k : Nat) = i) (hn : i < M.2.2.1) (hL : (i, va_rf x) :: L.filter (fun q : Nat × Value => !(q.1 == i) && !(q.1 + 1 == i && q.2.category == 2)) = L2) (hp : pc + 1 = n) (k : sm_W N d M n L2 st h Q) : sm_W N d M pc L (va_rf x :: st) h Q := by
  subst hp
  refine sm_goL (fun l G p e s m args below meth c H locs ls Z X hl w => ?_) k
  cases x with
  | none => exact lv_astore_nN X.1 X.2.1 hd hi hl hn (by rw [← hL, List.map_cons, sm_filt G L _ (sm_f1 G i)]; rfl) w
  | some a => exact lv_astore_n X.1 X.2.1 hd hi hl hn (by rw [← hL, List.map_cons, sm_filt G L _ (sm_f1 G i)]; rfl) w
theorem sm_f2 (G : sm_G) (i : Nat) (q : Nat × Value) : (fun q : Nat × Value => !(q.1 == i) && (!(q.1 == i + 1) && !(q.1 + 1 == i && q.2.category == 2))) (sm_l G q) = (fun q : Nat × Value => !(q.1 == i) && (!(q.1 == i + 1) && !(q.1 + 1 == i && q.2.category == 2))) q := by
  simp only [sm_l, sm_v_cat]
theorem sm_lstore_n {k : Fin 4} {i : Nat} {x : Int64} (n : Nat) (L2 : List (Nat × Value)) (hd : decode M.2.1 pc = .ok (.lstore_n k, 1)) (hi : (k : Nat) = i) (hn : i + 1 < M.2.2.1) (hL : (i, Value.long x) :: L.filter (fun q : Nat × Value => !(q.1 == i) && (!(q.1 == i + 1) && !(q.1 + 1 == i && q.2.category == 2))) = L2) (hp : pc + 1 = n) (k : sm_W N d M n L2 st h Q) : sm_W N d M pc L (.long x :: st) h Q := by
  subst hp
  exact sm_goL (fun l G p e s m args below meth c H locs ls Z X hl w => lv_lstore_n X.1 X.2.1 hd hi hl hn (by rw [← hL, List.map_cons, sm_filt G L _ (sm_f2 G i)]; rfl) w) k
theorem sm_lstore {i : Nat} {x : Int64} (n : Nat) (L2 : List (Nat × Value)) (hd : decode M.2.1 pc = .ok (.lstore i, 2)) (hn : i + 1 < M.2.2.1) (hL : (i, Value.long x) :: L.filter (fun q : Nat × Value => !(q.1 == i) && (!(q.1 == i + 1) && !(q.1 + 1 == i && q.2.category == 2))) = L2) (hp : pc + 2 = n) (k : sm_W N d M n L2 st h Q) : sm_W N d M pc L (.long x :: st) h Q := by
  subst hp
  exact sm_goL (fun l G p e s m args below meth c H locs ls Z X hl w => lv_lstore X.1 X.2.1 hd hl hn (by rw [← hL, List.map_cons, sm_filt G L _ (sm_f2 G i)]; rfl) w) k
theorem sm_iinc {i j : Nat} {z : Int} {x y : Int32} (n : Nat) (L2 : List (Nat × Value)) (hd : decode M.2.1 pc = .ok (.iinc i z, 3)) (hj : L[j]? = some (i, .int x)) (hy : x + Int32.ofInt z = y) (hn : i < M.2.2.1) (hL : (i, Value.int y) :: L.filter (fun q : Nat × Value => !(q.1 == i) && !(q.1 + 1 == i && q.2.category == 2)) = L2) (hp : pc + 3 = n) (k : sm_W N d M n L2 st h Q) : sm_W N d M pc L st h Q := by
  subst hp
  exact sm_goL (fun l G p e s m args below meth c H locs ls Z X hl w => lv_iinc (k := j) X.1 X.2.1 hd hl (by rw [List.getElem?_map, hj]; rfl) hy hn (by rw [← hL, List.map_cons, sm_filt G L _ (sm_f1 G i)]; rfl) w) k
theorem sm_iadd {x y : Int32} (n : Nat) (hd : decode M.2.1 pc = .ok (.iadd, 1)) (hp : pc + 1 = n) (k : sm_W N d M n L (.int (x + y) :: st) h Q) : sm_W N d M pc L (.int y :: .int x :: st) h Q := by
  subst hp
  exact sm_go (fun l G p e s m args below meth c H locs ls Z X hl w => lv_iadd X.1 X.2.1 hd w) k
theorem sm_isub {x y : Int32} (n : Nat) (hd : decode M.2.1 pc = .ok (.isub, 1)) (hp : pc + 1 = n) (k : sm_W N d M n L (.int (x - y) :: st) h Q) : sm_W N d M pc L (.int y :: .int x :: st) h Q := by
  subst hp
  exact sm_go (fun l G p e s m args below meth c H locs ls Z X hl w => lv_isub X.1 X.2.1 hd w) k
theorem sm_imul {x y : Int32} (n : Nat) (hd : decode M.2.1 pc = .ok (.imul, 1)) (hp : pc + 1 = n) (k : sm_W N d M n L (.int (x * y) :: st) h Q) : sm_W N d M pc L (.int y :: .int x :: st) h Q := by
  subst hp
  exact sm_go (fun l G p e s m args below meth c H locs ls Z X hl w => lv_imul X.1 X.2.1 hd w) k
theorem sm_iand {x y : Int32} (n : Nat) (hd : decode M.2.1 pc = .ok (.iand, 1)) (hp : pc + 1 = n) (k : sm_W N d M n L (.int (x &&& y) :: st) h Q) : sm_W N d M pc L (.int y :: .int x :: st) h Q := by
  subst hp
  exact sm_go (fun l G p e s m args below meth c H locs ls Z X hl w => lv_iand X.1 X.2.1 hd w) k
theorem sm_ior {x y : Int32} (n : Nat) (hd : decode M.2.1 pc = .ok (.ior, 1)) (hp : pc + 1 = n) (k : sm_W N d M n L (.int (x ||| y) :: st) h Q) : sm_W N d M pc L (.int y :: .int x :: st) h Q := by
  subst hp
  exact sm_go (fun l G p e s m args below meth c H locs ls Z X hl w => lv_ior X.1 X.2.1 hd w) k
theorem sm_ixor {x y : Int32} (n : Nat) (hd : decode M.2.1 pc = .ok (.ixor, 1)) (hp : pc + 1 = n) (k : sm_W N d M n L (.int (x ^^^ y) :: st) h Q) : sm_W N d M pc L (.int y :: .int x :: st) h Q := by
  subst hp
  exact sm_go (fun l G p e s m args below meth c H locs ls Z X hl w => lv_ixor X.1 X.2.1 hd w) k
theorem sm_ishl {x y : Int32} (n : Nat) (hd : decode M.2.1 pc = .ok (.ishl, 1)) (hp : pc + 1 = n) (k : sm_W N d M n L (.int (x <<< (y &&& 31)) :: st) h Q) : sm_W N d M pc L (.int y :: .int x :: st) h Q := by
  subst hp
  exact sm_go (fun l G p e s m args below meth c H locs ls Z X hl w => lv_ishl X.1 X.2.1 hd w) k
theorem sm_ishr {x y : Int32} (n : Nat) (hd : decode M.2.1 pc = .ok (.ishr, 1)) (hp : pc + 1 = n) (k : sm_W N d M n L (.int (x >>> (y &&& 31)) :: st) h Q) : sm_W N d M pc L (.int y :: .int x :: st) h Q := by
  subst hp
  exact sm_go (fun l G p e s m args below meth c H locs ls Z X hl w => lv_ishr X.1 X.2.1 hd w) k
theorem sm_idiv {x y : Int32} (n : Nat) (hd : decode M.2.1 pc = .ok (.idiv, 1)) (hne : ¬ y = 0) (hp : pc + 1 = n) (k : sm_W N d M n L (.int (x / y) :: st) h Q) : sm_W N d M pc L (.int y :: .int x :: st) h Q := by
  subst hp
  exact sm_go (fun l G p e s m args below meth c H locs ls Z X hl w => lv_idiv X.1 X.2.1 hd hne w) k
theorem sm_irem {x y : Int32} (n : Nat) (hd : decode M.2.1 pc = .ok (.irem, 1)) (hne : ¬ y = 0) (hp : pc + 1 = n) (k : sm_W N d M n L (.int (x - x / y * y) :: st) h Q) : sm_W N d M pc L (.int y :: .int x :: st) h Q := by
  subst hp
  exact sm_go (fun l G p e s m args below meth c H locs ls Z X hl w => lv_irem X.1 X.2.1 hd hne w) k
theorem sm_ineg {x : Int32} (n : Nat) (hd : decode M.2.1 pc = .ok (.ineg, 1)) (hp : pc + 1 = n) (k : sm_W N d M n L (.int (-x) :: st) h Q) : sm_W N d M pc L (.int x :: st) h Q := by
  subst hp
  exact sm_go (fun l G p e s m args below meth c H locs ls Z X hl w => lv_ineg X.1 X.2.1 hd w) k
theorem sm_ladd {x y : Int64} (n : Nat) (hd : decode M.2.1 pc = .ok (.ladd, 1)) (hp : pc + 1 = n) (k : sm_W N d M n L (.long (x + y) :: st) h Q) : sm_W N d M pc L (.long y :: .long x :: st) h Q := by
  subst hp
  exact sm_go (fun l G p e s m args below meth c H locs ls Z X hl w => lv_ladd X.1 X.2.1 hd w) k
theorem sm_lsub {x y : Int64} (n : Nat) (hd : decode M.2.1 pc = .ok (.lsub, 1)) (hp : pc + 1 = n) (k : sm_W N d M n L (.long (x - y) :: st) h Q) : sm_W N d M pc L (.long y :: .long x :: st) h Q := by
  subst hp
  exact sm_go (fun l G p e s m args below meth c H locs ls Z X hl w => lv_lsub X.1 X.2.1 hd w) k
theorem sm_lmul {x y : Int64} (n : Nat) (hd : decode M.2.1 pc = .ok (.lmul, 1)) (hp : pc + 1 = n) (k : sm_W N d M n L (.long (x * y) :: st) h Q) : sm_W N d M pc L (.long y :: .long x :: st) h Q := by
  subst hp
  exact sm_go (fun l G p e s m args below meth c H locs ls Z X hl w => lv_lmul X.1 X.2.1 hd w) k
theorem sm_land {x y : Int64} (n : Nat) (hd : decode M.2.1 pc = .ok (.land, 1)) (hp : pc + 1 = n) (k : sm_W N d M n L (.long (x &&& y) :: st) h Q) : sm_W N d M pc L (.long y :: .long x :: st) h Q := by
  subst hp
  exact sm_go (fun l G p e s m args below meth c H locs ls Z X hl w => lv_land X.1 X.2.1 hd w) k
theorem sm_lor {x y : Int64} (n : Nat) (hd : decode M.2.1 pc = .ok (.lor, 1)) (hp : pc + 1 = n) (k : sm_W N d M n L (.long (x ||| y) :: st) h Q) : sm_W N d M pc L (.long y :: .long x :: st) h Q := by
  subst hp
  exact sm_go (fun l G p e s m args below meth c H locs ls Z X hl w => lv_lor X.1 X.2.1 hd w) k
theorem sm_lxor {x y : Int64} (n : Nat) (hd : decode M.2.1 pc = .ok (.lxor, 1)) (hp : pc + 1 = n) (k : sm_W N d M n L (.long (x ^^^ y) :: st) h Q) : sm_W N d M pc L (.long y :: .long x :: st) h Q := by
  subst hp
  exact sm_go (fun l G p e s m args below meth c H locs ls Z X hl w => lv_lxor X.1 X.2.1 hd w) k
theorem sm_lshl {x : Int64} {y : Int32} (n : Nat) (hd : decode M.2.1 pc = .ok (.lshl, 1)) (hp : pc + 1 = n) (k : sm_W N d M n L (.long (x <<< (y.toInt64 &&& 63)) :: st) h Q) : sm_W N d M pc L (.int y :: .long x :: st) h Q := by
  subst hp
  exact sm_go (fun l G p e s m args below meth c H locs ls Z X hl w => lv_lshl X.1 X.2.1 hd rfl w) k
theorem sm_lshr {x : Int64} {y : Int32} (n : Nat) (hd : decode M.2.1 pc = .ok (.lshr, 1)) (hp : pc + 1 = n) (k : sm_W N d M n L (.long (x >>> (y.toInt64 &&& 63)) :: st) h Q) : sm_W N d M pc L (.int y :: .long x :: st) h Q := by
  subst hp
  exact sm_go (fun l G p e s m args below meth c H locs ls Z X hl w => lv_lshr X.1 X.2.1 hd rfl w) k
theorem sm_i2l {x : Int32} (n : Nat) (hd : decode M.2.1 pc = .ok (.i2l, 1)) (hp : pc + 1 = n) (k : sm_W N d M n L (.long (x.toInt64) :: st) h Q) : sm_W N d M pc L (.int x :: st) h Q := by
  subst hp
  exact sm_go (fun l G p e s m args below meth c H locs ls Z X hl w => lv_i2l X.1 X.2.1 hd rfl w) k
theorem sm_l2i {x : Int64} (n : Nat) (hd : decode M.2.1 pc = .ok (.l2i, 1)) (hp : pc + 1 = n) (k : sm_W N d M n L (.int (x.toInt32) :: st) h Q) : sm_W N d M pc L (.long x :: st) h Q := by
  subst hp
  exact sm_go (fun l G p e s m args below meth c H locs ls Z X hl w => lv_l2i X.1 X.2.1 hd rfl w) k
theorem sm_i2b {x : Int32} (n : Nat) (hd : decode M.2.1 pc = .ok (.i2b, 1)) (hp : pc + 1 = n) (k : sm_W N d M n L (.int (x.toInt8.toInt32) :: st) h Q) : sm_W N d M pc L (.int x :: st) h Q := by
  subst hp
  exact sm_go (fun l G p e s m args below meth c H locs ls Z X hl w => lv_i2b X.1 X.2.1 hd rfl w) k
theorem sm_lcmp {x y : Int64} (n : Nat) (hd : decode M.2.1 pc = .ok (.lcmp, 1)) (hp : pc + 1 = n) (k : sm_W N d M n L (.int (lg_cmp x y) :: st) h Q) : sm_W N d M pc L (.long y :: .long x :: st) h Q := by
  subst hp
  exact sm_go (fun l G p e s m args below meth c H locs ls Z X hl w => W.lcmp X.1 X.2.1 hd w) k
theorem sm_pop {v : Value} (n : Nat) (hd : decode M.2.1 pc = .ok (.pop, 1)) (hv : v.category = 1) (hp : pc + 1 = n) (k : sm_W N d M n L st h Q) : sm_W N d M pc L (v :: st) h Q := by
  subst hp
  exact sm_go (fun l G p e s m args below meth c H locs ls Z X hl w => lv_pop X.1 X.2.1 hd (by rw [sm_v_cat]; exact hv) w) k
theorem sm_dup {v : Value} (n : Nat) (hd : decode M.2.1 pc = .ok (.dup, 1)) (hv : v.category = 1) (hp : pc + 1 = n) (k : sm_W N d M n L (v :: v :: st) h Q) : sm_W N d M pc L (v :: st) h Q := by
  subst hp
  exact sm_go (fun l G p e s m args below meth c H locs ls Z X hl w => lv_dup X.1 X.2.1 hd (by rw [sm_v_cat]; exact hv) w) k
theorem sm_goto {off : Int} (n : Nat) (hd : decode M.2.1 pc = .ok (.goto off, 3)) (ht : (pc : Int) + off = (n : Int)) (k : sm_W N d M n L st h Q) : sm_W N d M pc L st h Q :=
  sm_go (fun l G p e s m args below meth c H locs ls Z X hl w => lv_goto X.1 X.2.1 hd ht w) k
theorem sm_goD {P : Prop} {n t : Nat} {st2 : List Value} (hk : ∀ (l : Launch) (G : sm_G) (p : Program) (e : Env) (s : State) (m : MethodId) (args : Array Value) (below : List Frame) (meth : Method) (c : Code) (H : Heap) (locs : List Loc) (ls : Array Slot) (Z : State → Prop), sm_X G N M p s m args meth c →
      (P → W p l e (sm_R d) s m args below meth c H locs 0 0 Z (F0 m t ls (st2.map (sm_v G)))) → (¬ P → W p l e (sm_R d) s m args below meth c H locs 0 0 Z (F0 m n ls (st2.map (sm_v G)))) → W p l e (sm_R d) s m args below meth c H locs 0 0 Z (F0 m pc ls (st.map (sm_v G))))
    (kt : P → sm_W N d M t L st2 h Q) (kf : ¬ P → sm_W N d M n L st2 h Q) : sm_W N d M pc L st h Q := by
  by_cases hP : P
  · obtain ⟨r, h1, k, hq⟩ := kt hP
    exact ⟨r, h1, fun e0 => ⟨(k e0).1, fun l G p e s m args below meth c H locs ls X B hl => hk l G p e s m args below meth c H locs ls _ X (fun _ => (k e0).2 l G p e s m args below meth c H locs ls X B hl) (fun q => absurd hP q)⟩, hq⟩
  · obtain ⟨r, h1, k, hq⟩ := kf hP
    exact ⟨r, h1, fun e0 => ⟨(k e0).1, fun l G p e s m args below meth c H locs ls X B hl => hk l G p e s m args below meth c H locs ls _ X (fun q => absurd q hP) (fun _ => (k e0).2 l G p e s m args below meth c H locs ls X B hl)⟩, hq⟩
theorem sm_if_eq {x : Int32} {off : Int} (n t : Nat) (hd : decode M.2.1 pc = .ok (.ifCond .eq off, 3)) (ht : (pc : Int) + off = (t : Int)) (hp : pc + 3 = n) (kt : x = 0 → sm_W N d M t L st h Q) (kf : ¬ x = 0 → sm_W N d M n L st h Q) : sm_W N d M pc L (.int x :: st) h Q := by
  subst hp
  exact sm_goD (P := x = 0) (fun l G p e s m args below meth c H locs ls Z X wt wf => lv_if_eq X.1 X.2.1 hd ht wt wf) kt kf
theorem sm_icmp_eq {x y : Int32} {off : Int} (n t : Nat) (hd : decode M.2.1 pc = .ok (.if_icmp .eq off, 3)) (ht : (pc : Int) + off = (t : Int)) (hp : pc + 3 = n) (kt : x = y → sm_W N d M t L st h Q) (kf : ¬ x = y → sm_W N d M n L st h Q) : sm_W N d M pc L (.int y :: .int x :: st) h Q := by
  subst hp
  exact sm_goD (P := x = y) (fun l G p e s m args below meth c H locs ls Z X wt wf => lv_icmp_eq X.1 X.2.1 hd ht wt wf) kt kf
theorem sm_if_lt {x : Int32} {off : Int} (n t : Nat) (hd : decode M.2.1 pc = .ok (.ifCond .lt off, 3)) (ht : (pc : Int) + off = (t : Int)) (hp : pc + 3 = n) (kt : x < 0 → sm_W N d M t L st h Q) (kf : ¬ x < 0 → sm_W N d M n L st h Q) : sm_W N d M pc L (.int x :: st) h Q := by
  subst hp
  exact sm_goD (P := x < 0) (fun l G p e s m args below meth c H locs ls Z X wt wf => lv_if_lt X.1 X.2.1 hd ht wt wf) kt kf
theorem sm_icmp_lt {x y : Int32} {off : Int} (n t : Nat) (hd : decode M.2.1 pc = .ok (.if_icmp .lt off, 3)) (ht : (pc : Int) + off = (t : Int)) (hp : pc + 3 = n) (kt : x < y → sm_W N d M t L st h Q) (kf : ¬ x < y → sm_W N d M n L st h Q) : sm_W N d M pc L (.int y :: .int x :: st) h Q := by
  subst hp
  exact sm_goD (P := x < y) (fun l G p e s m args below meth c H locs ls Z X wt wf => lv_icmp_lt X.1 X.2.1 hd ht wt wf) kt kf
theorem sm_if_ge {x : Int32} {off : Int} (n t : Nat) (hd : decode M.2.1 pc = .ok (.ifCond .ge off, 3)) (ht : (pc : Int) + off = (t : Int)) (hp : pc + 3 = n) (kt : 0 ≤ x → sm_W N d M t L st h Q) (kf : ¬ 0 ≤ x → sm_W N d M n L st h Q) : sm_W N d M pc L (.int x :: st) h Q := by
  subst hp
  exact sm_goD (P := 0 ≤ x) (fun l G p e s m args below meth c H locs ls Z X wt wf => lv_if_ge X.1 X.2.1 hd ht wt wf) kt kf
theorem sm_icmp_ge {x y : Int32} {off : Int} (n t : Nat) (hd : decode M.2.1 pc = .ok (.if_icmp .ge off, 3)) (ht : (pc : Int) + off = (t : Int)) (hp : pc + 3 = n) (kt : y ≤ x → sm_W N d M t L st h Q) (kf : ¬ y ≤ x → sm_W N d M n L st h Q) : sm_W N d M pc L (.int y :: .int x :: st) h Q := by
  subst hp
  exact sm_goD (P := y ≤ x) (fun l G p e s m args below meth c H locs ls Z X wt wf => lv_icmp_ge X.1 X.2.1 hd ht wt wf) kt kf
theorem sm_if_gt {x : Int32} {off : Int} (n t : Nat) (hd : decode M.2.1 pc = .ok (.ifCond .gt off, 3)) (ht : (pc : Int) + off = (t : Int)) (hp : pc + 3 = n) (kt : 0 < x → sm_W N d M t L st h Q) (kf : ¬ 0 < x → sm_W N d M n L st h Q) : sm_W N d M pc L (.int x :: st) h Q := by
  subst hp
  exact sm_goD (P := 0 < x) (fun l G p e s m args below meth c H locs ls Z X wt wf => lv_if_gt X.1 X.2.1 hd ht wt wf) kt kf
theorem sm_icmp_gt {x y : Int32} {off : Int} (n t : Nat) (hd : decode M.2.1 pc = .ok (.if_icmp .gt off, 3)) (ht : (pc : Int) + off = (t : Int)) (hp : pc + 3 = n) (kt : y < x → sm_W N d M t L st h Q) (kf : ¬ y < x → sm_W N d M n L st h Q) : sm_W N d M pc L (.int y :: .int x :: st) h Q := by
  subst hp
  exact sm_goD (P := y < x) (fun l G p e s m args below meth c H locs ls Z X wt wf => lv_icmp_gt X.1 X.2.1 hd ht wt wf) kt kf
theorem sm_if_le {x : Int32} {off : Int} (n t : Nat) (hd : decode M.2.1 pc = .ok (.ifCond .le off, 3)) (ht : (pc : Int) + off = (t : Int)) (hp : pc + 3 = n) (kt : x ≤ 0 → sm_W N d M t L st h Q) (kf : ¬ x ≤ 0 → sm_W N d M n L st h Q) : sm_W N d M pc L (.int x :: st) h Q := by
  subst hp
  exact sm_goD (P := x ≤ 0) (fun l G p e s m args below meth c H locs ls Z X wt wf => lv_if_le X.1 X.2.1 hd ht wt wf) kt kf
theorem sm_icmp_le {x y : Int32} {off : Int} (n t : Nat) (hd : decode M.2.1 pc = .ok (.if_icmp .le off, 3)) (ht : (pc : Int) + off = (t : Int)) (hp : pc + 3 = n) (kt : x ≤ y → sm_W N d M t L st h Q) (kf : ¬ x ≤ y → sm_W N d M n L st h Q) : sm_W N d M pc L (.int y :: .int x :: st) h Q := by
  subst hp
  exact sm_goD (P := x ≤ y) (fun l G p e s m args below meth c H locs ls Z X wt wf => lv_icmp_le X.1 X.2.1 hd ht wt wf) kt kf
theorem sm_if_ne {x : Int32} {off : Int} (n t : Nat) (hd : decode M.2.1 pc = .ok (.ifCond .ne off, 3)) (ht : (pc : Int) + off = (t : Int)) (hp : pc + 3 = n) (kt : ¬ x = 0 → sm_W N d M t L st h Q) (kf : x = 0 → sm_W N d M n L st h Q) : sm_W N d M pc L (.int x :: st) h Q := by
  subst hp
  exact sm_goD (P := x = 0) (fun l G p e s m args below meth c H locs ls Z X wt wf => lv_if_ne X.1 X.2.1 hd ht wf wt) kf kt
theorem sm_icmp_ne {x y : Int32} {off : Int} (n t : Nat) (hd : decode M.2.1 pc = .ok (.if_icmp .ne off, 3)) (ht : (pc : Int) + off = (t : Int)) (hp : pc + 3 = n) (kt : ¬ x = y → sm_W N d M t L st h Q) (kf : x = y → sm_W N d M n L st h Q) : sm_W N d M pc L (.int y :: .int x :: st) h Q := by
  subst hp
  exact sm_goD (P := x = y) (fun l G p e s m args below meth c H locs ls Z X wt wf => lv_icmp_ne X.1 X.2.1 hd ht wf wt) kf kt
theorem sm_ifnull {x : Nat} {off : Int} (n : Nat) (hd : decode M.2.1 pc = .ok (.ifnull off, 3)) (hp : pc + 3 = n) (k : sm_W N d M n L st h Q) : sm_W N d M pc L (.ref x :: st) h Q := by
  subst hp
  exact sm_go (fun l G p e s m args below meth c H locs ls Z X hl w => lv_ifnull X.1 X.2.1 hd w) k
theorem sm_ifnullN {off : Int} (n : Nat) (hd : decode M.2.1 pc = .ok (.ifnull off, 3)) (ht : (pc : Int) + off = (n : Int)) (k : sm_W N d M n L st h Q) : sm_W N d M pc L (.null :: st) h Q :=
  sm_go (fun l G p e s m args below meth c H locs ls Z X hl w => lv_ifnullN X.1 X.2.1 hd ht w) k
theorem sm_ifnonnull {x : Nat} {off : Int} (n : Nat) (hd : decode M.2.1 pc = .ok (.ifnonnull off, 3)) (ht : (pc : Int) + off = (n : Int)) (k : sm_W N d M n L st h Q) : sm_W N d M pc L (.ref x :: st) h Q :=
  sm_go (fun l G p e s m args below meth c H locs ls Z X hl w => lv_ifnonnull X.1 X.2.1 hd ht w) k
theorem sm_ifnonnullN {off : Int} (n : Nat) (hd : decode M.2.1 pc = .ok (.ifnonnull off, 3)) (hp : pc + 3 = n) (k : sm_W N d M n L st h Q) : sm_W N d M pc L (.null :: st) h Q := by
  subst hp
  exact sm_go (fun l G p e s m args below meth c H locs ls Z X hl w => lv_ifnonnullN X.1 X.2.1 hd w) k
theorem sm_tabIn {dflt lo hi : Int} {offs : Array Int} {len : Nat} {x : Int32} {off : Int} (n : Nat) (hd : decode M.2.1 pc = .ok (.tableswitch dflt lo hi offs, len)) (h1 : ¬ x.toInt < lo) (h2 : ¬ hi < x.toInt) (ho : offs[(x.toInt - lo).toNat]? = some off) (ht : (pc : Int) + off = (n : Int)) (k : sm_W N d M n L st h Q) : sm_W N d M pc L (.int x :: st) h Q :=
  sm_go (fun l G p e s m args below meth c H locs ls Z X hl w => lv_tableIn X.1 X.2.1 hd h1 h2 ho ht w) k
theorem sm_tabOut {dflt lo hi : Int} {offs : Array Int} {len : Nat} {x : Int32} (n : Nat) (hd : decode M.2.1 pc = .ok (.tableswitch dflt lo hi offs, len)) (ho : x.toInt < lo ∨ hi < x.toInt) (ht : (pc : Int) + dflt = (n : Int)) (k : sm_W N d M n L st h Q) : sm_W N d M pc L (.int x :: st) h Q :=
  sm_go (fun l G p e s m args below meth c H locs ls Z X hl w => lv_tableOut X.1 X.2.1 hd ho ht w) k
theorem sm_look {dflt : Int} {ps : Array (Int × Int)} {len : Nat} {x : Int32} {off : Int} (n : Nat) (hd : decode M.2.1 pc = .ok (.lookupswitch dflt ps, len)) (hs : (ps.toList.zip (ps.toList.drop 1)).all (fun (a, next) => a.1 < next.1) = true) (ho : Op.lookupswitch.offset ps.toList dflt x.toInt = off) (ht : (pc : Int) + off = (n : Int)) (k : sm_W N d M n L st h Q) : sm_W N d M pc L (.int x :: st) h Q :=
  sm_go (fun l G p e s m args below meth c H locs ls Z X hl w => lv_lookup X.1 X.2.1 hd hs ho ht w) k
end Rows2
end
section
/-! rows that read and write cells -/
/-- in the pool of own, idx is field k of kind ci -/
def sm_fl (own : String) (idx ci k : Nat) : Prop := ∃ (C : String) (T : u_T) (n : Nat), sm_cl[ci]? = some (C, T, n) ∧ k < n ∧ (∀ w ∈ u_ws C T n, w ∈ sm_big) ∧ (T k).1 = C ∧ (Cond.fieldLink own idx C (T k).2.1 (T k).2.2.1 ∈ sm_big ∨ ∃ host, Cond.fieldLinkNest own idx C (T k).2.1 (T k).2.2.1 host ∈ sm_nest)
/-- the same of a field that may be written with values of type ty -/
def sm_fp (own : String) (idx ci k : Nat) (ty : FieldType) : Prop := ∃ (C : String) (T : u_T) (n : Nat) (ty0 : Nat → FieldType), sm_cl[ci]? = some (C, T, n) ∧ k < n ∧ (∀ w ∈ u_ws C T n, w ∈ sm_big) ∧ (T k).1 = C ∧ (Cond.fieldLink own idx C (T k).2.1 (T k).2.2.1 ∈ sm_big ∨ ∃ host, Cond.fieldLinkNest own idx C (T k).2.1 (T k).2.2.1 host ∈ sm_nest) ∧ (∀ k, k < n → parseFieldDescriptor (T k).2.2.1 = some (ty0 k)) ∧ (∀ a, a < n → ∀ b, b < n → a ≠ b → (T a).2.1 ≠ (T b).2.1) ∧ (T k).2.2.2 = false ∧ parseFieldDescriptor (T k).2.2.1 = some ty
theorem sm_g_spec {h : sm_H} {a ci k : Nat} {v : Value} (hg : sm_g h a ci k = some v) : ∃ fs, h[a]? = some (.inr (ci, fs)) ∧ fs[k]? = some v := by
  unfold sm_g at hg
  split at hg
  · rename_i c fs e
    split at hg
    · rename_i hc
      subst hc
      exact ⟨fs, e, hg⟩
    · cases hg
  · cases hg
theorem sm_p_spec {h h1 : sm_H} {a ci k : Nat} {v : Value} (hg : sm_p h a ci k v = some h1) : ∃ fs, h[a]? = some (.inr (ci, fs)) ∧ k < fs.length ∧ h1 = h.set a (.inr (ci, fs.set k v)) := by
  unfold sm_p at hg
  split at hg
  · rename_i c fs e
    split at hg
    · rename_i hc
      obtain ⟨hc, hk⟩ := hc
      subst hc
      cases hg
      exact ⟨fs, e, hk, rfl⟩
    · cases hg
  · cases hg
theorem sm_gi_spec {h : sm_H} {a t : Nat} {i x : Int32} (hg : sm_gi h a t i = some x) : ∃ (n : Nat) (f : Nat → Int32), h[a]? = some (.inl (t, n, .inl f)) ∧ vp_in i n ∧ f i.toNatClampNeg = x := by
  unfold sm_gi at hg
  split at hg
  · rename_i t1 n f e
    split at hg
    · rename_i hc
      obtain ⟨hc, h0, h1⟩ := hc
      subst hc
      cases hg
      exact ⟨n, f, e, sm_vpin h0 h1, rfl⟩
    · cases hg
  · cases hg
theorem sm_gl_spec {h : sm_H} {a t : Nat} {i : Int32} {x : Int64} (hg : sm_gl h a t i = some x) : ∃ (n : Nat) (f : Nat → Int64), h[a]? = some (.inl (t, n, .inr (.inl f))) ∧ vp_in i n ∧ f i.toNatClampNeg = x := by
  unfold sm_gl at hg
  split at hg
  · rename_i t1 n f e
    split at hg
    · rename_i hc
      obtain ⟨hc, h0, h1⟩ := hc
      subst hc
      cases hg
      exact ⟨n, f, e, sm_vpin h0 h1, rfl⟩
    · cases hg
  · cases hg
theorem sm_gq_spec {h : sm_H} {a t : Nat} {i : Int32} {x : Option Nat} (hg : sm_gq h a t i = some x) : ∃ (n : Nat) (f : Nat → Option Nat), h[a]? = some (.inl (t, n, .inr (.inr (.inr (.inr f))))) ∧ vp_in i n ∧ f i.toNatClampNeg = x := by
  unfold sm_gq at hg
  split at hg
  · rename_i t1 n f e
    split at hg
    · rename_i hc
      obtain ⟨hc, h0, h1⟩ := hc
      subst hc
      cases hg
      exact ⟨n, f, e, sm_vpin h0 h1, rfl⟩
    · cases hg
  · cases hg
theorem sm_n_spec {h : sm_H} {a : Nat} {x : Int32} (hg : sm_n h a = some x) : ∃ (t n : Nat) (y : _), t < 4 ∧ h[a]? = some (.inl (t, n, y)) ∧ Int32.ofNat n = x := by
  unfold sm_n at hg
  split at hg
  · rename_i t1 n y e
    split at hg
    · rename_i hc
      cases hg
      exact ⟨t1, n, y, hc, e, rfl⟩
    · cases hg
  · cases hg
theorem sm_pi_spec {h h1 : sm_H} {a : Nat} {i x : Int32} (hg : sm_pi h a i x = some h1) : ∃ (n : Nat) (f : Nat → Int32), h[a]? = some (.inl (1, n, .inl f)) ∧ vp_in i n ∧ h1 = h.set a (.inl (1, n, .inl (upd f i.toNatClampNeg x))) := by
  unfold sm_pi at hg
  split at hg
  · rename_i n f e
    split at hg
    · rename_i hc
      cases hg
      exact ⟨n, f, e, sm_vpin hc.1 hc.2, rfl⟩
    · cases hg
  · cases hg
theorem sm_pb_spec {h h1 : sm_H} {a : Nat} {i x : Int32} (hg : sm_pb h a i x = some h1) : ∃ (n : Nat) (f : Nat → Int32), h[a]? = some (.inl (0, n, .inl f)) ∧ vp_in i n ∧ h1 = h.set a (.inl (0, n, .inl (upd f i.toNatClampNeg (vp_nar .byte x)))) := by
  unfold sm_pb at hg
  split at hg
  · rename_i n f e
    split at hg
    · rename_i hc
      cases hg
      exact ⟨n, f, e, sm_vpin hc.1 hc.2, rfl⟩
    · cases hg
  · cases hg
theorem sm_pl_spec {h h1 : sm_H} {a : Nat} {i : Int32} {x : Int64} (hg : sm_pl h a i x = some h1) : ∃ (n : Nat) (f : Nat → Int64), h[a]? = some (.inl (2, n, .inr (.inl f))) ∧ vp_in i n ∧ h1 = h.set a (.inl (2, n, .inr (.inl (vp_updL f i.toNatClampNeg x)))) := by
  unfold sm_pl at hg
  split at hg
  · rename_i n f e
    split at hg
    · rename_i hc
      cases hg
      exact ⟨n, f, e, sm_vpin hc.1 hc.2, rfl⟩
    · cases hg
  · cases hg
section Rows3
variable {N d : Nat} {M : sm_M} {pc : Nat} {L : List (Nat × Value)} {st : List Value} {h : sm_H} {Q : Option Value → sm_H → Prop}
/-- rows that read cells -/
theorem sm_goR {n : Nat} {st2 : List Value} (hk : ∀ (l : Launch) (G : sm_G) (p : Program) (e : Env) (s : State) (m : MethodId) (args : Array Value) (below : List Frame) (meth : Method) (c : Code) (H : Heap) (locs : List Loc) (ls : Array Slot) (Z : State → Prop), sm_X G N M p s m args meth c → sm_B G N h s H locs → lv_has ls M.2.2.1 (L.map (sm_l G)) →
      W p l e (sm_R d) s m args below meth c H locs 0 0 Z (F0 m n ls (st2.map (sm_v G))) → W p l e (sm_R d) s m args below meth c H locs 0 0 Z (F0 m pc ls (st.map (sm_v G))))
    (k : sm_W N d M n L st2 h Q) : sm_W N d M pc L st h Q := by
  obtain ⟨r, h1, k, hq⟩ := k
  exact ⟨r, h1, fun e0 => ⟨(k e0).1, fun l G p e s m args below meth c H locs ls X B hl => hk l G p e s m args below meth c H locs ls _ X B hl ((k e0).2 l G p e s m args below meth c H locs ls X B hl)⟩, hq⟩
/-- rows that write a cell -/
theorem sm_goP {n : Nat} {st2 : List Value} {h2 : sm_H} (hlen : h2.length = h.length) (hk : ∀ (l : Launch) (G : sm_G) (p : Program) (e : Env) (s : State) (m : MethodId) (args : Array Value) (below : List Frame) (meth : Method) (c : Code) (H : Heap) (locs : List Loc) (ls : Array Slot) (Z : State → Prop), sm_X G N M p s m args meth c → sm_B G N h s H locs → lv_has ls M.2.2.1 (L.map (sm_l G)) →
      (∀ (H2 : Heap) (locs2 : List Loc), sm_B G N h2 s H2 locs2 → W p l e (sm_R d) s m args below meth c H2 locs2 0 0 Z (F0 m n ls (st2.map (sm_v G)))) → W p l e (sm_R d) s m args below meth c H locs 0 0 Z (F0 m pc ls (st.map (sm_v G))))
    (k : sm_W N d M n L st2 h2 Q) : sm_W N d M pc L st h Q := by
  obtain ⟨r, h1, k, hq⟩ := k
  exact ⟨r, h1, fun e0 => ⟨(k (hlen.trans e0)).1, fun l G p e s m args below meth c H locs ls X B hl => hk l G p e s m args below meth c H locs ls _ X B hl (fun H2 locs2 B2 => (k (hlen.trans e0)).2 l G p e s m args below meth c H2 locs2 ls X B2 hl)⟩, hq⟩
theorem sm_get {idx ci k a : Nat} {v : Value} (n : Nat) (hd : decode M.2.1 pc = .ok (.getfield idx, 3)) (hf : sm_fl M.1.cls idx ci k) (hg : sm_g h a ci k = some v) (hp : pc + 3 = n) (kk : sm_W N d M n L (v :: st) h Q) : sm_W N d M pc L (.ref a :: st) h Q := by
  subst hp
  obtain ⟨fs, hc, hv⟩ := sm_g_spec hg
  obtain ⟨C, T, n, hcl, hk, hu, hT, hl⟩ := hf
  refine sm_goR (fun l G p e s m args below meth c H locs ls Z X B hls w => ?_) kk
  have hts := X.2.2.2.2.2.2.1
  have hin : ∀ w ∈ u_ws C T n, w ∈ sm_ws M := fun w hw => sm_in_code M (hu w hw)
  have hv2 : (fs.map (sm_v G))[k]? = some (sm_v G v) := by rw [List.getElem?_map, hv]; rfl
  rcases hl with hl | ⟨host, hl⟩
  · exact va_get (own := M.1.cls) (ref := C) X.1 X.2.1 hts hin X.2.2.2.2.2.1 X.2.2.2.2.2.2.2.1 B.1 a (sm_w_at hc) hcl k hk (hts _ (sm_in_code M hl)) (by rw [hT]; exact fun _ q => q) hv2 hd w
  · exact va_getN (own := M.1.cls) (ref := C) X.1 X.2.1 hts hin X.2.2.2.2.2.1 X.2.2.2.2.2.2.2.1 B.1 a (sm_w_at hc) hcl k hk (va_Nw.use rfl (X.2.2.2.2.2.2.2.2.1 _ hl)) (by rw [hT]; exact fun _ q => q) hv2 hd w
theorem sm_put {idx ci k a : Nat} {v : Value} {ty : FieldType} {h2 : sm_H} (n : Nat) (hd : decode M.2.1 pc = .ok (.putfield idx, 3)) (hf : sm_fp M.1.cls idx ci k ty) (hs : ∀ G, sm_v G v = v) (hn : narrow ty v = v) (ht : fits ty v = true) (hg : sm_p h a ci k v = some h2) (hp : pc + 3 = n) (kk : sm_W N d M n L st h2 Q) : sm_W N d M pc L (v :: .ref a :: st) h Q := by
  subst hp
  obtain ⟨fs, hc, hv, rfl⟩ := sm_p_spec hg
  obtain ⟨C, T, n, ty0, hcl, hk, hu, hT, hl, hty, hnm, hfin, hd2⟩ := hf
  refine sm_goP (List.length_set ..) (fun l G p e s m args below meth c H locs ls Z X B hls w => ?_) kk
  have hts := X.2.2.2.2.2.2.1
  have hin : ∀ w ∈ u_ws C T n, w ∈ sm_ws M := fun w hw => sm_in_code M (hu w hw)
  have hv2 : k < (fs.map (sm_v G)).length := by rw [List.length_map]; exact hv
  have he : (sm_w G h).set a (G.1 a, .inr (ci, (fs.map (sm_v G)).set k v)) = sm_w G (h.set a (.inr (ci, fs.set k v))) := by
    rw [← sm_w_set]
    simp only [sm_e, List.map_set, hs G]
  show W p l e (sm_R d) s m args below meth c H locs 0 0 Z (F0 m pc ls (sm_v G v :: .ref (G.1 a) :: st.map (sm_v G)))
  rw [hs G]
  rcases hl with hl | ⟨host, hl⟩
  · exact va_put (own := M.1.cls) (ref := C) X.1 X.2.1 hts hin ty0 hty hnm X.2.2.2.2.2.1 X.2.2.2.2.2.2.2.1 B.1 B.2.1 B.2.2 a (sm_w_at hc) hcl k hk (hts _ (sm_in_code M hl)) (by rw [hT]; exact fun _ q => q) hfin hd2 hn ht hv2 hd (fun H1 locs1 a1 a2 a3 => w H1 locs1 ⟨he ▸ a1, he ▸ a2, a3⟩)
  · exact va_putN (own := M.1.cls) (ref := C) X.1 X.2.1 hts hin ty0 hty hnm X.2.2.2.2.2.1 X.2.2.2.2.2.2.2.1 B.1 B.2.1 B.2.2 a (sm_w_at hc) hcl k hk (va_Nw.use rfl (X.2.2.2.2.2.2.2.2.1 _ hl)) (by rw [hT]; exact fun _ q => q) hfin hd2 hn ht hv2 hd (fun H1 locs1 a1 a2 a3 => w H1 locs1 ⟨he ▸ a1, he ▸ a2, a3⟩)
theorem sm_iald {a : Nat} {i x : Int32} (n : Nat) (hd : decode M.2.1 pc = .ok (.iaload, 1)) (hg : sm_gi h a 1 i = some x) (hp : pc + 1 = n) (kk : sm_W N d M n L (.int x :: st) h Q) : sm_W N d M pc L (.int i :: .ref a :: st) h Q := by
  subst hp
  obtain ⟨m0, f, hc, hin, rfl⟩ := sm_gi_spec hg
  exact sm_goR (fun l G p e s m args below meth c H locs ls Z X B hls w => va_iald X.1 X.2.1 X.2.2.2.2.2.2.2.1 B.1 a 1 (sm_w_at hc) rfl hin hd w) kk
theorem sm_bald {a : Nat} {i x : Int32} (n : Nat) (hd : decode M.2.1 pc = .ok (.baload, 1)) (hg : sm_gi h a 0 i = some x) (hp : pc + 1 = n) (kk : sm_W N d M n L (.int x :: st) h Q) : sm_W N d M pc L (.int i :: .ref a :: st) h Q := by
  subst hp
  obtain ⟨m0, f, hc, hin, rfl⟩ := sm_gi_spec hg
  exact sm_goR (fun l G p e s m args below meth c H locs ls Z X B hls w => va_bald X.1 X.2.1 X.2.2.2.2.2.2.2.1 B.1 a 0 (sm_w_at hc) rfl hin hd w) kk
theorem sm_lald {a : Nat} {i : Int32} {x : Int64} (n : Nat) (hd : decode M.2.1 pc = .ok (.laload, 1)) (hg : sm_gl h a 2 i = some x) (hp : pc + 1 = n) (kk : sm_W N d M n L (.long x :: st) h Q) : sm_W N d M pc L (.int i :: .ref a :: st) h Q := by
  subst hp
  obtain ⟨m0, f, hc, hin, rfl⟩ := sm_gl_spec hg
  exact sm_goR (fun l G p e s m args below meth c H locs ls Z X B hls w => va_lald X.1 X.2.1 X.2.2.2.2.2.2.2.1 B.1 a 2 (sm_w_at hc) rfl hin hd w) kk
theorem sm_aald {a : Nat} {i : Int32} {x : Option Nat} (n : Nat) (hd : decode M.2.1 pc = .ok (.aaload, 1)) (hg : sm_gq h a 3 i = some x) (hp : pc + 1 = n) (kk : sm_W N d M n L (va_rf x :: st) h Q) : sm_W N d M pc L (.int i :: .ref a :: st) h Q := by
  subst hp
  obtain ⟨m0, f, hc, hin, rfl⟩ := sm_gq_spec hg
  refine sm_goR (fun l G p e s m args below meth c H locs ls Z X B hls w => ?_) kk
  refine va_aldq X.1 X.2.1 X.2.2.2.2.2.2.2.1 B.1 a 3 (C := "UpdateDesk$Bytes") (f := sm_o G f) (sm_w_at hc) rfl hin hd ?_
  rw [List.map_cons, sm_v_rf] at w
  exact w
theorem sm_alen {a : Nat} {x : Int32} (n : Nat) (hd : decode M.2.1 pc = .ok (.arraylength, 1)) (hg : sm_n h a = some x) (hp : pc + 1 = n) (kk : sm_W N d M n L (.int x :: st) h Q) : sm_W N d M pc L (.ref a :: st) h Q := by
  subst hp
  obtain ⟨t, m0, y, ht, hc, rfl⟩ := sm_n_spec hg
  refine sm_goR (fun l G p e s m args below meth c H locs ls Z X B hls w => ?_) kk
  have h1 : (sm_a G (m0, y)).1 = m0 := by rcases y with y | y | y | y | y <;> rfl
  have h2 : ∃ ty, (sm_tys G)[t]? = some (G.2.2.2.2 t, ty) := by
    match t, ht with
    | 0, _ => exact ⟨_, rfl⟩
    | 1, _ => exact ⟨_, rfl⟩
    | 2, _ => exact ⟨_, rfl⟩
    | 3, _ => exact ⟨_, rfl⟩
  obtain ⟨ty, h2⟩ := h2
  exact va_alen X.1 X.2.1 X.2.2.2.2.2.2.2.1 B.1 a t (x := sm_a G (m0, y)) (sm_w_at hc) h2 (by rw [h1]) hd w
theorem sm_iast {a : Nat} {i x : Int32} {h2 : sm_H} (n : Nat) (hd : decode M.2.1 pc = .ok (.iastore, 1)) (hg : sm_pi h a i x = some h2) (hp : pc + 1 = n) (kk : sm_W N d M n L st h2 Q) : sm_W N d M pc L (.int x :: .int i :: .ref a :: st) h Q := by
  subst hp
  obtain ⟨m0, f, hc, hin, rfl⟩ := sm_pi_spec hg
  refine sm_goP (List.length_set ..) (fun l G p e s m args below meth c H locs ls Z X B hls w => ?_) kk
  have he : (sm_w G h).set a (G.1 a, .inl (G.2.2.2.2 1, m0, .inl (upd f i.toNatClampNeg x))) = sm_w G (h.set a (.inl (1, m0, .inl (upd f i.toNatClampNeg x)))) := by rw [← sm_w_set]; rfl
  exact va_iast X.1 X.2.1 X.2.2.2.2.2.2.2.1 B.1 B.2.1 B.2.2 a 1 (sm_w_at hc) rfl hin hd (fun H1 locs1 a1 a2 a3 => w H1 locs1 ⟨he ▸ a1, he ▸ a2, a3⟩)
theorem sm_bast {a : Nat} {i x : Int32} {h2 : sm_H} (n : Nat) (hd : decode M.2.1 pc = .ok (.bastore, 1)) (hg : sm_pb h a i x = some h2) (hp : pc + 1 = n) (kk : sm_W N d M n L st h2 Q) : sm_W N d M pc L (.int x :: .int i :: .ref a :: st) h Q := by
  subst hp
  obtain ⟨m0, f, hc, hin, rfl⟩ := sm_pb_spec hg
  refine sm_goP (List.length_set ..) (fun l G p e s m args below meth c H locs ls Z X B hls w => ?_) kk
  have he : (sm_w G h).set a (G.1 a, .inl (G.2.2.2.2 0, m0, .inl (upd f i.toNatClampNeg (vp_nar .byte x)))) = sm_w G (h.set a (.inl (0, m0, .inl (upd f i.toNatClampNeg (vp_nar .byte x))))) := by rw [← sm_w_set]; rfl
  exact va_bast X.1 X.2.1 X.2.2.2.2.2.2.2.1 B.1 B.2.1 B.2.2 a 0 (sm_w_at hc) rfl hin hd (fun H1 locs1 a1 a2 a3 => w H1 locs1 ⟨he ▸ a1, he ▸ a2, a3⟩)
theorem sm_last {a : Nat} {i : Int32} {x : Int64} {h2 : sm_H} (n : Nat) (hd : decode M.2.1 pc = .ok (.lastore, 1)) (hg : sm_pl h a i x = some h2) (hp : pc + 1 = n) (kk : sm_W N d M n L st h2 Q) : sm_W N d M pc L (.long x :: .int i :: .ref a :: st) h Q := by
  subst hp
  obtain ⟨m0, f, hc, hin, rfl⟩ := sm_pl_spec hg
  refine sm_goP (List.length_set ..) (fun l G p e s m args below meth c H locs ls Z X B hls w => ?_) kk
  have he : (sm_w G h).set a (G.1 a, .inl (G.2.2.2.2 2, m0, .inr (.inl (vp_updL f i.toNatClampNeg x)))) = sm_w G (h.set a (.inl (2, m0, .inr (.inl (vp_updL f i.toNatClampNeg x))))) := by rw [← sm_w_set]; rfl
  exact va_last X.1 X.2.1 X.2.2.2.2.2.2.2.1 B.1 B.2.1 B.2.2 a 2 (sm_w_at hc) rfl hin hd (fun H1 locs1 a1 a2 a3 => w H1 locs1 ⟨he ▸ a1, he ▸ a2, a3⟩)
end Rows3
end
section
/-! returns, calls, a method's contract out of its walk -/
section Rows4
variable {N d : Nat} {M : sm_M} {pc : Nat} {L : List (Nat × Value)} {st : List Value} {h : sm_H} {Q : Option Value → sm_H → Prop}
theorem sm_iret {x : Int32} (hr : M.2.2.2 = some .int) (hd : decode M.2.1 pc = .ok (.ireturn, 1)) (hq : Q (some (.int x)) h) : sm_W N d M pc L [.int x] h Q :=
  ⟨_, h, fun e0 => ⟨e0, fun l G p e s m args below meth c H locs ls X B hl => W.iret X.1 X.2.1 (X.2.2.1.trans hr) (fun t ht hW => ⟨rfl, by rw [ht]; exact B.1, B.2.2.F ht⟩) B.2.2.2.2 hd (hlocks := X.2.2.2.1)⟩, hq⟩
theorem sm_zret {x : Int32} (hr : M.2.2.2 = some .boolean) (hd : decode M.2.1 pc = .ok (.ireturn, 1)) (hx : x = 0 ∨ x = 1) (hq : Q (some (.int x)) h) : sm_W N d M pc L [.int x] h Q :=
  ⟨_, h, fun e0 => ⟨e0, fun l G p e s m args below meth c H locs ls X B hl => W.zret X.1 X.2.1 (X.2.2.1.trans hr) (by rcases hx with rfl | rfl <;> rfl) (fun t ht hW => ⟨rfl, by rw [ht]; exact B.1, B.2.2.F ht⟩) B.2.2.2.2 hd (hlocks := X.2.2.2.1)⟩, hq⟩
theorem sm_lret {x : Int64} (hr : M.2.2.2 = some .long) (hd : decode M.2.1 pc = .ok (.lreturn, 1)) (hq : Q (some (.long x)) h) : sm_W N d M pc L [.long x] h Q :=
  ⟨_, h, fun e0 => ⟨e0, fun l G p e s m args below meth c H locs ls X B hl => W.lret X.1 X.2.1 (X.2.2.1.trans hr) (fun t ht hW => ⟨rfl, by rw [ht]; exact B.1, B.2.2.F ht⟩) B.2.2.2.2 hd (hlocks := X.2.2.2.1)⟩, hq⟩
theorem sm_vret (hr : M.2.2.2 = none) (hd : decode M.2.1 pc = .ok (.return_, 1)) (hq : Q none h) : sm_W N d M pc L [] h Q :=
  ⟨_, h, fun e0 => ⟨e0, fun l G p e s m args below meth c H locs ls X B hl => W.vret X.1 X.2.1 (X.2.2.1.trans hr) (fun t ht hW => ⟨rfl, by rw [ht]; exact B.1, B.2.2.F ht⟩) B.2.2.2.2 hd (hlocks := X.2.2.2.1)⟩, hq⟩
theorem sm_aret {v : Value} {C : String} (hr : M.2.2.2 = some (.object C)) (hv : v = .null ∨ (∃ a, v = .ref a) ∨ ∃ a, v = .retAddr a) (hd : decode M.2.1 pc = .ok (.areturn, 1)) (hq : Q (some v) h) : sm_W N d M pc L [v] h Q :=
  ⟨_, h, fun e0 => ⟨e0, fun l G p e s m args below meth c H locs ls X B hl => W.aret (v := sm_v G v) X.1 X.2.1 (X.2.2.1.trans hr) (Or.inl ⟨C, rfl⟩) (by rcases hv with rfl | ⟨a, rfl⟩ | ⟨a, rfl⟩ <;> first | exact Or.inl rfl | exact Or.inr ⟨_, rfl⟩) (fun t ht hW => ⟨rfl, by rw [ht]; exact B.1, B.2.2.F ht⟩) B.2.2.2.2 hd (hlocks := X.2.2.2.1)⟩, hq⟩
theorem sm_stk (G : sm_G) (r : Option Value) (rest : List Value) : (r.map (sm_v G)).toList ++ rest.map (sm_v G) = (r.toList ++ rest).map (sm_v G) := by cases r <;> rfl
/-- a call, out of what the kit says of it -/
theorem sm_callX {dc : Nat} {M2 : sm_M} {av rest : List Value} {K : Option Value → sm_H → Prop} (n : Nat) (hp : pc + 3 = n) (hT : sm_T N dc M2 av h K)
    (hrun : ∀ (l : Launch) (G : sm_G) (p : Program) (e : Env) (s : State) (m : MethodId) (args : Array Value) (below : List Frame) (meth : Method) (c : Code) (H : Heap) (locs : List Loc) (ls : Array Slot) (r : Option Value) (h1 : sm_H), sm_X G N M p s m args meth c → sm_B G N h s H locs → lv_has ls M.2.2.1 (L.map (sm_l G)) → Met l M2.1 (sm_ws M2) (sm_R dc) (sm_P G N av h) (sm_Q G N r h1) 0 0 (sm_A G N) →
      va_Run p l e (sm_R d) s m args below meth c H locs 0 0 0 0 (F0 m pc ls (st.map (sm_v G))) (rest.map (sm_v G)) (sm_Q G N r h1 (av.map (sm_v G)).toArray) (sm_A G N))
    (kk : ∀ r h1, K r h1 → sm_W N d M n L (r.toList ++ rest) h1 Q) : sm_W N d M pc L st h Q := by
  subst hp
  obtain ⟨r, h1, hC, hK⟩ := hT
  obtain ⟨r2, h2, k, hq⟩ := kk r h1 hK
  refine ⟨r2, h2, fun e0 => ?_, hq⟩
  obtain ⟨e1, hM⟩ := hC e0
  obtain ⟨e2, k⟩ := k e1
  refine ⟨e2, fun l G p e s m args below meth c H locs ls X B hl => ?_⟩
  intro T hT XX
  obtain ⟨v, st₀, t, T2, L2, h0, X2, hL2, f1, f2, hQ, stp⟩ := hrun l G p e s m args below meth c H locs ls r h1 X B hl (hM l G) T hT XX
  obtain ⟨hv, hP1, hz, hF⟩ := hQ
  cases hv
  rw [h0] at hz hF
  have B2 : sm_B G N h1 s T2.heap (locs ++ L2) := ⟨by rw [f1]; exact hP1, sm_D_go (e1.trans e0.symm) B.2.1, Nat.le_trans B.2.2.1 (by rw [f1]; exact hz), fun q g1 g2 => by rw [f1, hF q (Nat.lt_of_lt_of_le g1 B.2.2.1) g2]; exact B.2.2.2.1 q g1 g2, fun q hq => by
    rcases List.mem_append.mp hq with w | w
    · exact B.2.2.2.2 q w
    · exact hL2 q w⟩
  obtain ⟨t2, a1, b1⟩ := k l G p e s m args below meth c T2.heap (locs ++ L2) ls X B2 hl T2 rfl X2
  exact ⟨t2, stp t2 (by rw [sm_stk]; exact a1), b1⟩
def sm_okM (M2 : sm_M) (n : Nat) : Prop := Cond.initialized M2.1.cls ∈ sm_big ∧ Cond.code M2.1 M2.2.1 M2.2.2.1 M2.2.2.2 ∈ sm_big ∧ M2.1.cls ≠ "java/lang/invoke/MethodHandle" ∧ M2.1.cls ≠ "java/lang/invoke/VarHandle" ∧ (parseMethodDescriptor M2.1.desc).map (fun d => d.parameters.length) = some n ∧ M2.2.2.1 ≤ 21
/-- an object's method in the pool of own at idx -/
def sm_mv (own : String) (idx : Nat) (M2 : sm_M) (ci n : Nat) : Prop := Cond.methodLink own idx M2.1 ∈ sm_big ∧ Cond.instanceMethod M2.1 ∈ sm_big ∧ Cond.selects M2.1.cls M2.1 M2.1 ∈ sm_big ∧ sm_okM M2 n ∧ ∃ q, sm_cl[ci]? = some q ∧ q.1 = M2.1.cls
/-- a static method of the same file -/
def sm_ms (own : String) (idx : Nat) (M2 : sm_M) (n : Nat) : Prop := M2.1.cls = own ∧ Cond.methodLink own idx M2.1 ∈ sm_big ∧ Cond.static M2.1 ∈ sm_big ∧ sm_okM M2 n
/-- a static method of a mate -/
def sm_mN (own : String) (idx : Nat) (M2 : sm_M) (n : Nat) : Prop := (∃ host, Cond.methodLinkNest own idx M2.1 host ∈ sm_nest) ∧ Cond.static M2.1 ∈ sm_big ∧ sm_okM M2 n
theorem sm_pre {G : sm_G} {av : List Value} {p : Program} {s : State} {m : MethodId} {args : Array Value} {meth : Method} {c : Code} {H : Heap} {locs : List Loc} (X : sm_X G N M p s m args meth c) (B : sm_B G N h s H locs) (U : State) (hU : U.heap = H) (hW : s.WarmedH U.vm) : sm_P G N av h (av.map (sm_v G)).toArray U :=
  ⟨rfl, by rw [hU]; exact B.1, B.2.1, sm_K.go hW (fun q a1 a2 => by rw [hU]; exact B.2.2.2.1 q a1 a2) X.2.2.2.2.2.2.2⟩
theorem sm_callV {dc idx ci b np : Nat} {M2 : sm_M} {av rest : List Value} {K : Option Value → sm_H → Prop} (n : Nat) (hd : decode M.2.1 pc = .ok (.invokevirtual idx, 3)) (hm : sm_mv M.1.cls idx M2 ci np) (hdc : dc + 1 ≤ d) (hst : st = av.reverse ++ .ref b :: rest) (hn : av.length = np) (hc : (rest.map (fun v => v.category)).sum ≤ 8) (hp : pc + 3 = n) (hT : sm_V N dc M2 ci b av h K)
    (kk : ∀ r h1, K r h1 → sm_W N d M n L (r.toList ++ rest) h1 Q) : sm_W N d M pc L st h Q := by
  obtain ⟨⟨fs, hfs⟩, hT⟩ := hT
  obtain ⟨m1, m2, m3, ⟨o1, o2, o3, o4, o5, o6⟩, q, hq1, hq2⟩ := hm
  refine sm_callX n hp hT (rest := rest) (fun l G p e s m args below meth c H locs ls r h1 X B hl hM => ?_) kk
  have hts := X.2.2.2.2.2.2.1
  have hG : GoodIn (sm_ws M) (wsV M.1.cls idx M2.1.cls M2.1 (sm_ws M2)) := by
    intro w hw
    rcases List.mem_append.mp hw with hw | hw
    · simp only [List.mem_cons, List.not_mem_nil, or_false] at hw
      rcases hw with rfl | rfl | rfl | rfl
      · exact ⟨sm_in_code M m1, sm_big_good m1⟩
      · exact ⟨sm_in_code M m2, sm_big_good m2⟩
      · exact ⟨sm_in_code M m3, sm_big_good m3⟩
      · exact ⟨sm_in_code M o1, sm_big_good o1⟩
    · exact sm_goodIn M M2 o2 w hw
  have hcw := cwV (R := sm_R d) (rm := sm_R dc) (mc := 0) (ms := 0) np hts hG rfl rfl rfl ⟨rfl, o3, o4, o5⟩ ⟨hdc, by show 8 + (M2.2.2.1 + 11) + 40 * dc ≤ 40 * d; omega⟩
  have hrec := va_recv X.2.2.2.2.2.2.2.1 B.1 hq1 (q0 := b) (sm_w_at hfs)
  rw [hq2] at hrec
  exact va_runV (As := av.map (sm_v G)) (rest := rest.map (sm_v G)) (b := G.1 b) ⟨X.1, X.2.1, X.2.2.2.2.1, X.2.2.2.2.2.1, hts⟩ hM hcw ⟨sm_blind G N _ h, hrec, fun U hU hW => sm_pre (av := .ref b :: av) X B U hU hW⟩ rfl (by rw [List.length_map]; exact hn) hl.1 (by rw [hst]; simp [sm_v]) (lv_room (by rw [List.map_map]; have : ((fun v : Value => v.category) ∘ sm_v G) = (fun v : Value => v.category) := funext (sm_v_cat G); rw [this]; exact hc)) hd ⟨Nat.le_refl _, Nat.le_refl _⟩
theorem sm_callS {dc idx np : Nat} {M2 : sm_M} {av rest : List Value} {K : Option Value → sm_H → Prop} (n : Nat) (hd : decode M.2.1 pc = .ok (.invokestatic idx, 3)) (hm : sm_ms M.1.cls idx M2 np) (hdc : dc + 1 ≤ d) (hst : st = av.reverse ++ rest) (hn : av.length = np) (hc : (rest.map (fun v => v.category)).sum ≤ 8) (hp : pc + 3 = n) (hT : sm_T N dc M2 av h K)
    (kk : ∀ r h1, K r h1 → sm_W N d M n L (r.toList ++ rest) h1 Q) : sm_W N d M pc L st h Q := by
  obtain ⟨m0, m1, m2, ⟨o1, o2, o3, o4, o5, o6⟩⟩ := hm
  refine sm_callX n hp hT (rest := rest) (fun l G p e s m args below meth c H locs ls r h1 X B hl hM => ?_) kk
  have hts := X.2.2.2.2.2.2.1
  have hG : GoodIn (sm_ws M) (wsS M.1.cls idx M2.1 (sm_ws M2)) := by
    intro w hw
    rcases List.mem_append.mp hw with hw | hw
    · simp only [List.mem_cons, List.not_mem_nil, or_false] at hw
      rcases hw with rfl | rfl | rfl
      · exact ⟨sm_in_code M m1, sm_big_good m1⟩
      · exact ⟨sm_in_code M m2, sm_big_good m2⟩
      · rw [← m0]; exact ⟨sm_in_code M o1, sm_big_good o1⟩
    · exact sm_goodIn M M2 o2 w hw
  have hcw := cwS (R := sm_R d) (rm := sm_R dc) (mc := 0) (ms := 0) np hts hG rfl rfl rfl ⟨m0, o3, o4, o5⟩ ⟨hdc, by show 8 + (M2.2.2.1 + 11) + 40 * dc ≤ 40 * d; omega⟩
  exact va_runS (As := av.map (sm_v G)) (rest := rest.map (sm_v G)) ⟨X.1, X.2.1, X.2.2.2.2.1, X.2.2.2.2.2.1, hts⟩ hM hcw ⟨sm_blind G N _ h, fun U hU hW => sm_pre X B U hU hW⟩ rfl (by rw [List.length_map]; exact hn) hl.1 (by rw [hst]; simp) (lv_room (by rw [List.map_map]; have : ((fun v : Value => v.category) ∘ sm_v G) = (fun v : Value => v.category) := funext (sm_v_cat G); rw [this]; exact hc)) hd ⟨Nat.le_refl _, Nat.le_refl _⟩
theorem sm_callN {dc idx np : Nat} {M2 : sm_M} {av rest : List Value} {K : Option Value → sm_H → Prop} (n : Nat) (hd : decode M.2.1 pc = .ok (.invokestatic idx, 3)) (hm : sm_mN M.1.cls idx M2 np) (hdc : dc + 1 ≤ d) (hst : st = av.reverse ++ rest) (hn : av.length = np) (hc : (rest.map (fun v => v.category)).sum ≤ 8) (hp : pc + 3 = n) (hT : sm_T N dc M2 av h K)
    (kk : ∀ r h1, K r h1 → sm_W N d M n L (r.toList ++ rest) h1 Q) : sm_W N d M pc L st h Q := by
  obtain ⟨⟨host, m1⟩, m2, ⟨o1, o2, o3, o4, o5, o6⟩⟩ := hm
  refine sm_callX n hp hT (rest := rest) (fun l G p e s m args below meth c H locs ls r h1 X B hl hM => ?_) kk
  have hts := X.2.2.2.2.2.2.1
  have hcw := va_cnB (R := sm_R d) (rm := sm_R dc) (mc := 0) (ms := 0) np hts (sm_goodIn M M2 o2) rfl rfl rfl (X.2.2.2.2.2.2.2.2.1 _ m1) (hts _ (sm_in_code M o1)) ⟨o3, o4, o5⟩ ⟨hdc, by show 8 + (M2.2.2.1 + 11) + 40 * dc ≤ 40 * d; omega⟩
  exact va_runSN (As := av.map (sm_v G)) (rest := rest.map (sm_v G)) ⟨X.1, X.2.1, X.2.2.2.2.1, X.2.2.2.2.2.1, hts⟩ hM ⟨hcw, hts _ (sm_in_code M m2), trivial⟩ ⟨sm_blind G N _ h, fun U hU hW => sm_pre X B U hU hW⟩ rfl (by rw [List.length_map]; exact hn) hl.1 (by rw [hst]; simp) (lv_room (by rw [List.map_map]; have : ((fun v : Value => v.category) ∘ sm_v G) = (fun v : Value => v.category) := funext (sm_v_cat G); rw [this]; exact hc)) hd ⟨Nat.le_refl _, Nat.le_refl _⟩
/-- the contract of a method out of the walk from its entry -/
theorem sm_meth {av : List Value} (hy : plainName M.1.cls = true) (hn : ∀ G, (lg_sl (av.map (sm_v G))).length ≤ M.2.2.1) (hL : ∀ G, lv_args 0 (av.map (sm_v G)) = L.map (sm_l G)) (k : sm_W N d M 0 L [] h Q) : sm_T N d M av h Q := by
  obtain ⟨r, h1, k, hq⟩ := k
  refine ⟨r, h1, fun e0 => ⟨(k e0).1, fun l G => ?_⟩, hq⟩
  refine Met.ofW (cc := M.2.1) (maxL := M.2.2.1) (ret := M.2.2.2) hy rfl ?_
  intro p e s m args below meth c s₁ Bd hml hv
  obtain ⟨ha, hP, hD, hK⟩ := hv
  subst ha
  have hts := atoms_spec (ws := sm_ws M) Bd.pre
  have hl := lv_entry (av.map (sm_v G)) (n := M.2.2.1) (hn G)
  rw [lg_entry_eq]
  rw [hL G] at hl
  exact (k e0).2 l G p e s m _ below meth c s.heap [] _ ⟨Bd.exec, Bd.bytes, Bd.returns, Bd.notSynchronized, hml, findClass_of_methodNamed Bd.named, hts, hK⟩ ⟨hP, hD, va_S.rf⟩ hl
end Rows4
end
section
/-! Math.max and System.arraycopy, as rows -/
theorem sm_mx1 : Cond.static Lib.Math.max.name ∈ sm_big := sm_in 98 (by decide +kernel) (by decide +kernel)
theorem sm_mx2 : Cond.code Lib.Math.max.name Lib.Math.max.code 2 (some .int) ∈ sm_big := sm_in 99 (by decide +kernel) (by decide +kernel)
theorem sm_mx3 : Cond.initialized "java/lang/Math" ∈ sm_big := sm_in 73 (by decide +kernel) (by decide +kernel)
theorem sm_ac1 : Cond.static arraycopyName ∈ sm_big := sm_in 339 (by decide +kernel) (by decide +kernel)
theorem sm_ac2 : Cond.native arraycopyName ∈ sm_big := sm_in 340 (by decide +kernel) (by decide +kernel)
theorem sm_ac3 : Cond.initialized "java/lang/System" ∈ sm_big := sm_in 78 (by decide +kernel) (by decide +kernel)
section Rows5
variable {N d : Nat} {M : sm_M} {pc : Nat} {L : List (Nat × Value)} {st : List Value} {h : sm_H} {Q : Option Value → sm_H → Prop}
theorem sm_cats (G : sm_G) (rest : List Value) : ((rest.map (sm_v G)).map (fun v => v.category)).sum = (rest.map (fun v => v.category)).sum := by
  rw [List.map_map]
  have : ((fun v : Value => v.category) ∘ sm_v G) = (fun v : Value => v.category) := funext (sm_v_cat G)
  rw [this]
theorem sm_mmax {idx : Nat} {x y : Int32} (n : Nat) (hd : decode M.2.1 pc = .ok (.invokestatic idx, 3)) (hl : Cond.methodLink M.1.cls idx Lib.Math.max.name ∈ sm_big) (hdc : 1 ≤ d) (hc : (st.map (fun v => v.category)).sum ≤ 8) (hp : pc + 3 = n) (k : sm_W N d M n L (.int (if x < y then y else x) :: st) h Q) : sm_W N d M pc L (.int y :: .int x :: st) h Q := by
  subst hp
  refine sm_go (fun l G p e s m args below meth c H locs ls Z X hls w => ?_) k
  have hts := X.2.2.2.2.2.2.1
  exact va_mmax X.1 X.2.1 (X.2.2.2.2.1.trans hls.1.symm) X.2.2.2.2.2.1 (hts _ (sm_in_code M hl)) (hts _ (sm_in_code M sm_mx1)) (hts _ (sm_in_code M sm_mx3)) (hts _ (sm_in_code M sm_mx2)) hdc (by rw [sm_cats]; show _ ≤ 40 * d; omega) (Nat.le_refl _) (Nat.le_refl _) hd w
theorem sm_nn {z : Int32} (h : 0 ≤ z.toInt) : ¬ z < 0 := by
  intro q
  have := Int32.lt_iff_toInt_lt.mp q
  simp at this
  omega
theorem sm_nnT {z : Int32} (h : 0 ≤ z.toInt) : (z.toNatClampNeg : Int) = z.toInt := by
  show ((z.toInt.toNat : Nat) : Int) = z.toInt
  omega
theorem sm_copy {idx a b : Nat} {sp dp q : Int32} {h2 : sm_H} (n : Nat) (hd : decode M.2.1 pc = .ok (.invokestatic idx, 3)) (hl : Cond.methodLink M.1.cls idx arraycopyName ∈ sm_big) (hdc : 1 ≤ d) (hc : (st.map (fun v => v.category)).sum ≤ 8) (hg : sm_cp h a sp b dp q h2) (hp : pc + 3 = n) (k : sm_W N d M n L st h2 Q) : sm_W N d M pc L (.int q :: .int dp :: .ref b :: .int sp :: .ref a :: st) h Q := by
  subst hp
  obtain ⟨n0, n1, f, g, c0, c1, g1, g2, g3, g4, g5, g6, rfl⟩ := hg
  refine sm_goP (List.length_set ..) (fun l G p e s m args below meth c H locs ls Z X B hls w => ?_) k
  have hts := X.2.2.2.2.2.2.1
  have he : (sm_w G h).set b (G.1 b, .inl (G.2.2.2.2 0, n1, .inl (va_cpy f g sp.toNatClampNeg dp.toNatClampNeg q.toNatClampNeg))) = sm_w G (h.set b (.inl (0, n1, .inl (va_cpy f g sp.toNatClampNeg dp.toNatClampNeg q.toNatClampNeg)))) := by rw [← sm_w_set]; rfl
  have t1 := sm_nnT g1
  have t2 := sm_nnT g2
  have t3 := sm_nnT g3
  have hloc : ((st.map (sm_v G)).map (fun v => v.category)).sum + (nativeFrameWords "java/lang/System" "arraycopy" 5 + 11) ≤ (sm_R d).locals := by
    have h7 : nativeFrameWords "java/lang/System" "arraycopy" 5 = 7 := by decide
    rw [sm_cats, h7]
    show _ ≤ 40 * d
    omega
  exact va_copyi X.1 X.2.1 (X.2.2.2.2.1.trans hls.1.symm) X.2.2.2.2.2.1 (hts _ (sm_in_code M hl)) (hts _ (sm_in_code M sm_ac2)) (hts _ (sm_in_code M sm_ac1)) (hts _ (sm_in_code M sm_ac3)) X.2.2.2.2.2.2.2.1 B.1 B.2.1 B.2.2 a b 0 0 (sm_w_at c0) (sm_w_at c1) rfl rfl rfl (sm_nn g1) (sm_nn g2) (sm_nn g3) (by omega) (by omega) g6 hdc hloc hd (fun H1 locs1 a1 a2 a3 => w H1 locs1 ⟨he ▸ a1, he ▸ a2, a3⟩)
end Rows5
end
section
/-! links, printed by wip/whole/mk_blocks.py -/
theorem sm_rfc (o : Option Nat) : (va_rf o).category = 1 := by cases o <;> rfl
theorem sm_rfo (o : Option Nat) : va_rf o = .null ∨ (∃ a, va_rf o = .ref a) ∨ ∃ a, va_rf o = .retAddr a := by cases o with
  | none => exact Or.inl rfl
  | some a => exact Or.inr (Or.inl ⟨a, rfl⟩)
theorem sm_sub {N d : Nat} {M : sm_M} {pc : Nat} {L L2 : List (Nat × Value)} {st : List Value} {h : sm_H} {Q : Option Value → sm_H → Prop} (ks : List Nat) (hl : lv_pick L ks = L2) (k : sm_W N d M pc L2 st h Q) : sm_W N d M pc L st h Q := by
  refine sm_goL (fun l G p e s m args below meth c H locs ls Z X hls w => w ls (lv_sub hls ks ?_)) k
  subst hl
  simp only [lv_pick, List.getElem?_map, List.map_filterMap]
theorem sm_out {x : Int32} {lo hi : Int} (g : ∀ v : Int, lo ≤ v → v ≤ hi → ¬ x.toInt = v) : x.toInt < lo ∨ hi < x.toInt := by
  rcases Int.lt_or_le x.toInt lo with a | a
  · exact Or.inl a
  · rcases Int.lt_or_le hi x.toInt with b | b
    · exact Or.inr b
    · exact absurd rfl (g _ a b)
theorem ok_B_add : sm_okM mm_B_add 1 := ⟨sm_in 72 (by decide +kernel) (by decide +kernel), sm_in 186 (by decide +kernel) (by decide +kernel), by decide, by decide, (by decide +kernel), by decide⟩
theorem ok_B_addHighestFirst : sm_okM mm_B_addHighestFirst 1 := ⟨sm_in 72 (by decide +kernel) (by decide +kernel), sm_in 259 (by decide +kernel) (by decide +kernel), by decide, by decide, (by decide +kernel), by decide⟩
theorem ok_B_at : sm_okM mm_B_at 1 := ⟨sm_in 72 (by decide +kernel) (by decide +kernel), sm_in 305 (by decide +kernel) (by decide +kernel), by decide, by decide, (by decide +kernel), by decide⟩
theorem ok_B_become : sm_okM mm_B_become 2 := ⟨sm_in 72 (by decide +kernel) (by decide +kernel), sm_in 337 (by decide +kernel) (by decide +kernel), by decide, by decide, (by decide +kernel), by decide⟩
theorem ok_B_becomeDigits : sm_okM mm_B_becomeDigits 1 := ⟨sm_in 72 (by decide +kernel) (by decide +kernel), sm_in 313 (by decide +kernel) (by decide +kernel), by decide, by decide, (by decide +kernel), by decide⟩
theorem ok_B_becomeNumber : sm_okM mm_B_becomeNumber 1 := ⟨sm_in 72 (by decide +kernel) (by decide +kernel), sm_in 560 (by decide +kernel) (by decide +kernel), by decide, by decide, (by decide +kernel), by decide⟩
theorem ok_B_countElements : sm_okM mm_B_countElements 1 := ⟨sm_in 72 (by decide +kernel) (by decide +kernel), sm_in 344 (by decide +kernel) (by decide +kernel), by decide, by decide, (by decide +kernel), by decide⟩
theorem ok_B_intAt : sm_okM mm_B_intAt 1 := ⟨sm_in 72 (by decide +kernel) (by decide +kernel), sm_in 283 (by decide +kernel) (by decide +kernel), by decide, by decide, (by decide +kernel), by decide⟩
theorem ok_B_lastOf : sm_okM mm_B_lastOf 1 := ⟨sm_in 72 (by decide +kernel) (by decide +kernel), sm_in 348 (by decide +kernel) (by decide +kernel), by decide, by decide, (by decide +kernel), by decide⟩
theorem ok_B_longAt : sm_okM mm_B_longAt 1 := ⟨sm_in 72 (by decide +kernel) (by decide +kernel), sm_in 555 (by decide +kernel) (by decide +kernel), by decide, by decide, (by decide +kernel), by decide⟩
theorem ok_B_nameEnd : sm_okM mm_B_nameEnd 1 := ⟨sm_in 72 (by decide +kernel) (by decide +kernel), sm_in 291 (by decide +kernel) (by decide +kernel), by decide, by decide, (by decide +kernel), by decide⟩
theorem ok_B_numberOf : sm_okM mm_B_numberOf 1 := ⟨sm_in 72 (by decide +kernel) (by decide +kernel), sm_in 551 (by decide +kernel) (by decide +kernel), by decide, by decide, (by decide +kernel), by decide⟩
theorem ok_B_put : sm_okM mm_B_put 2 := ⟨sm_in 72 (by decide +kernel) (by decide +kernel), sm_in 521 (by decide +kernel) (by decide +kernel), by decide, by decide, (by decide +kernel), by decide⟩
theorem ok_B_putInt : sm_okM mm_B_putInt 2 := ⟨sm_in 72 (by decide +kernel) (by decide +kernel), sm_in 517 (by decide +kernel) (by decide +kernel), by decide, by decide, (by decide +kernel), by decide⟩
theorem ok_B_resize : sm_okM mm_B_resize 3 := ⟨sm_in 72 (by decide +kernel) (by decide +kernel), sm_in 512 (by decide +kernel) (by decide +kernel), by decide, by decide, (by decide +kernel), by decide⟩
theorem ok_B_valueEnd : sm_okM mm_B_valueEnd 1 := ⟨sm_in 72 (by decide +kernel) (by decide +kernel), sm_in 353 (by decide +kernel) (by decide +kernel), by decide, by decide, (by decide +kernel), by decide⟩
theorem ok_B_valueStart : sm_okM mm_B_valueStart 1 := ⟨sm_in 72 (by decide +kernel) (by decide +kernel), sm_in 295 (by decide +kernel) (by decide +kernel), by decide, by decide, (by decide +kernel), by decide⟩
theorem ok_B_write : sm_okM mm_B_write 4 := ⟨sm_in 72 (by decide +kernel) (by decide +kernel), sm_in 526 (by decide +kernel) (by decide +kernel), by decide, by decide, (by decide +kernel), by decide⟩
theorem ok_D_deepest : sm_okM mm_D_deepest 3 := ⟨sm_in 71 (by decide +kernel) (by decide +kernel), sm_in 595 (by decide +kernel) (by decide +kernel), by decide, by decide, (by decide +kernel), by decide⟩
theorem ok_D_isHolder : sm_okM mm_D_isHolder 1 := ⟨sm_in 71 (by decide +kernel) (by decide +kernel), sm_in 529 (by decide +kernel) (by decide +kernel), by decide, by decide, (by decide +kernel), by decide⟩
theorem ok_D_isNumber : sm_okM mm_D_isNumber 1 := ⟨sm_in 71 (by decide +kernel) (by decide +kernel), sm_in 446 (by decide +kernel) (by decide +kernel), by decide, by decide, (by decide +kernel), by decide⟩
theorem ok_D_sameHolders : sm_okM mm_D_sameHolders 5 := ⟨sm_in 71 (by decide +kernel) (by decide +kernel), sm_in 579 (by decide +kernel) (by decide +kernel), by decide, by decide, (by decide +kernel), by decide⟩
theorem ok_D_sameNames : sm_okM mm_D_sameNames 4 := ⟨sm_in 71 (by decide +kernel) (by decide +kernel), sm_in 325 (by decide +kernel) (by decide +kernel), by decide, by decide, (by decide +kernel), by decide⟩
theorem ok_D_sameRange : sm_okM mm_D_sameRange 6 := ⟨sm_in 71 (by decide +kernel) (by decide +kernel), sm_in 316 (by decide +kernel) (by decide +kernel), by decide, by decide, (by decide +kernel), by decide⟩
theorem ok_D_sameValues : sm_okM mm_D_sameValues 5 := ⟨sm_in 71 (by decide +kernel) (by decide +kernel), sm_in 572 (by decide +kernel) (by decide +kernel), by decide, by decide, (by decide +kernel), by decide⟩
theorem ok_D_slotOf : sm_okM mm_D_slotOf 1 := ⟨sm_in 71 (by decide +kernel) (by decide +kernel), sm_in 267 (by decide +kernel) (by decide +kernel), by decide, by decide, (by decide +kernel), by decide⟩
theorem ok_D_tapeHas : sm_okM mm_D_tapeHas 1 := ⟨sm_in 71 (by decide +kernel) (by decide +kernel), sm_in 271 (by decide +kernel) (by decide +kernel), by decide, by decide, (by decide +kernel), by decide⟩
theorem ok_E_addElement : sm_okM mm_E_addElement 5 := ⟨sm_in 76 (by decide +kernel) (by decide +kernel), sm_in 504 (by decide +kernel) (by decide +kernel), by decide, by decide, (by decide +kernel), by decide⟩
theorem ok_E_addItem : sm_okM mm_E_addItem 2 := ⟨sm_in 76 (by decide +kernel) (by decide +kernel), sm_in 564 (by decide +kernel) (by decide +kernel), by decide, by decide, (by decide +kernel), by decide⟩
theorem ok_E_enter : sm_okM mm_E_enter 2 := ⟨sm_in 76 (by decide +kernel) (by decide +kernel), sm_in 484 (by decide +kernel) (by decide +kernel), by decide, by decide, (by decide +kernel), by decide⟩
theorem ok_E_findStep : sm_okM mm_E_findStep 1 := ⟨sm_in 76 (by decide +kernel) (by decide +kernel), sm_in 492 (by decide +kernel) (by decide +kernel), by decide, by decide, (by decide +kernel), by decide⟩
theorem ok_E_hasItem : sm_okM mm_E_hasItem 2 := ⟨sm_in 76 (by decide +kernel) (by decide +kernel), sm_in 592 (by decide +kernel) (by decide +kernel), by decide, by decide, (by decide +kernel), by decide⟩
theorem ok_E_holder : sm_okM mm_E_holder 0 := ⟨sm_in 76 (by decide +kernel) (by decide +kernel), sm_in 496 (by decide +kernel) (by decide +kernel), by decide, by decide, (by decide +kernel), by decide⟩
theorem ok_E_increase : sm_okM mm_E_increase 2 := ⟨sm_in 76 (by decide +kernel) (by decide +kernel), sm_in 546 (by decide +kernel) (by decide +kernel), by decide, by decide, (by decide +kernel), by decide⟩
theorem ok_E_moveItem : sm_okM mm_E_moveItem 4 := ⟨sm_in 76 (by decide +kernel) (by decide +kernel), sm_in 588 (by decide +kernel) (by decide +kernel), by decide, by decide, (by decide +kernel), by decide⟩
theorem ok_E_perform : sm_okM mm_E_perform 1 := ⟨sm_in 76 (by decide +kernel) (by decide +kernel), sm_in 463 (by decide +kernel) (by decide +kernel), by decide, by decide, (by decide +kernel), by decide⟩
theorem ok_E_performPath : sm_okM mm_E_performPath 3 := ⟨sm_in 76 (by decide +kernel) (by decide +kernel), sm_in 475 (by decide +kernel) (by decide +kernel), by decide, by decide, (by decide +kernel), by decide⟩
theorem ok_E_pullItems : sm_okM mm_E_pullItems 2 := ⟨sm_in 76 (by decide +kernel) (by decide +kernel), sm_in 569 (by decide +kernel) (by decide +kernel), by decide, by decide, (by decide +kernel), by decide⟩
theorem ok_E_reach : sm_okM mm_E_reach 4 := ⟨sm_in 76 (by decide +kernel) (by decide +kernel), sm_in 480 (by decide +kernel) (by decide +kernel), by decide, by decide, (by decide +kernel), by decide⟩
theorem ok_E_replaceValue : sm_okM mm_E_replaceValue 4 := ⟨sm_in 76 (by decide +kernel) (by decide +kernel), sm_in 538 (by decide +kernel) (by decide +kernel), by decide, by decide, (by decide +kernel), by decide⟩
theorem ok_E_resize : sm_okM mm_E_resize 3 := ⟨sm_in 76 (by decide +kernel) (by decide +kernel), sm_in 508 (by decide +kernel) (by decide +kernel), by decide, by decide, (by decide +kernel), by decide⟩
theorem ok_E_setValue : sm_okM mm_E_setValue 2 := ⟨sm_in 76 (by decide +kernel) (by decide +kernel), sm_in 534 (by decide +kernel) (by decide +kernel), by decide, by decide, (by decide +kernel), by decide⟩
theorem ok_E_stepEnd : sm_okM mm_E_stepEnd 3 := ⟨sm_in 76 (by decide +kernel) (by decide +kernel), sm_in 487 (by decide +kernel) (by decide +kernel), by decide, by decide, (by decide +kernel), by decide⟩
theorem ok_E_unsetValue : sm_okM mm_E_unsetValue 0 := ⟨sm_in 76 (by decide +kernel) (by decide +kernel), sm_in 542 (by decide +kernel) (by decide +kernel), by decide, by decide, (by decide +kernel), by decide⟩
theorem ok_K_characterSize : sm_okM mm_K_characterSize 3 := ⟨sm_in 74 (by decide +kernel) (by decide +kernel), sm_in 301 (by decide +kernel) (by decide +kernel), by decide, by decide, (by decide +kernel), by decide⟩
theorem ok_K_checkedEnd : sm_okM mm_K_checkedEnd 4 := ⟨sm_in 74 (by decide +kernel) (by decide +kernel), sm_in 329 (by decide +kernel) (by decide +kernel), by decide, by decide, (by decide +kernel), by decide⟩
theorem ok_K_holderEnd : sm_okM mm_K_holderEnd 5 := ⟨sm_in 74 (by decide +kernel) (by decide +kernel), sm_in 279 (by decide +kernel) (by decide +kernel), by decide, by decide, (by decide +kernel), by decide⟩
theorem ok_K_isDocument : sm_okM mm_K_isDocument 2 := ⟨sm_in 74 (by decide +kernel) (by decide +kernel), sm_in 275 (by decide +kernel) (by decide +kernel), by decide, by decide, (by decide +kernel), by decide⟩
theorem ok_K_isOneOf : sm_okM mm_K_isOneOf 3 := ⟨sm_in 74 (by decide +kernel) (by decide +kernel), sm_in 321 (by decide +kernel) (by decide +kernel), by decide, by decide, (by decide +kernel), by decide⟩
theorem ok_K_isRightName : sm_okM mm_K_isRightName 5 := ⟨sm_in 74 (by decide +kernel) (by decide +kernel), sm_in 287 (by decide +kernel) (by decide +kernel), by decide, by decide, (by decide +kernel), by decide⟩
theorem ok_K_isRightText : sm_okM mm_K_isRightText 3 := ⟨sm_in 74 (by decide +kernel) (by decide +kernel), sm_in 298 (by decide +kernel) (by decide +kernel), by decide, by decide, (by decide +kernel), by decide⟩
theorem ok_K_textEnd : sm_okM mm_K_textEnd 3 := ⟨sm_in 74 (by decide +kernel) (by decide +kernel), sm_in 333 (by decide +kernel) (by decide +kernel), by decide, by decide, (by decide +kernel), by decide⟩
theorem ok_M_add : sm_okM mm_M_add 2 := ⟨sm_in 77 (by decide +kernel) (by decide +kernel), sm_in 915 (by decide +kernel) (by decide +kernel), by decide, by decide, (by decide +kernel), by decide⟩
theorem ok_M_append : sm_okM mm_M_append 2 := ⟨sm_in 77 (by decide +kernel) (by decide +kernel), sm_in 786 (by decide +kernel) (by decide +kernel), by decide, by decide, (by decide +kernel), by decide⟩
theorem ok_M_at : sm_okM mm_M_at 1 := ⟨sm_in 77 (by decide +kernel) (by decide +kernel), sm_in 740 (by decide +kernel) (by decide +kernel), by decide, by decide, (by decide +kernel), by decide⟩
theorem ok_M_begins : sm_okM mm_M_begins 2 := ⟨sm_in 77 (by decide +kernel) (by decide +kernel), sm_in 828 (by decide +kernel) (by decide +kernel), by decide, by decide, (by decide +kernel), by decide⟩
theorem ok_M_character : sm_okM mm_M_character 2 := ⟨sm_in 77 (by decide +kernel) (by decide +kernel), sm_in 761 (by decide +kernel) (by decide +kernel), by decide, by decide, (by decide +kernel), by decide⟩
theorem ok_M_classOf : sm_okM mm_M_classOf 1 := ⟨sm_in 77 (by decide +kernel) (by decide +kernel), sm_in 892 (by decide +kernel) (by decide +kernel), by decide, by decide, (by decide +kernel), by decide⟩
theorem ok_M_countOf : sm_okM mm_M_countOf 1 := ⟨sm_in 77 (by decide +kernel) (by decide +kernel), sm_in 774 (by decide +kernel) (by decide +kernel), by decide, by decide, (by decide +kernel), by decide⟩
theorem ok_M_fail : sm_okM mm_M_fail 3 := ⟨sm_in 77 (by decide +kernel) (by decide +kernel), sm_in 816 (by decide +kernel) (by decide +kernel), by decide, by decide, (by decide +kernel), by decide⟩
theorem ok_M_goMaking : sm_okM mm_M_goMaking 1 := ⟨sm_in 77 (by decide +kernel) (by decide +kernel), sm_in 900 (by decide +kernel) (by decide +kernel), by decide, by decide, (by decide +kernel), by decide⟩
theorem ok_M_isAdd : sm_okM mm_M_isAdd 1 := ⟨sm_in 77 (by decide +kernel) (by decide +kernel), sm_in 812 (by decide +kernel) (by decide +kernel), by decide, by decide, (by decide +kernel), by decide⟩
theorem ok_M_isAlike : sm_okM mm_M_isAlike 4 := ⟨sm_in 77 (by decide +kernel) (by decide +kernel), sm_in 782 (by decide +kernel) (by decide +kernel), by decide, by decide, (by decide +kernel), by decide⟩
theorem ok_M_isChanged : sm_okM mm_M_isChanged 0 := ⟨sm_in 77 (by decide +kernel) (by decide +kernel), sm_in 861 (by decide +kernel) (by decide +kernel), by decide, by decide, (by decide +kernel), by decide⟩
theorem ok_M_isKind : sm_okM mm_M_isKind 1 := ⟨sm_in 77 (by decide +kernel) (by decide +kernel), sm_in 753 (by decide +kernel) (by decide +kernel), by decide, by decide, (by decide +kernel), by decide⟩
theorem ok_M_isNamed : sm_okM mm_M_isNamed 6 := ⟨sm_in 77 (by decide +kernel) (by decide +kernel), sm_in 808 (by decide +kernel) (by decide +kernel), by decide, by decide, (by decide +kernel), by decide⟩
theorem ok_M_isNumber : sm_okM mm_M_isNumber 1 := ⟨sm_in 77 (by decide +kernel) (by decide +kernel), sm_in 911 (by decide +kernel) (by decide +kernel), by decide, by decide, (by decide +kernel), by decide⟩
theorem ok_M_isOne : sm_okM mm_M_isOne 2 := ⟨sm_in 77 (by decide +kernel) (by decide +kernel), sm_in 889 (by decide +kernel) (by decide +kernel), by decide, by decide, (by decide +kernel), by decide⟩
theorem ok_M_isSlot : sm_okM mm_M_isSlot 1 := ⟨sm_in 77 (by decide +kernel) (by decide +kernel), sm_in 724 (by decide +kernel) (by decide +kernel), by decide, by decide, (by decide +kernel), by decide⟩
theorem ok_M_isText : sm_okM mm_M_isText 2 := ⟨sm_in 77 (by decide +kernel) (by decide +kernel), sm_in 757 (by decide +kernel) (by decide +kernel), by decide, by decide, (by decide +kernel), by decide⟩
theorem ok_M_item : sm_okM mm_M_item 2 := ⟨sm_in 77 (by decide +kernel) (by decide +kernel), sm_in 873 (by decide +kernel) (by decide +kernel), by decide, by decide, (by decide +kernel), by decide⟩
theorem ok_M_load : sm_okM mm_M_load 2 := ⟨sm_in 77 (by decide +kernel) (by decide +kernel), sm_in 732 (by decide +kernel) (by decide +kernel), by decide, by decide, (by decide +kernel), by decide⟩
theorem ok_M_look : sm_okM mm_M_look 1 := ⟨sm_in 77 (by decide +kernel) (by decide +kernel), sm_in 800 (by decide +kernel) (by decide +kernel), by decide, by decide, (by decide +kernel), by decide⟩
theorem ok_M_make : sm_okM mm_M_make 1 := ⟨sm_in 77 (by decide +kernel) (by decide +kernel), sm_in 746 (by decide +kernel) (by decide +kernel), by decide, by decide, (by decide +kernel), by decide⟩
theorem ok_M_makes : sm_okM mm_M_makes 3 := ⟨sm_in 77 (by decide +kernel) (by decide +kernel), sm_in 896 (by decide +kernel) (by decide +kernel), by decide, by decide, (by decide +kernel), by decide⟩
theorem ok_M_mayGo : sm_okM mm_M_mayGo 2 := ⟨sm_in 77 (by decide +kernel) (by decide +kernel), sm_in 904 (by decide +kernel) (by decide +kernel), by decide, by decide, (by decide +kernel), by decide⟩
theorem ok_M_meets : sm_okM mm_M_meets 2 := ⟨sm_in 77 (by decide +kernel) (by decide +kernel), sm_in 869 (by decide +kernel) (by decide +kernel), by decide, by decide, (by decide +kernel), by decide⟩
theorem ok_M_meetsEarlier : sm_okM mm_M_meetsEarlier 2 := ⟨sm_in 77 (by decide +kernel) (by decide +kernel), sm_in 824 (by decide +kernel) (by decide +kernel), by decide, by decide, (by decide +kernel), by decide⟩
theorem ok_M_name : sm_okM mm_M_name 2 := ⟨sm_in 77 (by decide +kernel) (by decide +kernel), sm_in 908 (by decide +kernel) (by decide +kernel), by decide, by decide, (by decide +kernel), by decide⟩
theorem ok_M_named : sm_okM mm_M_named 3 := ⟨sm_in 77 (by decide +kernel) (by decide +kernel), sm_in 778 (by decide +kernel) (by decide +kernel), by decide, by decide, (by decide +kernel), by decide⟩
theorem ok_M_numberAt : sm_okM mm_M_numberAt 2 := ⟨sm_in 77 (by decide +kernel) (by decide +kernel), sm_in 769 (by decide +kernel) (by decide +kernel), by decide, by decide, (by decide +kernel), by decide⟩
theorem ok_M_opens : sm_okM mm_M_opens 4 := ⟨sm_in 77 (by decide +kernel) (by decide +kernel), sm_in 750 (by decide +kernel) (by decide +kernel), by decide, by decide, (by decide +kernel), by decide⟩
theorem ok_M_operator : sm_okM mm_M_operator 1 := ⟨sm_in 77 (by decide +kernel) (by decide +kernel), sm_in 804 (by decide +kernel) (by decide +kernel), by decide, by decide, (by decide +kernel), by decide⟩
theorem ok_M_print : sm_okM mm_M_print 1 := ⟨sm_in 77 (by decide +kernel) (by decide +kernel), sm_in 836 (by decide +kernel) (by decide +kernel), by decide, by decide, (by decide +kernel), by decide⟩
theorem ok_M_put : sm_okM mm_M_put 1 := ⟨sm_in 77 (by decide +kernel) (by decide +kernel), sm_in 717 (by decide +kernel) (by decide +kernel), by decide, by decide, (by decide +kernel), by decide⟩
theorem ok_M_remove : sm_okM mm_M_remove 2 := ⟨sm_in 77 (by decide +kernel) (by decide +kernel), sm_in 877 (by decide +kernel) (by decide +kernel), by decide, by decide, (by decide +kernel), by decide⟩
theorem ok_M_replace : sm_okM mm_M_replace 3 := ⟨sm_in 77 (by decide +kernel) (by decide +kernel), sm_in 881 (by decide +kernel) (by decide +kernel), by decide, by decide, (by decide +kernel), by decide⟩
theorem ok_M_same : sm_okM mm_M_same 2 := ⟨sm_in 77 (by decide +kernel) (by decide +kernel), sm_in 885 (by decide +kernel) (by decide +kernel), by decide, by decide, (by decide +kernel), by decide⟩
theorem ok_M_split : sm_okM mm_M_split 1 := ⟨sm_in 77 (by decide +kernel) (by decide +kernel), sm_in 820 (by decide +kernel) (by decide +kernel), by decide, by decide, (by decide +kernel), by decide⟩
theorem ok_M_take : sm_okM mm_M_take 2 := ⟨sm_in 77 (by decide +kernel) (by decide +kernel), sm_in 728 (by decide +kernel) (by decide +kernel), by decide, by decide, (by decide +kernel), by decide⟩
theorem ok_M_takes : sm_okM mm_M_takes 3 := ⟨sm_in 77 (by decide +kernel) (by decide +kernel), sm_in 865 (by decide +kernel) (by decide +kernel), by decide, by decide, (by decide +kernel), by decide⟩
theorem ok_M_value : sm_okM mm_M_value 3 := ⟨sm_in 77 (by decide +kernel) (by decide +kernel), sm_in 790 (by decide +kernel) (by decide +kernel), by decide, by decide, (by decide +kernel), by decide⟩
theorem ok_M_whole : sm_okM mm_M_whole 1 := ⟨sm_in 77 (by decide +kernel) (by decide +kernel), sm_in 736 (by decide +kernel) (by decide +kernel), by decide, by decide, (by decide +kernel), by decide⟩
theorem ok_M_write : sm_okM mm_M_write 1 := ⟨sm_in 77 (by decide +kernel) (by decide +kernel), sm_in 845 (by decide +kernel) (by decide +kernel), by decide, by decide, (by decide +kernel), by decide⟩
theorem ok_M_writeBytes : sm_okM mm_M_writeBytes 2 := ⟨sm_in 77 (by decide +kernel) (by decide +kernel), sm_in 853 (by decide +kernel) (by decide +kernel), by decide, by decide, (by decide +kernel), by decide⟩
theorem ok_M_writeDigits : sm_okM mm_M_writeDigits 1 := ⟨sm_in 77 (by decide +kernel) (by decide +kernel), sm_in 849 (by decide +kernel) (by decide +kernel), by decide, by decide, (by decide +kernel), by decide⟩
theorem ok_M_writeLow : sm_okM mm_M_writeLow 2 := ⟨sm_in 77 (by decide +kernel) (by decide +kernel), sm_in 840 (by decide +kernel) (by decide +kernel), by decide, by decide, (by decide +kernel), by decide⟩
theorem ok_M_writeValue : sm_okM mm_M_writeValue 1 := ⟨sm_in 77 (by decide +kernel) (by decide +kernel), sm_in 857 (by decide +kernel) (by decide +kernel), by decide, by decide, (by decide +kernel), by decide⟩
theorem ok_P_clash : sm_okM mm_P_clash 2 := ⟨sm_in 75 (by decide +kernel) (by decide +kernel), sm_in 450 (by decide +kernel) (by decide +kernel), by decide, by decide, (by decide +kernel), by decide⟩
theorem ok_P_codeOf : sm_okM mm_P_codeOf 1 := ⟨sm_in 75 (by decide +kernel) (by decide +kernel), sm_in 371 (by decide +kernel) (by decide +kernel), by decide, by decide, (by decide +kernel), by decide⟩
theorem ok_P_codeOfPath : sm_okM mm_P_codeOfPath 1 := ⟨sm_in 75 (by decide +kernel) (by decide +kernel), sm_in 471 (by decide +kernel) (by decide +kernel), by decide, by decide, (by decide +kernel), by decide⟩
theorem ok_P_elementOf : sm_okM mm_P_elementOf 1 := ⟨sm_in 75 (by decide +kernel) (by decide +kernel), sm_in 467 (by decide +kernel) (by decide +kernel), by decide, by decide, (by decide +kernel), by decide⟩
theorem ok_P_enlist : sm_okM mm_P_enlist 2 := ⟨sm_in 75 (by decide +kernel) (by decide +kernel), sm_in 454 (by decide +kernel) (by decide +kernel), by decide, by decide, (by decide +kernel), by decide⟩
theorem ok_P_isNamed : sm_okM mm_P_isNamed 2 := ⟨sm_in 75 (by decide +kernel) (by decide +kernel), sm_in 384 (by decide +kernel) (by decide +kernel), by decide, by decide, (by decide +kernel), by decide⟩
theorem ok_P_isPath : sm_okM mm_P_isPath 2 := ⟨sm_in 75 (by decide +kernel) (by decide +kernel), sm_in 443 (by decide +kernel) (by decide +kernel), by decide, by decide, (by decide +kernel), by decide⟩
theorem ok_P_numberOf : sm_okM mm_P_numberOf 1 := ⟨sm_in 75 (by decide +kernel) (by decide +kernel), sm_in 605 (by decide +kernel) (by decide +kernel), by decide, by decide, (by decide +kernel), by decide⟩
theorem ok_P_operatorOf : sm_okM mm_P_operatorOf 1 := ⟨sm_in 75 (by decide +kernel) (by decide +kernel), sm_in 601 (by decide +kernel) (by decide +kernel), by decide, by decide, (by decide +kernel), by decide⟩
theorem ok_P_study : sm_okM mm_P_study 0 := ⟨sm_in 75 (by decide +kernel) (by decide +kernel), sm_in 362 (by decide +kernel) (by decide +kernel), by decide, by decide, (by decide +kernel), by decide⟩
theorem ok_P_studyOperator : sm_okM mm_P_studyOperator 1 := ⟨sm_in 75 (by decide +kernel) (by decide +kernel), sm_in 367 (by decide +kernel) (by decide +kernel), by decide, by decide, (by decide +kernel), by decide⟩
theorem ok_P_studyPath : sm_okM mm_P_studyPath 2 := ⟨sm_in 75 (by decide +kernel) (by decide +kernel), sm_in 438 (by decide +kernel) (by decide +kernel), by decide, by decide, (by decide +kernel), by decide⟩
theorem ok_P_textOf : sm_okM mm_P_textOf 1 := ⟨sm_in 75 (by decide +kernel) (by decide +kernel), sm_in 374 (by decide +kernel) (by decide +kernel), by decide, by decide, (by decide +kernel), by decide⟩
theorem fl_B_9 : sm_fl "UpdateDesk$Bytes" 9 0 1 := ⟨_, _, _, rfl, by decide, sm_u0, rfl, Or.inl (sm_in 101 (by decide +kernel) (by decide +kernel))⟩
theorem fl_B_21 : sm_fl "UpdateDesk$Bytes" 21 0 0 := ⟨_, _, _, rfl, by decide, sm_u0, rfl, Or.inl (sm_in 100 (by decide +kernel) (by decide +kernel))⟩
theorem ml_B_25 : sm_mv "UpdateDesk$Bytes" 25 mm_B_intAt 0 1 := ⟨sm_in 349 (by decide +kernel) (by decide +kernel), sm_in 281 (by decide +kernel) (by decide +kernel), sm_in 282 (by decide +kernel) (by decide +kernel), ok_B_intAt, _, rfl, rfl⟩
theorem kc_B_29 : Cond.constantLong "UpdateDesk$Bytes" 29 4294967295 ∈ sm_big := sm_in 556 (by decide +kernel) (by decide +kernel)
theorem ml_B_31 : sm_mv "UpdateDesk$Bytes" 31 mm_B_put 0 2 := ⟨sm_in 518 (by decide +kernel) (by decide +kernel), sm_in 519 (by decide +kernel) (by decide +kernel), sm_in 520 (by decide +kernel) (by decide +kernel), ok_B_put, _, rfl, rfl⟩
theorem fp_B_9 : sm_fp "UpdateDesk$Bytes" 9 0 1 .int := ⟨_, _, _, _, rfl, by decide, sm_u0, rfl, Or.inl (sm_in 101 (by decide +kernel) (by decide +kernel)), sm_ty0, sm_nm0, rfl, (by decide +kernel)⟩
theorem ml_B_35 : sm_mv "UpdateDesk$Bytes" 35 mm_B_add 0 1 := ⟨sm_in 183 (by decide +kernel) (by decide +kernel), sm_in 184 (by decide +kernel) (by decide +kernel), sm_in 185 (by decide +kernel) (by decide +kernel), ok_B_add, _, rfl, rfl⟩
theorem ac_B_39 : Cond.methodLink "UpdateDesk$Bytes" 39 arraycopyName ∈ sm_big := sm_in 338 (by decide +kernel) (by decide +kernel)
theorem mx_B_15 : Cond.methodLink "UpdateDesk$Bytes" 15 Lib.Math.max.name ∈ sm_big := sm_in 97 (by decide +kernel) (by decide +kernel)
theorem ml_B_45 : sm_mv "UpdateDesk$Bytes" 45 mm_B_valueStart 0 1 := ⟨sm_in 292 (by decide +kernel) (by decide +kernel), sm_in 293 (by decide +kernel) (by decide +kernel), sm_in 294 (by decide +kernel) (by decide +kernel), ok_B_valueStart, _, rfl, rfl⟩
theorem ml_B_48 : sm_mv "UpdateDesk$Bytes" 48 mm_B_at 0 1 := ⟨sm_in 354 (by decide +kernel) (by decide +kernel), sm_in 303 (by decide +kernel) (by decide +kernel), sm_in 304 (by decide +kernel) (by decide +kernel), ok_B_at, _, rfl, rfl⟩
theorem sm_iv2_18 {v : Int} (a1 : 2 ≤ v) (a2 : v ≤ 18) : v = 2 ∨ v = 3 ∨ v = 4 ∨ v = 5 ∨ v = 6 ∨ v = 7 ∨ v = 8 ∨ v = 9 ∨ v = 10 ∨ v = 11 ∨ v = 12 ∨ v = 13 ∨ v = 14 ∨ v = 15 ∨ v = 16 ∨ v = 17 ∨ v = 18 := by omega
theorem ml_B_51 : sm_mv "UpdateDesk$Bytes" 51 mm_B_longAt 0 1 := ⟨sm_in 552 (by decide +kernel) (by decide +kernel), sm_in 553 (by decide +kernel) (by decide +kernel), sm_in 554 (by decide +kernel) (by decide +kernel), ok_B_longAt, _, rfl, rfl⟩
theorem ml_B_55 : sm_mv "UpdateDesk$Bytes" 55 mm_B_lastOf 0 1 := ⟨sm_in 345 (by decide +kernel) (by decide +kernel), sm_in 346 (by decide +kernel) (by decide +kernel), sm_in 347 (by decide +kernel) (by decide +kernel), ok_B_lastOf, _, rfl, rfl⟩
theorem ml_B_58 : sm_mv "UpdateDesk$Bytes" 58 mm_B_valueEnd 0 1 := ⟨sm_in 350 (by decide +kernel) (by decide +kernel), sm_in 351 (by decide +kernel) (by decide +kernel), sm_in 352 (by decide +kernel) (by decide +kernel), ok_B_valueEnd, _, rfl, rfl⟩
theorem fp_K_24 : sm_fp "UpdateDesk$Checker" 24 1 2 .int := ⟨_, _, _, _, rfl, by decide, sm_u1, rfl, Or.inl (sm_in 123 (by decide +kernel) (by decide +kernel)), sm_ty1, sm_nm1, rfl, (by decide +kernel)⟩
theorem ml_K_28 : sm_mv "UpdateDesk$Checker" 28 mm_K_holderEnd 1 5 := ⟨sm_in 276 (by decide +kernel) (by decide +kernel), sm_in 278 (by decide +kernel) (by decide +kernel), sm_in 2 (by decide +kernel) (by decide +kernel), ok_K_holderEnd, _, rfl, rfl⟩
theorem ml_K_32 : sm_mv "UpdateDesk$Checker" 32 mm_B_intAt 0 1 := ⟨sm_in 280 (by decide +kernel) (by decide +kernel), sm_in 281 (by decide +kernel) (by decide +kernel), sm_in 282 (by decide +kernel) (by decide +kernel), ok_B_intAt, _, rfl, rfl⟩
theorem fl_K_24 : sm_fl "UpdateDesk$Checker" 24 1 2 := ⟨_, _, _, rfl, by decide, sm_u1, rfl, Or.inl (sm_in 123 (by decide +kernel) (by decide +kernel))⟩
theorem ml_K_36 : sm_mv "UpdateDesk$Checker" 36 mm_K_isRightName 1 5 := ⟨sm_in 284 (by decide +kernel) (by decide +kernel), sm_in 286 (by decide +kernel) (by decide +kernel), sm_in 3 (by decide +kernel) (by decide +kernel), ok_K_isRightName, _, rfl, rfl⟩
theorem ml_K_40 : sm_mv "UpdateDesk$Checker" 40 mm_K_checkedEnd 1 4 := ⟨sm_in 326 (by decide +kernel) (by decide +kernel), sm_in 328 (by decide +kernel) (by decide +kernel), sm_in 5 (by decide +kernel) (by decide +kernel), ok_K_checkedEnd, _, rfl, rfl⟩
theorem ml_K_44 : sm_mv "UpdateDesk$Checker" 44 mm_B_at 0 1 := ⟨sm_in 302 (by decide +kernel) (by decide +kernel), sm_in 303 (by decide +kernel) (by decide +kernel), sm_in 304 (by decide +kernel) (by decide +kernel), ok_B_at, _, rfl, rfl⟩
theorem ml_K_47 : sm_mv "UpdateDesk$Checker" 47 mm_B_nameEnd 0 1 := ⟨sm_in 288 (by decide +kernel) (by decide +kernel), sm_in 289 (by decide +kernel) (by decide +kernel), sm_in 290 (by decide +kernel) (by decide +kernel), ok_B_nameEnd, _, rfl, rfl⟩
theorem fl_K_9 : sm_fl "UpdateDesk$Checker" 9 1 0 := ⟨_, _, _, rfl, by decide, sm_u1, rfl, Or.inl (sm_in 121 (by decide +kernel) (by decide +kernel))⟩
theorem ml_K_50 : sm_ms "UpdateDesk$Checker" 50 mm_K_isRightText 3 := ⟨rfl, sm_in 296 (by decide +kernel) (by decide +kernel), sm_in 297 (by decide +kernel) (by decide +kernel), ok_K_isRightText⟩
theorem ml_K_64 : sm_mv "UpdateDesk$Checker" 64 mm_K_isOneOf 1 3 := ⟨sm_in 318 (by decide +kernel) (by decide +kernel), sm_in 320 (by decide +kernel) (by decide +kernel), sm_in 4 (by decide +kernel) (by decide +kernel), ok_K_isOneOf, _, rfl, rfl⟩
theorem fl_K_20 : sm_fl "UpdateDesk$Checker" 20 1 1 := ⟨_, _, _, rfl, by decide, sm_u1, rfl, Or.inl (sm_in 122 (by decide +kernel) (by decide +kernel))⟩
theorem ml_K_54 : sm_mv "UpdateDesk$Checker" 54 mm_B_becomeDigits 0 1 := ⟨sm_in 310 (by decide +kernel) (by decide +kernel), sm_in 311 (by decide +kernel) (by decide +kernel), sm_in 312 (by decide +kernel) (by decide +kernel), ok_B_becomeDigits, _, rfl, rfl⟩
theorem fl_K_57 : sm_fl "UpdateDesk$Checker" 57 0 1 := ⟨_, _, _, rfl, by decide, sm_u0, rfl, Or.inr ⟨"UpdateDesk", sm_inN 104 (by decide +kernel) (by decide +kernel)⟩⟩
theorem ml_K_60 : sm_mN "UpdateDesk$Checker" 60 mm_D_sameRange 6 := ⟨⟨"UpdateDesk", sm_inN 314 (by decide +kernel) (by decide +kernel)⟩, sm_in 315 (by decide +kernel) (by decide +kernel), ok_D_sameRange⟩
theorem mx_K_67 : Cond.methodLink "UpdateDesk$Checker" 67 Lib.Math.max.name ∈ sm_big := sm_in 322 (by decide +kernel) (by decide +kernel)
theorem ml_K_73 : sm_mN "UpdateDesk$Checker" 73 mm_D_sameNames 4 := ⟨⟨"UpdateDesk", sm_inN 323 (by decide +kernel) (by decide +kernel)⟩, sm_in 324 (by decide +kernel) (by decide +kernel), ok_D_sameNames⟩
theorem ml_K_77 : sm_mv "UpdateDesk$Checker" 77 mm_B_valueStart 0 1 := ⟨sm_in 330 (by decide +kernel) (by decide +kernel), sm_in 293 (by decide +kernel) (by decide +kernel), sm_in 294 (by decide +kernel) (by decide +kernel), ok_B_valueStart, _, rfl, rfl⟩
theorem ml_K_80 : sm_ms "UpdateDesk$Checker" 80 mm_K_textEnd 3 := ⟨rfl, sm_in 331 (by decide +kernel) (by decide +kernel), sm_in 332 (by decide +kernel) (by decide +kernel), ok_K_textEnd⟩
theorem ml_K_84 : sm_ms "UpdateDesk$Checker" 84 mm_K_characterSize 3 := ⟨rfl, sm_in 299 (by decide +kernel) (by decide +kernel), sm_in 300 (by decide +kernel) (by decide +kernel), ok_K_characterSize⟩
theorem kc_K_87 : Cond.constant "UpdateDesk$Checker" 87 65536 ∈ sm_big := sm_in 306 (by decide +kernel) (by decide +kernel)
theorem kc_K_88 : Cond.constant "UpdateDesk$Checker" 88 55296 ∈ sm_big := sm_in 307 (by decide +kernel) (by decide +kernel)
theorem kc_K_89 : Cond.constant "UpdateDesk$Checker" 89 57343 ∈ sm_big := sm_in 308 (by decide +kernel) (by decide +kernel)
theorem kc_K_90 : Cond.constant "UpdateDesk$Checker" 90 1114111 ∈ sm_big := sm_in 309 (by decide +kernel) (by decide +kernel)
theorem fp_E_49 : sm_fp "UpdateDesk$Editor" 49 2 10 .boolean := ⟨_, _, _, _, rfl, by decide, sm_u2, rfl, Or.inl (sm_in 198 (by decide +kernel) (by decide +kernel)), sm_ty2, sm_nm2, rfl, (by decide +kernel)⟩
theorem fl_E_59 : sm_fl "UpdateDesk$Editor" 59 3 5 := ⟨_, _, _, rfl, by decide, sm_u3, rfl, Or.inr ⟨"UpdateDesk", sm_inN 148 (by decide +kernel) (by decide +kernel)⟩⟩
theorem fp_E_53 : sm_fp "UpdateDesk$Editor" 53 2 11 .int := ⟨_, _, _, _, rfl, by decide, sm_u2, rfl, Or.inl (sm_in 199 (by decide +kernel) (by decide +kernel)), sm_ty2, sm_nm2, rfl, (by decide +kernel)⟩
theorem fl_E_49 : sm_fl "UpdateDesk$Editor" 49 2 10 := ⟨_, _, _, rfl, by decide, sm_u2, rfl, Or.inl (sm_in 198 (by decide +kernel) (by decide +kernel))⟩
theorem fl_E_14 : sm_fl "UpdateDesk$Editor" 14 2 0 := ⟨_, _, _, rfl, by decide, sm_u2, rfl, Or.inl (sm_in 187 (by decide +kernel) (by decide +kernel))⟩
theorem fl_E_78 : sm_fl "UpdateDesk$Editor" 78 0 1 := ⟨_, _, _, rfl, by decide, sm_u0, rfl, Or.inr ⟨"UpdateDesk", sm_inN 103 (by decide +kernel) (by decide +kernel)⟩⟩
theorem ml_E_81 : sm_mN "UpdateDesk$Editor" 81 mm_D_deepest 3 := ⟨⟨"UpdateDesk", sm_inN 593 (by decide +kernel) (by decide +kernel)⟩, sm_in 594 (by decide +kernel) (by decide +kernel), ok_D_deepest⟩
theorem fl_E_64 : sm_fl "UpdateDesk$Editor" 64 3 0 := ⟨_, _, _, rfl, by decide, sm_u3, rfl, Or.inr ⟨"UpdateDesk", sm_inN 141 (by decide +kernel) (by decide +kernel)⟩⟩
theorem ml_E_67 : sm_mv "UpdateDesk$Editor" 67 mm_P_elementOf 3 1 := ⟨sm_in 464 (by decide +kernel) (by decide +kernel), sm_in 465 (by decide +kernel) (by decide +kernel), sm_in 466 (by decide +kernel) (by decide +kernel), ok_P_elementOf, _, rfl, rfl⟩
theorem ml_E_71 : sm_mv "UpdateDesk$Editor" 71 mm_P_codeOfPath 3 1 := ⟨sm_in 468 (by decide +kernel) (by decide +kernel), sm_in 469 (by decide +kernel) (by decide +kernel), sm_in 470 (by decide +kernel) (by decide +kernel), ok_P_codeOfPath, _, rfl, rfl⟩
theorem ml_E_74 : sm_mv "UpdateDesk$Editor" 74 mm_E_performPath 2 3 := ⟨sm_in 472 (by decide +kernel) (by decide +kernel), sm_in 474 (by decide +kernel) (by decide +kernel), sm_in 13 (by decide +kernel) (by decide +kernel), ok_E_performPath, _, rfl, rfl⟩
theorem ml_E_84 : sm_mv "UpdateDesk$Editor" 84 mm_B_nameEnd 0 1 := ⟨sm_in 476 (by decide +kernel) (by decide +kernel), sm_in 289 (by decide +kernel) (by decide +kernel), sm_in 290 (by decide +kernel) (by decide +kernel), ok_B_nameEnd, _, rfl, rfl⟩
theorem ml_E_87 : sm_mv "UpdateDesk$Editor" 87 mm_E_reach 2 4 := ⟨sm_in 477 (by decide +kernel) (by decide +kernel), sm_in 479 (by decide +kernel) (by decide +kernel), sm_in 14 (by decide +kernel) (by decide +kernel), ok_E_reach, _, rfl, rfl⟩
theorem ml_E_91 : sm_mv "UpdateDesk$Editor" 91 mm_E_setValue 2 2 := ⟨sm_in 531 (by decide +kernel) (by decide +kernel), sm_in 533 (by decide +kernel) (by decide +kernel), sm_in 20 (by decide +kernel) (by decide +kernel), ok_E_setValue, _, rfl, rfl⟩
theorem ml_E_95 : sm_mv "UpdateDesk$Editor" 95 mm_E_unsetValue 2 0 := ⟨sm_in 539 (by decide +kernel) (by decide +kernel), sm_in 541 (by decide +kernel) (by decide +kernel), sm_in 22 (by decide +kernel) (by decide +kernel), ok_E_unsetValue, _, rfl, rfl⟩
theorem fl_E_40 : sm_fl "UpdateDesk$Editor" 40 2 7 := ⟨_, _, _, rfl, by decide, sm_u2, rfl, Or.inl (sm_in 195 (by decide +kernel) (by decide +kernel))⟩
theorem ml_E_99 : sm_mv "UpdateDesk$Editor" 99 mm_E_increase 2 2 := ⟨sm_in 543 (by decide +kernel) (by decide +kernel), sm_in 545 (by decide +kernel) (by decide +kernel), sm_in 23 (by decide +kernel) (by decide +kernel), ok_E_increase, _, rfl, rfl⟩
theorem ml_E_102 : sm_mv "UpdateDesk$Editor" 102 mm_E_addItem 2 2 := ⟨sm_in 561 (by decide +kernel) (by decide +kernel), sm_in 563 (by decide +kernel) (by decide +kernel), sm_in 24 (by decide +kernel) (by decide +kernel), ok_E_addItem, _, rfl, rfl⟩
theorem ml_E_105 : sm_mv "UpdateDesk$Editor" 105 mm_E_pullItems 2 2 := ⟨sm_in 566 (by decide +kernel) (by decide +kernel), sm_in 568 (by decide +kernel) (by decide +kernel), sm_in 25 (by decide +kernel) (by decide +kernel), ok_E_pullItems, _, rfl, rfl⟩
theorem ml_E_108 : sm_mv "UpdateDesk$Editor" 108 mm_E_hasItem 2 2 := ⟨sm_in 589 (by decide +kernel) (by decide +kernel), sm_in 591 (by decide +kernel) (by decide +kernel), sm_in 27 (by decide +kernel) (by decide +kernel), ok_E_hasItem, _, rfl, rfl⟩
theorem sm_iv0_5 {v : Int} (a1 : 0 ≤ v) (a2 : v ≤ 5) : v = 0 ∨ v = 1 ∨ v = 2 ∨ v = 3 ∨ v = 4 ∨ v = 5 := by omega
theorem fp_E_33 : sm_fp "UpdateDesk$Editor" 33 2 5 .int := ⟨_, _, _, _, rfl, by decide, sm_u2, rfl, Or.inl (sm_in 193 (by decide +kernel) (by decide +kernel)), sm_ty2, sm_nm2, rfl, (by decide +kernel)⟩
theorem ml_E_112 : sm_mv "UpdateDesk$Editor" 112 mm_E_enter 2 2 := ⟨sm_in 481 (by decide +kernel) (by decide +kernel), sm_in 483 (by decide +kernel) (by decide +kernel), sm_in 15 (by decide +kernel) (by decide +kernel), ok_E_enter, _, rfl, rfl⟩
theorem fp_E_46 : sm_fp "UpdateDesk$Editor" 46 2 9 .int := ⟨_, _, _, _, rfl, by decide, sm_u2, rfl, Or.inl (sm_in 197 (by decide +kernel) (by decide +kernel)), sm_ty2, sm_nm2, rfl, (by decide +kernel)⟩
theorem fl_E_46 : sm_fl "UpdateDesk$Editor" 46 2 9 := ⟨_, _, _, rfl, by decide, sm_u2, rfl, Or.inl (sm_in 197 (by decide +kernel) (by decide +kernel))⟩
theorem fp_E_43 : sm_fp "UpdateDesk$Editor" 43 2 8 .int := ⟨_, _, _, _, rfl, by decide, sm_u2, rfl, Or.inl (sm_in 196 (by decide +kernel) (by decide +kernel)), sm_ty2, sm_nm2, rfl, (by decide +kernel)⟩
theorem fl_E_43 : sm_fl "UpdateDesk$Editor" 43 2 8 := ⟨_, _, _, rfl, by decide, sm_u2, rfl, Or.inl (sm_in 196 (by decide +kernel) (by decide +kernel))⟩
theorem ml_E_116 : sm_ms "UpdateDesk$Editor" 116 mm_E_stepEnd 3 := ⟨rfl, sm_in 485 (by decide +kernel) (by decide +kernel), sm_in 486 (by decide +kernel) (by decide +kernel), ok_E_stepEnd⟩
theorem ml_E_119 : sm_mv "UpdateDesk$Editor" 119 mm_E_findStep 2 1 := ⟨sm_in 489 (by decide +kernel) (by decide +kernel), sm_in 491 (by decide +kernel) (by decide +kernel), sm_in 16 (by decide +kernel) (by decide +kernel), ok_E_findStep, _, rfl, rfl⟩
theorem fl_E_24 : sm_fl "UpdateDesk$Editor" 24 2 2 := ⟨_, _, _, rfl, by decide, sm_u2, rfl, Or.inl (sm_in 190 (by decide +kernel) (by decide +kernel))⟩
theorem ml_E_123 : sm_mv "UpdateDesk$Editor" 123 mm_E_addElement 2 5 := ⟨sm_in 501 (by decide +kernel) (by decide +kernel), sm_in 503 (by decide +kernel) (by decide +kernel), sm_in 18 (by decide +kernel) (by decide +kernel), ok_E_addElement, _, rfl, rfl⟩
theorem ml_E_127 : sm_mv "UpdateDesk$Editor" 127 mm_B_at 0 1 := ⟨sm_in 488 (by decide +kernel) (by decide +kernel), sm_in 303 (by decide +kernel) (by decide +kernel), sm_in 304 (by decide +kernel) (by decide +kernel), ok_B_at, _, rfl, rfl⟩
theorem ml_E_130 : sm_mN "UpdateDesk$Editor" 130 mm_D_isHolder 1 := ⟨⟨"UpdateDesk", sm_inN 527 (by decide +kernel) (by decide +kernel)⟩, sm_in 528 (by decide +kernel) (by decide +kernel), ok_D_isHolder⟩
theorem ml_E_134 : sm_mv "UpdateDesk$Editor" 134 mm_B_valueStart 0 1 := ⟨sm_in 530 (by decide +kernel) (by decide +kernel), sm_in 293 (by decide +kernel) (by decide +kernel), sm_in 294 (by decide +kernel) (by decide +kernel), ok_B_valueStart, _, rfl, rfl⟩
theorem fl_E_33 : sm_fl "UpdateDesk$Editor" 33 2 5 := ⟨_, _, _, rfl, by decide, sm_u2, rfl, Or.inl (sm_in 193 (by decide +kernel) (by decide +kernel))⟩
theorem fl_E_20 : sm_fl "UpdateDesk$Editor" 20 2 1 := ⟨_, _, _, rfl, by decide, sm_u2, rfl, Or.inl (sm_in 189 (by decide +kernel) (by decide +kernel))⟩
theorem fp_E_37 : sm_fp "UpdateDesk$Editor" 37 2 6 .int := ⟨_, _, _, _, rfl, by decide, sm_u2, rfl, Or.inl (sm_in 194 (by decide +kernel) (by decide +kernel)), sm_ty2, sm_nm2, rfl, (by decide +kernel)⟩
theorem ml_E_137 : sm_mv "UpdateDesk$Editor" 137 mm_E_holder 2 0 := ⟨sm_in 493 (by decide +kernel) (by decide +kernel), sm_in 495 (by decide +kernel) (by decide +kernel), sm_in 17 (by decide +kernel) (by decide +kernel), ok_E_holder, _, rfl, rfl⟩
theorem ml_E_140 : sm_mv "UpdateDesk$Editor" 140 mm_B_lastOf 0 1 := ⟨sm_in 497 (by decide +kernel) (by decide +kernel), sm_in 346 (by decide +kernel) (by decide +kernel), sm_in 347 (by decide +kernel) (by decide +kernel), ok_B_lastOf, _, rfl, rfl⟩
theorem ml_E_143 : sm_mN "UpdateDesk$Editor" 143 mm_D_sameRange 6 := ⟨⟨"UpdateDesk", sm_inN 498 (by decide +kernel) (by decide +kernel)⟩, sm_in 315 (by decide +kernel) (by decide +kernel), ok_D_sameRange⟩
theorem ml_E_147 : sm_mv "UpdateDesk$Editor" 147 mm_B_valueEnd 0 1 := ⟨sm_in 499 (by decide +kernel) (by decide +kernel), sm_in 351 (by decide +kernel) (by decide +kernel), sm_in 352 (by decide +kernel) (by decide +kernel), ok_B_valueEnd, _, rfl, rfl⟩
theorem fp_E_40 : sm_fp "UpdateDesk$Editor" 40 2 7 .int := ⟨_, _, _, _, rfl, by decide, sm_u2, rfl, Or.inl (sm_in 195 (by decide +kernel) (by decide +kernel)), sm_ty2, sm_nm2, rfl, (by decide +kernel)⟩
theorem fl_E_37 : sm_fl "UpdateDesk$Editor" 37 2 6 := ⟨_, _, _, rfl, by decide, sm_u2, rfl, Or.inl (sm_in 194 (by decide +kernel) (by decide +kernel))⟩
theorem fl_E_27 : sm_fl "UpdateDesk$Editor" 27 2 3 := ⟨_, _, _, rfl, by decide, sm_u2, rfl, Or.inl (sm_in 191 (by decide +kernel) (by decide +kernel))⟩
theorem ml_E_150 : sm_mv "UpdateDesk$Editor" 150 mm_B_becomeDigits 0 1 := ⟨sm_in 500 (by decide +kernel) (by decide +kernel), sm_in 311 (by decide +kernel) (by decide +kernel), sm_in 312 (by decide +kernel) (by decide +kernel), ok_B_becomeDigits, _, rfl, rfl⟩
theorem ml_E_153 : sm_mv "UpdateDesk$Editor" 153 mm_E_replaceValue 2 4 := ⟨sm_in 535 (by decide +kernel) (by decide +kernel), sm_in 537 (by decide +kernel) (by decide +kernel), sm_in 21 (by decide +kernel) (by decide +kernel), ok_E_replaceValue, _, rfl, rfl⟩
theorem ml_E_157 : sm_mv "UpdateDesk$Editor" 157 mm_E_resize 2 3 := ⟨sm_in 505 (by decide +kernel) (by decide +kernel), sm_in 507 (by decide +kernel) (by decide +kernel), sm_in 19 (by decide +kernel) (by decide +kernel), ok_E_resize, _, rfl, rfl⟩
theorem ml_E_161 : sm_mN "UpdateDesk$Editor" 161 mm_D_isNumber 1 := ⟨⟨"UpdateDesk", sm_inN 547 (by decide +kernel) (by decide +kernel)⟩, sm_in 445 (by decide +kernel) (by decide +kernel), ok_D_isNumber⟩
theorem ml_E_164 : sm_mv "UpdateDesk$Editor" 164 mm_B_numberOf 0 1 := ⟨sm_in 548 (by decide +kernel) (by decide +kernel), sm_in 549 (by decide +kernel) (by decide +kernel), sm_in 550 (by decide +kernel) (by decide +kernel), ok_B_numberOf, _, rfl, rfl⟩
theorem fl_E_30 : sm_fl "UpdateDesk$Editor" 30 2 4 := ⟨_, _, _, rfl, by decide, sm_u2, rfl, Or.inl (sm_in 192 (by decide +kernel) (by decide +kernel))⟩
theorem ml_E_168 : sm_mv "UpdateDesk$Editor" 168 mm_B_becomeNumber 0 1 := ⟨sm_in 557 (by decide +kernel) (by decide +kernel), sm_in 558 (by decide +kernel) (by decide +kernel), sm_in 559 (by decide +kernel) (by decide +kernel), ok_B_becomeNumber, _, rfl, rfl⟩
theorem ml_E_172 : sm_mv "UpdateDesk$Editor" 172 mm_B_countElements 0 1 := ⟨sm_in 565 (by decide +kernel) (by decide +kernel), sm_in 342 (by decide +kernel) (by decide +kernel), sm_in 343 (by decide +kernel) (by decide +kernel), ok_B_countElements, _, rfl, rfl⟩
theorem ml_E_175 : sm_mN "UpdateDesk$Editor" 175 mm_D_sameValues 5 := ⟨⟨"UpdateDesk", sm_inN 570 (by decide +kernel) (by decide +kernel)⟩, sm_in 571 (by decide +kernel) (by decide +kernel), ok_D_sameValues⟩
theorem ml_E_179 : sm_mv "UpdateDesk$Editor" 179 mm_E_moveItem 2 4 := ⟨sm_in 585 (by decide +kernel) (by decide +kernel), sm_in 587 (by decide +kernel) (by decide +kernel), sm_in 26 (by decide +kernel) (by decide +kernel), ok_E_moveItem, _, rfl, rfl⟩
theorem ml_E_183 : sm_mv "UpdateDesk$Editor" 183 mm_B_put 0 2 := ⟨sm_in 522 (by decide +kernel) (by decide +kernel), sm_in 519 (by decide +kernel) (by decide +kernel), sm_in 520 (by decide +kernel) (by decide +kernel), ok_B_put, _, rfl, rfl⟩
theorem ml_E_186 : sm_mv "UpdateDesk$Editor" 186 mm_B_write 0 4 := ⟨sm_in 523 (by decide +kernel) (by decide +kernel), sm_in 524 (by decide +kernel) (by decide +kernel), sm_in 525 (by decide +kernel) (by decide +kernel), ok_B_write, _, rfl, rfl⟩
theorem ml_E_190 : sm_mv "UpdateDesk$Editor" 190 mm_B_resize 0 3 := ⟨sm_in 509 (by decide +kernel) (by decide +kernel), sm_in 510 (by decide +kernel) (by decide +kernel), sm_in 511 (by decide +kernel) (by decide +kernel), ok_B_resize, _, rfl, rfl⟩
theorem ml_E_191 : sm_mv "UpdateDesk$Editor" 191 mm_B_intAt 0 1 := ⟨sm_in 513 (by decide +kernel) (by decide +kernel), sm_in 281 (by decide +kernel) (by decide +kernel), sm_in 282 (by decide +kernel) (by decide +kernel), ok_B_intAt, _, rfl, rfl⟩
theorem ml_E_194 : sm_mv "UpdateDesk$Editor" 194 mm_B_putInt 0 2 := ⟨sm_in 514 (by decide +kernel) (by decide +kernel), sm_in 515 (by decide +kernel) (by decide +kernel), sm_in 516 (by decide +kernel) (by decide +kernel), ok_B_putInt, _, rfl, rfl⟩
theorem fp_P_33 : sm_fp "UpdateDesk$Plan" 33 3 5 .int := ⟨_, _, _, _, rfl, by decide, sm_u3, rfl, Or.inl (sm_in 147 (by decide +kernel) (by decide +kernel)), sm_ty3, sm_nm3, rfl, (by decide +kernel)⟩
theorem fl_P_14 : sm_fl "UpdateDesk$Plan" 14 3 0 := ⟨_, _, _, rfl, by decide, sm_u3, rfl, Or.inl (sm_in 140 (by decide +kernel) (by decide +kernel))⟩
theorem ml_P_43 : sm_mv "UpdateDesk$Plan" 43 mm_B_lastOf 0 1 := ⟨sm_in 363 (by decide +kernel) (by decide +kernel), sm_in 346 (by decide +kernel) (by decide +kernel), sm_in 347 (by decide +kernel) (by decide +kernel), ok_B_lastOf, _, rfl, rfl⟩
theorem fp_P_37 : sm_fp "UpdateDesk$Plan" 37 3 6 .int := ⟨_, _, _, _, rfl, by decide, sm_u3, rfl, Or.inl (sm_in 150 (by decide +kernel) (by decide +kernel)), sm_ty3, sm_nm3, rfl, (by decide +kernel)⟩
theorem fp_P_40 : sm_fp "UpdateDesk$Plan" 40 3 7 .int := ⟨_, _, _, _, rfl, by decide, sm_u3, rfl, Or.inl (sm_in 152 (by decide +kernel) (by decide +kernel)), sm_ty3, sm_nm3, rfl, (by decide +kernel)⟩
theorem ml_P_47 : sm_mv "UpdateDesk$Plan" 47 mm_P_studyOperator 3 1 := ⟨sm_in 364 (by decide +kernel) (by decide +kernel), sm_in 366 (by decide +kernel) (by decide +kernel), sm_in 6 (by decide +kernel) (by decide +kernel), ok_P_studyOperator, _, rfl, rfl⟩
theorem ml_P_50 : sm_mv "UpdateDesk$Plan" 50 mm_B_valueEnd 0 1 := ⟨sm_in 455 (by decide +kernel) (by decide +kernel), sm_in 351 (by decide +kernel) (by decide +kernel), sm_in 352 (by decide +kernel) (by decide +kernel), ok_B_valueEnd, _, rfl, rfl⟩
theorem ml_P_53 : sm_mv "UpdateDesk$Plan" 53 mm_P_codeOf 3 1 := ⟨sm_in 368 (by decide +kernel) (by decide +kernel), sm_in 370 (by decide +kernel) (by decide +kernel), sm_in 7 (by decide +kernel) (by decide +kernel), ok_P_codeOf, _, rfl, rfl⟩
theorem ml_P_56 : sm_mv "UpdateDesk$Plan" 56 mm_B_at 0 1 := ⟨sm_in 395 (by decide +kernel) (by decide +kernel), sm_in 303 (by decide +kernel) (by decide +kernel), sm_in 304 (by decide +kernel) (by decide +kernel), ok_B_at, _, rfl, rfl⟩
theorem ml_P_59 : sm_mv "UpdateDesk$Plan" 59 mm_B_valueStart 0 1 := ⟨sm_in 434 (by decide +kernel) (by decide +kernel), sm_in 293 (by decide +kernel) (by decide +kernel), sm_in 294 (by decide +kernel) (by decide +kernel), ok_B_valueStart, _, rfl, rfl⟩
theorem ml_P_62 : sm_mv "UpdateDesk$Plan" 62 mm_P_studyPath 3 2 := ⟨sm_in 435 (by decide +kernel) (by decide +kernel), sm_in 437 (by decide +kernel) (by decide +kernel), sm_in 9 (by decide +kernel) (by decide +kernel), ok_P_studyPath, _, rfl, rfl⟩
theorem ml_P_66 : sm_mv "UpdateDesk$Plan" 66 mm_P_enlist 3 2 := ⟨sm_in 451 (by decide +kernel) (by decide +kernel), sm_in 453 (by decide +kernel) (by decide +kernel), sm_in 12 (by decide +kernel) (by decide +kernel), ok_P_enlist, _, rfl, rfl⟩
theorem ml_P_70 : sm_mv "UpdateDesk$Plan" 70 mm_B_nameEnd 0 1 := ⟨sm_in 439 (by decide +kernel) (by decide +kernel), sm_in 289 (by decide +kernel) (by decide +kernel), sm_in 290 (by decide +kernel) (by decide +kernel), ok_B_nameEnd, _, rfl, rfl⟩
theorem ml_P_73 : sm_mv "UpdateDesk$Plan" 73 mm_P_isPath 3 2 := ⟨sm_in 440 (by decide +kernel) (by decide +kernel), sm_in 442 (by decide +kernel) (by decide +kernel), sm_in 10 (by decide +kernel) (by decide +kernel), ok_P_isPath, _, rfl, rfl⟩
theorem ml_P_77 : sm_mN "UpdateDesk$Plan" 77 mm_D_isNumber 1 := ⟨⟨"UpdateDesk", sm_inN 444 (by decide +kernel) (by decide +kernel)⟩, sm_in 445 (by decide +kernel) (by decide +kernel), ok_D_isNumber⟩
theorem fl_P_33 : sm_fl "UpdateDesk$Plan" 33 3 5 := ⟨_, _, _, rfl, by decide, sm_u3, rfl, Or.inl (sm_in 147 (by decide +kernel) (by decide +kernel))⟩
theorem fl_P_20 : sm_fl "UpdateDesk$Plan" 20 3 1 := ⟨_, _, _, rfl, by decide, sm_u3, rfl, Or.inl (sm_in 143 (by decide +kernel) (by decide +kernel))⟩
theorem ml_P_81 : sm_mv "UpdateDesk$Plan" 81 mm_P_clash 3 2 := ⟨sm_in 447 (by decide +kernel) (by decide +kernel), sm_in 449 (by decide +kernel) (by decide +kernel), sm_in 11 (by decide +kernel) (by decide +kernel), ok_P_clash, _, rfl, rfl⟩
theorem fl_P_24 : sm_fl "UpdateDesk$Plan" 24 3 2 := ⟨_, _, _, rfl, by decide, sm_u3, rfl, Or.inl (sm_in 144 (by decide +kernel) (by decide +kernel))⟩
theorem fl_P_27 : sm_fl "UpdateDesk$Plan" 27 3 3 := ⟨_, _, _, rfl, by decide, sm_u3, rfl, Or.inl (sm_in 145 (by decide +kernel) (by decide +kernel))⟩
theorem fl_P_37 : sm_fl "UpdateDesk$Plan" 37 3 6 := ⟨_, _, _, rfl, by decide, sm_u3, rfl, Or.inl (sm_in 150 (by decide +kernel) (by decide +kernel))⟩
theorem fl_P_30 : sm_fl "UpdateDesk$Plan" 30 3 4 := ⟨_, _, _, rfl, by decide, sm_u3, rfl, Or.inl (sm_in 146 (by decide +kernel) (by decide +kernel))⟩
theorem fl_P_40 : sm_fl "UpdateDesk$Plan" 40 3 7 := ⟨_, _, _, rfl, by decide, sm_u3, rfl, Or.inl (sm_in 152 (by decide +kernel) (by decide +kernel))⟩
theorem ml_P_84 : sm_ms "UpdateDesk$Plan" 84 mm_P_textOf 1 := ⟨rfl, sm_in 372 (by decide +kernel) (by decide +kernel), sm_in 373 (by decide +kernel) (by decide +kernel), ok_P_textOf⟩
theorem ml_P_88 : sm_mv "UpdateDesk$Plan" 88 mm_P_isNamed 3 2 := ⟨sm_in 381 (by decide +kernel) (by decide +kernel), sm_in 383 (by decide +kernel) (by decide +kernel), sm_in 8 (by decide +kernel) (by decide +kernel), ok_P_isNamed, _, rfl, rfl⟩
theorem sm_iv0_4 {v : Int} (a1 : 0 ≤ v) (a2 : v ≤ 4) : v = 0 ∨ v = 1 ∨ v = 2 ∨ v = 3 ∨ v = 4 := by omega
theorem fl_P_114 : sm_fl "UpdateDesk$Plan" 114 0 1 := ⟨_, _, _, rfl, by decide, sm_u0, rfl, Or.inr ⟨"UpdateDesk", sm_inN 105 (by decide +kernel) (by decide +kernel)⟩⟩
theorem fl_D_14 : sm_fl "UpdateDesk" 14 4 0 := ⟨_, _, _, rfl, by decide, sm_u4, rfl, Or.inl (sm_in 227 (by decide +kernel) (by decide +kernel))⟩
theorem fl_D_57 : sm_fl "UpdateDesk" 57 0 1 := ⟨_, _, _, rfl, by decide, sm_u0, rfl, Or.inr ⟨"UpdateDesk", sm_inN 102 (by decide +kernel) (by decide +kernel)⟩⟩
theorem ml_D_60 : sm_mv "UpdateDesk" 60 mm_B_addHighestFirst 0 1 := ⟨sm_in 256 (by decide +kernel) (by decide +kernel), sm_in 257 (by decide +kernel) (by decide +kernel), sm_in 258 (by decide +kernel) (by decide +kernel), ok_B_addHighestFirst, _, rfl, rfl⟩
theorem ml_D_63 : sm_mv "UpdateDesk" 63 mm_D_slotOf 4 1 := ⟨sm_in 264 (by decide +kernel) (by decide +kernel), sm_in 266 (by decide +kernel) (by decide +kernel), sm_in 0 (by decide +kernel) (by decide +kernel), ok_D_slotOf, _, rfl, rfl⟩
theorem ml_D_67 : sm_mv "UpdateDesk" 67 mm_D_tapeHas 4 1 := ⟨sm_in 268 (by decide +kernel) (by decide +kernel), sm_in 270 (by decide +kernel) (by decide +kernel), sm_in 1 (by decide +kernel) (by decide +kernel), ok_D_tapeHas, _, rfl, rfl⟩
theorem fl_D_25 : sm_fl "UpdateDesk" 25 4 2 := ⟨_, _, _, rfl, by decide, sm_u4, rfl, Or.inl (sm_in 229 (by decide +kernel) (by decide +kernel))⟩
theorem ml_D_71 : sm_mv "UpdateDesk" 71 mm_K_isDocument 1 2 := ⟨sm_in 272 (by decide +kernel) (by decide +kernel), sm_in 273 (by decide +kernel) (by decide +kernel), sm_in 274 (by decide +kernel) (by decide +kernel), ok_K_isDocument, _, rfl, rfl⟩
theorem ml_D_75 : sm_mv "UpdateDesk" 75 mm_B_become 0 2 := ⟨sm_in 334 (by decide +kernel) (by decide +kernel), sm_in 335 (by decide +kernel) (by decide +kernel), sm_in 336 (by decide +kernel) (by decide +kernel), ok_B_become, _, rfl, rfl⟩
theorem fp_D_57 : sm_fp "UpdateDesk" 57 0 1 .int := ⟨_, _, _, _, rfl, by decide, sm_u0, rfl, Or.inr ⟨"UpdateDesk", sm_inN 102 (by decide +kernel) (by decide +kernel)⟩, sm_ty0, sm_nm0, rfl, (by decide +kernel)⟩
theorem ml_D_79 : sm_mv "UpdateDesk" 79 mm_B_countElements 0 1 := ⟨sm_in 341 (by decide +kernel) (by decide +kernel), sm_in 342 (by decide +kernel) (by decide +kernel), sm_in 343 (by decide +kernel) (by decide +kernel), ok_B_countElements, _, rfl, rfl⟩
theorem fl_D_32 : sm_fl "UpdateDesk" 32 4 3 := ⟨_, _, _, rfl, by decide, sm_u4, rfl, Or.inl (sm_in 230 (by decide +kernel) (by decide +kernel))⟩
theorem fl_D_83 : sm_fl "UpdateDesk" 83 3 0 := ⟨_, _, _, rfl, by decide, sm_u3, rfl, Or.inr ⟨"UpdateDesk", sm_inN 142 (by decide +kernel) (by decide +kernel)⟩⟩
theorem fp_D_43 : sm_fp "UpdateDesk" 43 4 5 .boolean := ⟨_, _, _, _, rfl, by decide, sm_u4, rfl, Or.inl (sm_in 232 (by decide +kernel) (by decide +kernel)), sm_ty4, sm_nm4, rfl, (by decide +kernel)⟩
theorem ml_D_86 : sm_mv "UpdateDesk" 86 mm_P_study 3 0 := ⟨sm_in 359 (by decide +kernel) (by decide +kernel), sm_in 360 (by decide +kernel) (by decide +kernel), sm_in 361 (by decide +kernel) (by decide +kernel), ok_P_study, _, rfl, rfl⟩
theorem fl_D_96 : sm_fl "UpdateDesk" 96 3 5 := ⟨_, _, _, rfl, by decide, sm_u3, rfl, Or.inr ⟨"UpdateDesk", sm_inN 149 (by decide +kernel) (by decide +kernel)⟩⟩
theorem fl_D_90 : sm_fl "UpdateDesk" 90 3 6 := ⟨_, _, _, rfl, by decide, sm_u3, rfl, Or.inr ⟨"UpdateDesk", sm_inN 151 (by decide +kernel) (by decide +kernel)⟩⟩
theorem fp_D_47 : sm_fp "UpdateDesk" 47 4 6 .int := ⟨_, _, _, _, rfl, by decide, sm_u4, rfl, Or.inl (sm_in 233 (by decide +kernel) (by decide +kernel)), sm_ty4, sm_nm4, rfl, (by decide +kernel)⟩
theorem fl_D_93 : sm_fl "UpdateDesk" 93 3 7 := ⟨_, _, _, rfl, by decide, sm_u3, rfl, Or.inr ⟨"UpdateDesk", sm_inN 153 (by decide +kernel) (by decide +kernel)⟩⟩
theorem fp_D_51 : sm_fp "UpdateDesk" 51 4 7 .int := ⟨_, _, _, _, rfl, by decide, sm_u4, rfl, Or.inl (sm_in 234 (by decide +kernel) (by decide +kernel)), sm_ty4, sm_nm4, rfl, (by decide +kernel)⟩
theorem fl_D_43 : sm_fl "UpdateDesk" 43 4 5 := ⟨_, _, _, rfl, by decide, sm_u4, rfl, Or.inl (sm_in 232 (by decide +kernel) (by decide +kernel))⟩
theorem fl_D_39 : sm_fl "UpdateDesk" 39 4 4 := ⟨_, _, _, rfl, by decide, sm_u4, rfl, Or.inl (sm_in 231 (by decide +kernel) (by decide +kernel))⟩
theorem fl_D_99 : sm_fl "UpdateDesk" 99 2 0 := ⟨_, _, _, rfl, by decide, sm_u2, rfl, Or.inr ⟨"UpdateDesk", sm_inN 188 (by decide +kernel) (by decide +kernel)⟩⟩
theorem ml_D_102 : sm_mv "UpdateDesk" 102 mm_E_perform 2 1 := ⟨sm_in 460 (by decide +kernel) (by decide +kernel), sm_in 461 (by decide +kernel) (by decide +kernel), sm_in 462 (by decide +kernel) (by decide +kernel), ok_E_perform, _, rfl, rfl⟩
theorem fl_D_106 : sm_fl "UpdateDesk" 106 2 11 := ⟨_, _, _, rfl, by decide, sm_u2, rfl, Or.inr ⟨"UpdateDesk", sm_inN 200 (by decide +kernel) (by decide +kernel)⟩⟩
theorem ml_D_109 : sm_mv "UpdateDesk" 109 mm_P_operatorOf 3 1 := ⟨sm_in 598 (by decide +kernel) (by decide +kernel), sm_in 599 (by decide +kernel) (by decide +kernel), sm_in 600 (by decide +kernel) (by decide +kernel), ok_P_operatorOf, _, rfl, rfl⟩
theorem ml_D_112 : sm_mv "UpdateDesk" 112 mm_P_numberOf 3 1 := ⟨sm_in 602 (by decide +kernel) (by decide +kernel), sm_in 603 (by decide +kernel) (by decide +kernel), sm_in 604 (by decide +kernel) (by decide +kernel), ok_P_numberOf, _, rfl, rfl⟩
theorem fl_D_51 : sm_fl "UpdateDesk" 51 4 7 := ⟨_, _, _, rfl, by decide, sm_u4, rfl, Or.inl (sm_in 234 (by decide +kernel) (by decide +kernel))⟩
theorem fl_D_47 : sm_fl "UpdateDesk" 47 4 6 := ⟨_, _, _, rfl, by decide, sm_u4, rfl, Or.inl (sm_in 233 (by decide +kernel) (by decide +kernel))⟩
theorem ml_D_115 : sm_ms "UpdateDesk" 115 mm_D_deepest 3 := ⟨rfl, sm_in 596 (by decide +kernel) (by decide +kernel), sm_in 594 (by decide +kernel) (by decide +kernel), ok_D_deepest⟩
theorem sm_iv0_2 {v : Int} (a1 : 0 ≤ v) (a2 : v ≤ 2) : v = 0 ∨ v = 1 ∨ v = 2 := by omega
theorem ml_D_119 : sm_mv "UpdateDesk" 119 mm_B_at 0 1 := ⟨sm_in 317 (by decide +kernel) (by decide +kernel), sm_in 303 (by decide +kernel) (by decide +kernel), sm_in 304 (by decide +kernel) (by decide +kernel), ok_B_at, _, rfl, rfl⟩
theorem fl_D_18 : sm_fl "UpdateDesk" 18 4 1 := ⟨_, _, _, rfl, by decide, sm_u4, rfl, Or.inl (sm_in 228 (by decide +kernel) (by decide +kernel))⟩
theorem ml_D_122 : sm_mv "UpdateDesk" 122 mm_B_lastOf 0 1 := ⟨sm_in 580 (by decide +kernel) (by decide +kernel), sm_in 346 (by decide +kernel) (by decide +kernel), sm_in 347 (by decide +kernel) (by decide +kernel), ok_B_lastOf, _, rfl, rfl⟩
theorem ml_D_125 : sm_ms "UpdateDesk" 125 mm_D_isHolder 1 := ⟨rfl, sm_in 576 (by decide +kernel) (by decide +kernel), sm_in 528 (by decide +kernel) (by decide +kernel), ok_D_isHolder⟩
theorem ml_D_128 : sm_mv "UpdateDesk" 128 mm_B_valueStart 0 1 := ⟨sm_in 575 (by decide +kernel) (by decide +kernel), sm_in 293 (by decide +kernel) (by decide +kernel), sm_in 294 (by decide +kernel) (by decide +kernel), ok_B_valueStart, _, rfl, rfl⟩
theorem mx_D_131 : Cond.methodLink "UpdateDesk" 131 Lib.Math.max.name ∈ sm_big := sm_in 597 (by decide +kernel) (by decide +kernel)
theorem ml_D_137 : sm_mv "UpdateDesk" 137 mm_B_valueEnd 0 1 := ⟨sm_in 583 (by decide +kernel) (by decide +kernel), sm_in 351 (by decide +kernel) (by decide +kernel), sm_in 352 (by decide +kernel) (by decide +kernel), ok_B_valueEnd, _, rfl, rfl⟩
theorem ml_D_140 : sm_ms "UpdateDesk" 140 mm_D_isNumber 1 := ⟨rfl, sm_in 573 (by decide +kernel) (by decide +kernel), sm_in 445 (by decide +kernel) (by decide +kernel), ok_D_isNumber⟩
theorem ml_D_143 : sm_mv "UpdateDesk" 143 mm_B_numberOf 0 1 := ⟨sm_in 574 (by decide +kernel) (by decide +kernel), sm_in 549 (by decide +kernel) (by decide +kernel), sm_in 550 (by decide +kernel) (by decide +kernel), ok_B_numberOf, _, rfl, rfl⟩
theorem ml_D_150 : sm_ms "UpdateDesk" 150 mm_D_sameRange 6 := ⟨rfl, sm_in 584 (by decide +kernel) (by decide +kernel), sm_in 315 (by decide +kernel) (by decide +kernel), ok_D_sameRange⟩
theorem ml_D_146 : sm_ms "UpdateDesk" 146 mm_D_sameHolders 5 := ⟨rfl, sm_in 577 (by decide +kernel) (by decide +kernel), sm_in 578 (by decide +kernel) (by decide +kernel), ok_D_sameHolders⟩
theorem ml_D_154 : sm_ms "UpdateDesk" 154 mm_D_sameNames 4 := ⟨rfl, sm_in 581 (by decide +kernel) (by decide +kernel), sm_in 324 (by decide +kernel) (by decide +kernel), ok_D_sameNames⟩
theorem ml_D_158 : sm_ms "UpdateDesk" 158 mm_D_sameValues 5 := ⟨rfl, sm_in 582 (by decide +kernel) (by decide +kernel), sm_in 571 (by decide +kernel) (by decide +kernel), ok_D_sameValues⟩
theorem fl_M_7 : sm_fl "UpdateDeskModel" 7 5 1 := ⟨_, _, _, rfl, by decide, sm_u5, rfl, Or.inl (sm_in 628 (by decide +kernel) (by decide +kernel))⟩
theorem ml_M_73 : sm_mv "UpdateDeskModel" 73 mm_M_at 5 1 := ⟨sm_in 737 (by decide +kernel) (by decide +kernel), sm_in 739 (by decide +kernel) (by decide +kernel), sm_in 32 (by decide +kernel) (by decide +kernel), ok_M_at, _, rfl, rfl⟩
theorem kc_M_77 : Cond.constant "UpdateDeskModel" 77 65536 ∈ sm_big := sm_in 741 (by decide +kernel) (by decide +kernel)
theorem kc_M_78 : Cond.constant "UpdateDeskModel" 78 16777216 ∈ sm_big := sm_in 742 (by decide +kernel) (by decide +kernel)
theorem fl_M_79 : sm_fl "UpdateDeskModel" 79 5 2 := ⟨_, _, _, rfl, by decide, sm_u5, rfl, Or.inl (sm_in 629 (by decide +kernel) (by decide +kernel))⟩
theorem fp_M_79 : sm_fp "UpdateDeskModel" 79 5 2 .int := ⟨_, _, _, _, rfl, by decide, sm_u5, rfl, Or.inl (sm_in 629 (by decide +kernel) (by decide +kernel)), sm_ty5, sm_nm5, rfl, (by decide +kernel)⟩
theorem ml_M_82 : sm_mv "UpdateDeskModel" 82 mm_M_put 5 1 := ⟨sm_in 714 (by decide +kernel) (by decide +kernel), sm_in 716 (by decide +kernel) (by decide +kernel), sm_in 28 (by decide +kernel) (by decide +kernel), ok_M_put, _, rfl, rfl⟩
theorem kc_M_86 : Cond.constant "UpdateDeskModel" 86 65535 ∈ sm_big := sm_in 762 (by decide +kernel) (by decide +kernel)
theorem kc_M_87 : Cond.constant "UpdateDeskModel" 87 1114112 ∈ sm_big := sm_in 763 (by decide +kernel) (by decide +kernel)
theorem kc_M_88 : Cond.constant "UpdateDeskModel" 88 55296 ∈ sm_big := sm_in 764 (by decide +kernel) (by decide +kernel)
theorem kc_M_89 : Cond.constant "UpdateDeskModel" 89 57343 ∈ sm_big := sm_in 765 (by decide +kernel) (by decide +kernel)
theorem ml_M_90 : sm_mv "UpdateDeskModel" 90 mm_M_character 5 2 := ⟨sm_in 758 (by decide +kernel) (by decide +kernel), sm_in 760 (by decide +kernel) (by decide +kernel), sm_in 36 (by decide +kernel) (by decide +kernel), ok_M_character, _, rfl, rfl⟩
theorem fl_M_20 : sm_fl "UpdateDeskModel" 20 5 7 := ⟨_, _, _, rfl, by decide, sm_u5, rfl, Or.inl (sm_in 634 (by decide +kernel) (by decide +kernel))⟩
theorem fl_M_94 : sm_fl "UpdateDeskModel" 94 5 6 := ⟨_, _, _, rfl, by decide, sm_u5, rfl, Or.inl (sm_in 633 (by decide +kernel) (by decide +kernel))⟩
theorem fl_M_24 : sm_fl "UpdateDeskModel" 24 5 8 := ⟨_, _, _, rfl, by decide, sm_u5, rfl, Or.inl (sm_in 635 (by decide +kernel) (by decide +kernel))⟩
theorem fl_M_27 : sm_fl "UpdateDeskModel" 27 5 9 := ⟨_, _, _, rfl, by decide, sm_u5, rfl, Or.inl (sm_in 636 (by decide +kernel) (by decide +kernel))⟩
theorem fl_M_30 : sm_fl "UpdateDeskModel" 30 5 10 := ⟨_, _, _, rfl, by decide, sm_u5, rfl, Or.inl (sm_in 637 (by decide +kernel) (by decide +kernel))⟩
theorem fl_M_34 : sm_fl "UpdateDeskModel" 34 5 11 := ⟨_, _, _, rfl, by decide, sm_u5, rfl, Or.inl (sm_in 638 (by decide +kernel) (by decide +kernel))⟩
theorem fl_M_37 : sm_fl "UpdateDeskModel" 37 5 12 := ⟨_, _, _, rfl, by decide, sm_u5, rfl, Or.inl (sm_in 639 (by decide +kernel) (by decide +kernel))⟩
theorem fl_M_40 : sm_fl "UpdateDeskModel" 40 5 13 := ⟨_, _, _, rfl, by decide, sm_u5, rfl, Or.inl (sm_in 640 (by decide +kernel) (by decide +kernel))⟩
theorem fl_M_43 : sm_fl "UpdateDeskModel" 43 5 14 := ⟨_, _, _, rfl, by decide, sm_u5, rfl, Or.inl (sm_in 641 (by decide +kernel) (by decide +kernel))⟩
theorem fl_M_46 : sm_fl "UpdateDeskModel" 46 5 15 := ⟨_, _, _, rfl, by decide, sm_u5, rfl, Or.inl (sm_in 642 (by decide +kernel) (by decide +kernel))⟩
theorem fp_M_94 : sm_fp "UpdateDeskModel" 94 5 6 .int := ⟨_, _, _, _, rfl, by decide, sm_u5, rfl, Or.inl (sm_in 633 (by decide +kernel) (by decide +kernel)), sm_ty5, sm_nm5, rfl, (by decide +kernel)⟩
theorem ml_M_97 : sm_mv "UpdateDeskModel" 97 mm_M_isAlike 5 4 := ⟨sm_in 779 (by decide +kernel) (by decide +kernel), sm_in 781 (by decide +kernel) (by decide +kernel), sm_in 40 (by decide +kernel) (by decide +kernel), ok_M_isAlike, _, rfl, rfl⟩
theorem kc_M_101 : Cond.constant "UpdateDeskModel" 101 10000000 ∈ sm_big := sm_in 770 (by decide +kernel) (by decide +kernel)
theorem ml_M_102 : sm_mv "UpdateDeskModel" 102 mm_M_whole 5 1 := ⟨sm_in 733 (by decide +kernel) (by decide +kernel), sm_in 735 (by decide +kernel) (by decide +kernel), sm_in 31 (by decide +kernel) (by decide +kernel), ok_M_whole, _, rfl, rfl⟩
theorem fl_M_49 : sm_fl "UpdateDeskModel" 49 5 16 := ⟨_, _, _, rfl, by decide, sm_u5, rfl, Or.inl (sm_in 643 (by decide +kernel) (by decide +kernel))⟩
theorem fl_M_52 : sm_fl "UpdateDeskModel" 52 5 17 := ⟨_, _, _, rfl, by decide, sm_u5, rfl, Or.inl (sm_in 644 (by decide +kernel) (by decide +kernel))⟩
theorem ml_M_105 : sm_mv "UpdateDeskModel" 105 mm_M_isText 5 2 := ⟨sm_in 754 (by decide +kernel) (by decide +kernel), sm_in 756 (by decide +kernel) (by decide +kernel), sm_in 35 (by decide +kernel) (by decide +kernel), ok_M_isText, _, rfl, rfl⟩
theorem kc_M_109 : Cond.constantLong "UpdateDeskModel" 109 4294967296 ∈ sm_big := sm_in 791 (by decide +kernel) (by decide +kernel)
theorem kc_M_111 : Cond.constantLong "UpdateDeskModel" 111 4294967295 ∈ sm_big := sm_in 792 (by decide +kernel) (by decide +kernel)
theorem ml_M_113 : sm_mv "UpdateDeskModel" 113 mm_M_make 5 1 := ⟨sm_in 743 (by decide +kernel) (by decide +kernel), sm_in 745 (by decide +kernel) (by decide +kernel), sm_in 33 (by decide +kernel) (by decide +kernel), ok_M_make, _, rfl, rfl⟩
theorem ml_M_116 : sm_mv "UpdateDeskModel" 116 mm_M_opens 5 4 := ⟨sm_in 747 (by decide +kernel) (by decide +kernel), sm_in 749 (by decide +kernel) (by decide +kernel), sm_in 34 (by decide +kernel) (by decide +kernel), ok_M_opens, _, rfl, rfl⟩
theorem ml_M_119 : sm_ms "UpdateDeskModel" 119 mm_M_isKind 1 := ⟨rfl, sm_in 751 (by decide +kernel) (by decide +kernel), sm_in 752 (by decide +kernel) (by decide +kernel), ok_M_isKind⟩
theorem ml_M_129 : sm_mv "UpdateDeskModel" 129 mm_M_named 5 3 := ⟨sm_in 775 (by decide +kernel) (by decide +kernel), sm_in 777 (by decide +kernel) (by decide +kernel), sm_in 39 (by decide +kernel) (by decide +kernel), ok_M_named, _, rfl, rfl⟩
theorem ml_M_123 : sm_mv "UpdateDeskModel" 123 mm_M_numberAt 5 2 := ⟨sm_in 766 (by decide +kernel) (by decide +kernel), sm_in 768 (by decide +kernel) (by decide +kernel), sm_in 37 (by decide +kernel) (by decide +kernel), ok_M_numberAt, _, rfl, rfl⟩
theorem ml_M_126 : sm_mv "UpdateDeskModel" 126 mm_M_countOf 5 1 := ⟨sm_in 771 (by decide +kernel) (by decide +kernel), sm_in 773 (by decide +kernel) (by decide +kernel), sm_in 38 (by decide +kernel) (by decide +kernel), ok_M_countOf, _, rfl, rfl⟩
theorem ml_M_133 : sm_mv "UpdateDeskModel" 133 mm_M_append 5 2 := ⟨sm_in 783 (by decide +kernel) (by decide +kernel), sm_in 785 (by decide +kernel) (by decide +kernel), sm_in 41 (by decide +kernel) (by decide +kernel), ok_M_append, _, rfl, rfl⟩
theorem ml_M_137 : sm_mv "UpdateDeskModel" 137 mm_M_value 5 3 := ⟨sm_in 787 (by decide +kernel) (by decide +kernel), sm_in 789 (by decide +kernel) (by decide +kernel), sm_in 42 (by decide +kernel) (by decide +kernel), ok_M_value, _, rfl, rfl⟩
theorem ml_M_140 : sm_mv "UpdateDeskModel" 140 mm_M_load 5 2 := ⟨sm_in 729 (by decide +kernel) (by decide +kernel), sm_in 731 (by decide +kernel) (by decide +kernel), sm_in 30 (by decide +kernel) (by decide +kernel), ok_M_load, _, rfl, rfl⟩
theorem ml_M_143 : sm_ms "UpdateDeskModel" 143 mm_M_isSlot 1 := ⟨rfl, sm_in 722 (by decide +kernel) (by decide +kernel), sm_in 723 (by decide +kernel) (by decide +kernel), ok_M_isSlot⟩
theorem ml_M_146 : sm_mv "UpdateDeskModel" 146 mm_M_take 5 2 := ⟨sm_in 725 (by decide +kernel) (by decide +kernel), sm_in 727 (by decide +kernel) (by decide +kernel), sm_in 29 (by decide +kernel) (by decide +kernel), ok_M_take, _, rfl, rfl⟩
theorem fl_M_58 : sm_fl "UpdateDeskModel" 58 5 21 := ⟨_, _, _, rfl, by decide, sm_u5, rfl, Or.inl (sm_in 648 (by decide +kernel) (by decide +kernel))⟩
theorem fl_M_149 : sm_fl "UpdateDeskModel" 149 5 19 := ⟨_, _, _, rfl, by decide, sm_u5, rfl, Or.inl (sm_in 646 (by decide +kernel) (by decide +kernel))⟩
theorem fp_M_149 : sm_fp "UpdateDeskModel" 149 5 19 .int := ⟨_, _, _, _, rfl, by decide, sm_u5, rfl, Or.inl (sm_in 646 (by decide +kernel) (by decide +kernel)), sm_ty5, sm_nm5, rfl, (by decide +kernel)⟩
theorem kc_M_152 : Cond.constantLong "UpdateDeskModel" 152 255 ∈ sm_big := sm_in 841 (by decide +kernel) (by decide +kernel)
theorem ml_M_154 : sm_mv "UpdateDeskModel" 154 mm_M_write 5 1 := ⟨sm_in 842 (by decide +kernel) (by decide +kernel), sm_in 844 (by decide +kernel) (by decide +kernel), sm_in 53 (by decide +kernel) (by decide +kernel), ok_M_write, _, rfl, rfl⟩
theorem fp_M_157 : sm_fp "UpdateDeskModel" 157 5 20 .int := ⟨_, _, _, _, rfl, by decide, sm_u5, rfl, Or.inl (sm_in 647 (by decide +kernel) (by decide +kernel)), sm_ty5, sm_nm5, rfl, (by decide +kernel)⟩
theorem ml_M_160 : sm_mv "UpdateDeskModel" 160 mm_M_writeLow 5 2 := ⟨sm_in 837 (by decide +kernel) (by decide +kernel), sm_in 839 (by decide +kernel) (by decide +kernel), sm_in 52 (by decide +kernel) (by decide +kernel), ok_M_writeLow, _, rfl, rfl⟩
theorem fl_M_55 : sm_fl "UpdateDeskModel" 55 5 18 := ⟨_, _, _, rfl, by decide, sm_u5, rfl, Or.inl (sm_in 645 (by decide +kernel) (by decide +kernel))⟩
theorem ml_M_167 : sm_mv "UpdateDeskModel" 167 mm_M_writeBytes 5 2 := ⟨sm_in 850 (by decide +kernel) (by decide +kernel), sm_in 852 (by decide +kernel) (by decide +kernel), sm_in 55 (by decide +kernel) (by decide +kernel), ok_M_writeBytes, _, rfl, rfl⟩
theorem ml_M_164 : sm_mv "UpdateDeskModel" 164 mm_M_writeDigits 5 1 := ⟨sm_in 846 (by decide +kernel) (by decide +kernel), sm_in 848 (by decide +kernel) (by decide +kernel), sm_in 54 (by decide +kernel) (by decide +kernel), ok_M_writeDigits, _, rfl, rfl⟩
theorem ml_M_170 : sm_mv "UpdateDeskModel" 170 mm_M_writeValue 5 1 := ⟨sm_in 854 (by decide +kernel) (by decide +kernel), sm_in 856 (by decide +kernel) (by decide +kernel), sm_in 56 (by decide +kernel) (by decide +kernel), ok_M_writeValue, _, rfl, rfl⟩
theorem fl_M_157 : sm_fl "UpdateDeskModel" 157 5 20 := ⟨_, _, _, rfl, by decide, sm_u5, rfl, Or.inl (sm_in 647 (by decide +kernel) (by decide +kernel))⟩
theorem ml_M_173 : sm_ms "UpdateDeskModel" 173 mm_M_classOf 1 := ⟨rfl, sm_in 890 (by decide +kernel) (by decide +kernel), sm_in 891 (by decide +kernel) (by decide +kernel), ok_M_classOf⟩
theorem ml_M_176 : sm_mv "UpdateDeskModel" 176 mm_M_isOne 5 2 := ⟨sm_in 886 (by decide +kernel) (by decide +kernel), sm_in 888 (by decide +kernel) (by decide +kernel), sm_in 64 (by decide +kernel) (by decide +kernel), ok_M_isOne, _, rfl, rfl⟩
theorem ml_M_179 : sm_mv "UpdateDeskModel" 179 mm_M_isNamed 5 6 := ⟨sm_in 805 (by decide +kernel) (by decide +kernel), sm_in 807 (by decide +kernel) (by decide +kernel), sm_in 45 (by decide +kernel) (by decide +kernel), ok_M_isNamed, _, rfl, rfl⟩
theorem ml_M_183 : sm_mv "UpdateDeskModel" 183 mm_M_isAdd 5 1 := ⟨sm_in 809 (by decide +kernel) (by decide +kernel), sm_in 811 (by decide +kernel) (by decide +kernel), sm_in 46 (by decide +kernel) (by decide +kernel), ok_M_isAdd, _, rfl, rfl⟩
theorem fp_M_186 : sm_fp "UpdateDeskModel" 186 5 24 .int := ⟨_, _, _, _, rfl, by decide, sm_u5, rfl, Or.inl (sm_in 651 (by decide +kernel) (by decide +kernel)), sm_ty5, sm_nm5, rfl, (by decide +kernel)⟩
theorem fl_M_186 : sm_fl "UpdateDeskModel" 186 5 24 := ⟨_, _, _, rfl, by decide, sm_u5, rfl, Or.inl (sm_in 651 (by decide +kernel) (by decide +kernel))⟩
theorem fl_M_64 : sm_fl "UpdateDeskModel" 64 5 25 := ⟨_, _, _, rfl, by decide, sm_u5, rfl, Or.inl (sm_in 652 (by decide +kernel) (by decide +kernel))⟩
theorem fl_M_67 : sm_fl "UpdateDeskModel" 67 5 26 := ⟨_, _, _, rfl, by decide, sm_u5, rfl, Or.inl (sm_in 653 (by decide +kernel) (by decide +kernel))⟩
theorem ml_M_189 : sm_mv "UpdateDeskModel" 189 mm_M_begins 5 2 := ⟨sm_in 825 (by decide +kernel) (by decide +kernel), sm_in 827 (by decide +kernel) (by decide +kernel), sm_in 50 (by decide +kernel) (by decide +kernel), ok_M_begins, _, rfl, rfl⟩
theorem fp_M_13 : sm_fp "UpdateDeskModel" 13 5 4 .int := ⟨_, _, _, _, rfl, by decide, sm_u5, rfl, Or.inl (sm_in 631 (by decide +kernel) (by decide +kernel)), sm_ty5, sm_nm5, rfl, (by decide +kernel)⟩
theorem fp_M_17 : sm_fp "UpdateDeskModel" 17 5 5 .int := ⟨_, _, _, _, rfl, by decide, sm_u5, rfl, Or.inl (sm_in 632 (by decide +kernel) (by decide +kernel)), sm_ty5, sm_nm5, rfl, (by decide +kernel)⟩
theorem ml_M_192 : sm_mv "UpdateDeskModel" 192 mm_M_operator 5 1 := ⟨sm_in 801 (by decide +kernel) (by decide +kernel), sm_in 803 (by decide +kernel) (by decide +kernel), sm_in 44 (by decide +kernel) (by decide +kernel), ok_M_operator, _, rfl, rfl⟩
theorem ml_M_195 : sm_mv "UpdateDeskModel" 195 mm_M_fail 5 3 := ⟨sm_in 813 (by decide +kernel) (by decide +kernel), sm_in 815 (by decide +kernel) (by decide +kernel), sm_in 47 (by decide +kernel) (by decide +kernel), ok_M_fail, _, rfl, rfl⟩
theorem ml_M_198 : sm_mv "UpdateDeskModel" 198 mm_M_split 5 1 := ⟨sm_in 817 (by decide +kernel) (by decide +kernel), sm_in 819 (by decide +kernel) (by decide +kernel), sm_in 48 (by decide +kernel) (by decide +kernel), ok_M_split, _, rfl, rfl⟩
theorem ml_M_201 : sm_mv "UpdateDeskModel" 201 mm_M_meetsEarlier 5 2 := ⟨sm_in 821 (by decide +kernel) (by decide +kernel), sm_in 823 (by decide +kernel) (by decide +kernel), sm_in 49 (by decide +kernel) (by decide +kernel), ok_M_meetsEarlier, _, rfl, rfl⟩
theorem fp_M_204 : sm_fp "UpdateDeskModel" 204 5 3 .boolean := ⟨_, _, _, _, rfl, by decide, sm_u5, rfl, Or.inl (sm_in 630 (by decide +kernel) (by decide +kernel)), sm_ty5, sm_nm5, rfl, (by decide +kernel)⟩
theorem ml_M_208 : sm_mv "UpdateDeskModel" 208 mm_M_look 5 1 := ⟨sm_in 797 (by decide +kernel) (by decide +kernel), sm_in 799 (by decide +kernel) (by decide +kernel), sm_in 43 (by decide +kernel) (by decide +kernel), ok_M_look, _, rfl, rfl⟩
theorem ml_M_211 : sm_mv "UpdateDeskModel" 211 mm_M_item 5 2 := ⟨sm_in 870 (by decide +kernel) (by decide +kernel), sm_in 872 (by decide +kernel) (by decide +kernel), sm_in 60 (by decide +kernel) (by decide +kernel), ok_M_item, _, rfl, rfl⟩
theorem ml_M_214 : sm_mv "UpdateDeskModel" 214 mm_M_mayGo 5 2 := ⟨sm_in 901 (by decide +kernel) (by decide +kernel), sm_in 903 (by decide +kernel) (by decide +kernel), sm_in 67 (by decide +kernel) (by decide +kernel), ok_M_mayGo, _, rfl, rfl⟩
theorem ml_M_217 : sm_mv "UpdateDeskModel" 217 mm_M_meets 5 2 := ⟨sm_in 866 (by decide +kernel) (by decide +kernel), sm_in 868 (by decide +kernel) (by decide +kernel), sm_in 59 (by decide +kernel) (by decide +kernel), ok_M_meets, _, rfl, rfl⟩
theorem ml_M_220 : sm_mv "UpdateDeskModel" 220 mm_M_name 5 2 := ⟨sm_in 905 (by decide +kernel) (by decide +kernel), sm_in 907 (by decide +kernel) (by decide +kernel), sm_in 68 (by decide +kernel) (by decide +kernel), ok_M_name, _, rfl, rfl⟩
theorem ml_M_223 : sm_mv "UpdateDeskModel" 223 mm_M_goMaking 5 1 := ⟨sm_in 897 (by decide +kernel) (by decide +kernel), sm_in 899 (by decide +kernel) (by decide +kernel), sm_in 66 (by decide +kernel) (by decide +kernel), ok_M_goMaking, _, rfl, rfl⟩
theorem ml_M_226 : sm_mv "UpdateDeskModel" 226 mm_M_replace 5 3 := ⟨sm_in 878 (by decide +kernel) (by decide +kernel), sm_in 880 (by decide +kernel) (by decide +kernel), sm_in 62 (by decide +kernel) (by decide +kernel), ok_M_replace, _, rfl, rfl⟩
theorem ml_M_230 : sm_ms "UpdateDeskModel" 230 mm_M_isNumber 1 := ⟨rfl, sm_in 909 (by decide +kernel) (by decide +kernel), sm_in 910 (by decide +kernel) (by decide +kernel), ok_M_isNumber⟩
theorem ml_M_233 : sm_mv "UpdateDeskModel" 233 mm_M_add 5 2 := ⟨sm_in 912 (by decide +kernel) (by decide +kernel), sm_in 914 (by decide +kernel) (by decide +kernel), sm_in 69 (by decide +kernel) (by decide +kernel), ok_M_add, _, rfl, rfl⟩
theorem ml_M_236 : sm_mv "UpdateDeskModel" 236 mm_M_same 5 2 := ⟨sm_in 882 (by decide +kernel) (by decide +kernel), sm_in 884 (by decide +kernel) (by decide +kernel), sm_in 63 (by decide +kernel) (by decide +kernel), ok_M_same, _, rfl, rfl⟩
theorem ml_M_239 : sm_mv "UpdateDeskModel" 239 mm_M_remove 5 2 := ⟨sm_in 874 (by decide +kernel) (by decide +kernel), sm_in 876 (by decide +kernel) (by decide +kernel), sm_in 61 (by decide +kernel) (by decide +kernel), ok_M_remove, _, rfl, rfl⟩
theorem fl_M_242 : sm_fl "UpdateDeskModel" 242 5 22 := ⟨_, _, _, rfl, by decide, sm_u5, rfl, Or.inl (sm_in 649 (by decide +kernel) (by decide +kernel))⟩
theorem fl_M_61 : sm_fl "UpdateDeskModel" 61 5 23 := ⟨_, _, _, rfl, by decide, sm_u5, rfl, Or.inl (sm_in 650 (by decide +kernel) (by decide +kernel))⟩
theorem fp_M_242 : sm_fp "UpdateDeskModel" 242 5 22 .int := ⟨_, _, _, _, rfl, by decide, sm_u5, rfl, Or.inl (sm_in 649 (by decide +kernel) (by decide +kernel)), sm_ty5, sm_nm5, rfl, (by decide +kernel)⟩
theorem fl_M_204 : sm_fl "UpdateDeskModel" 204 5 3 := ⟨_, _, _, rfl, by decide, sm_u5, rfl, Or.inl (sm_in 630 (by decide +kernel) (by decide +kernel))⟩
theorem ml_M_245 : sm_mv "UpdateDeskModel" 245 mm_M_print 5 1 := ⟨sm_in 833 (by decide +kernel) (by decide +kernel), sm_in 835 (by decide +kernel) (by decide +kernel), sm_in 51 (by decide +kernel) (by decide +kernel), ok_M_print, _, rfl, rfl⟩
theorem ml_M_248 : sm_mv "UpdateDeskModel" 248 mm_M_isChanged 5 0 := ⟨sm_in 858 (by decide +kernel) (by decide +kernel), sm_in 860 (by decide +kernel) (by decide +kernel), sm_in 57 (by decide +kernel) (by decide +kernel), ok_M_isChanged, _, rfl, rfl⟩
theorem ml_M_256 : sm_mv "UpdateDeskModel" 256 mm_M_makes 5 3 := ⟨sm_in 893 (by decide +kernel) (by decide +kernel), sm_in 895 (by decide +kernel) (by decide +kernel), sm_in 65 (by decide +kernel) (by decide +kernel), ok_M_makes, _, rfl, rfl⟩
theorem ml_M_252 : sm_mv "UpdateDeskModel" 252 mm_M_takes 5 3 := ⟨sm_in 862 (by decide +kernel) (by decide +kernel), sm_in 864 (by decide +kernel) (by decide +kernel), sm_in 58 (by decide +kernel) (by decide +kernel), ok_M_takes, _, rfl, rfl⟩
theorem fl_M_17 : sm_fl "UpdateDeskModel" 17 5 5 := ⟨_, _, _, rfl, by decide, sm_u5, rfl, Or.inl (sm_in 632 (by decide +kernel) (by decide +kernel))⟩
theorem fl_M_13 : sm_fl "UpdateDeskModel" 13 5 4 := ⟨_, _, _, rfl, by decide, sm_u5, rfl, Or.inl (sm_in 631 (by decide +kernel) (by decide +kernel))⟩
end
section
def fB_at_0 (N d : Nat) (h : sm_H) (Q : Option Value → sm_H → Prop) (x0 : Nat) (x1 : Int32) : Prop := ((x1 < 0 → Q (some (.int 0)) h) ∧ (¬ x1 < 0 → ∃ z1 : Int32, sm_g h x0 0 1 = some (.int z1) ∧ ((z1 ≤ x1 → Q (some (.int 0)) h) ∧ (¬ z1 ≤ x1 → ∃ z2 : Nat, sm_g h x0 0 0 = some (.ref z2) ∧ ∃ z3 : Int32, sm_gi h z2 0 x1 = some z3 ∧ Q (some (.int (z3 &&& 255))) h))))
set_option maxRecDepth 20000 in
set_option maxHeartbeats 4000000 in
theorem kB_at_0 {N d : Nat} {h : sm_H} {Q : Option Value → sm_H → Prop} {x0 : Nat} {x1 : Int32} (hf : fB_at_0 N d h Q x0 x1) : sm_W N (d + 1) mm_B_at 0 [(0, .ref x0), (1, .int x1)] [] h Q := by
  unfold fB_at_0 at hf
  refine sm_iload_n (k := 1) 1 1 (by decide +kernel) rfl rfl rfl ?_
  refine sm_if_lt (off := 24) 4 25 (by decide +kernel) (by decide) rfl (fun q5 => ?_) (fun q5 => ?_)
  · have hf := hf.1 q5
    refine sm_iconst (i := 0) (x := 0) 26 (by decide +kernel) rfl rfl ?_
    exact sm_iret rfl (by decide +kernel) hf
  · have hf := hf.2 q5
    refine sm_iload_n (k := 1) 5 1 (by decide +kernel) rfl rfl rfl ?_
    refine sm_aload_n (k := 0) 6 0 (by decide +kernel) rfl rfl rfl ?_
    obtain ⟨z1, ez1, hf⟩ := hf
    refine sm_get 9 (by decide +kernel) fl_B_9 ez1 rfl ?_
    refine sm_icmp_ge (off := 16) 12 25 (by decide +kernel) (by decide) rfl (fun q4 => ?_) (fun q4 => ?_)
    · have hf := hf.1 q4
      refine sm_iconst (i := 0) (x := 0) 26 (by decide +kernel) rfl rfl ?_
      exact sm_iret rfl (by decide +kernel) hf
    · have hf := hf.2 q4
      refine sm_aload_n (k := 0) 13 0 (by decide +kernel) rfl rfl rfl ?_
      obtain ⟨z2, ez2, hf⟩ := hf
      refine sm_get 16 (by decide +kernel) fl_B_21 ez2 rfl ?_
      refine sm_iload_n (k := 1) 17 1 (by decide +kernel) rfl rfl rfl ?_
      obtain ⟨z3, ez3, hf⟩ := hf
      refine sm_bald 18 (by decide +kernel) ez3 rfl ?_
      refine sm_sipush (i := 255) (x := 255) 21 (by decide +kernel) (by decide) rfl ?_
      refine sm_iand 22 (by decide +kernel) rfl ?_
      refine sm_goto (off := 4) 26 (by decide +kernel) (by decide) ?_
      exact sm_iret rfl (by decide +kernel) hf
theorem cB_at {N d : Nat} {h : sm_H} {Q : Option Value → sm_H → Prop} {x0 : Nat} {x1 : Int32} (hb : ∃ fs, h[x0]? = some (.inr (0, fs))) (hf : fB_at_0 N d h Q x0 x1) : sm_V N (d + 1) mm_B_at 0 x0 [.int x1] h Q := ⟨hb, sm_meth (by decide +kernel) (fun _ => Nat.le_of_ble_eq_true rfl) (fun _ => rfl) (kB_at_0 hf)⟩
def fB_put_0 (N d : Nat) (h : sm_H) (Q : Option Value → sm_H → Prop) (x0 : Nat) (x1 : Int32) (x2 : Int32) : Prop := ((x1 < 0 → Q none h) ∧ (¬ x1 < 0 → ∃ z1 : Int32, sm_g h x0 0 1 = some (.int z1) ∧ ((z1 ≤ x1 → Q none h) ∧ (¬ z1 ≤ x1 → ∃ z2 : Nat, sm_g h x0 0 0 = some (.ref z2) ∧ ∃ h3, sm_pb h z2 x1 (Int8.toInt32 (Int32.toInt8 x2)) = some h3 ∧ Q none h3))))
set_option maxRecDepth 20000 in
set_option maxHeartbeats 4000000 in
theorem kB_put_0 {N d : Nat} {h : sm_H} {Q : Option Value → sm_H → Prop} {x0 : Nat} {x1 : Int32} {x2 : Int32} (hf : fB_put_0 N d h Q x0 x1 x2) : sm_W N (d + 1) mm_B_put 0 [(0, .ref x0), (1, .int x1), (2, .int x2)] [] h Q := by
  unfold fB_put_0 at hf
  refine sm_iload_n (k := 1) 1 1 (by decide +kernel) rfl rfl rfl ?_
  refine sm_if_lt (off := 19) 4 20 (by decide +kernel) (by decide) rfl (fun q5 => ?_) (fun q5 => ?_)
  · have hf := hf.1 q5
    exact sm_vret rfl (by decide +kernel) hf
  · have hf := hf.2 q5
    refine sm_iload_n (k := 1) 5 1 (by decide +kernel) rfl rfl rfl ?_
    refine sm_aload_n (k := 0) 6 0 (by decide +kernel) rfl rfl rfl ?_
    obtain ⟨z1, ez1, hf⟩ := hf
    refine sm_get 9 (by decide +kernel) fl_B_9 ez1 rfl ?_
    refine sm_icmp_ge (off := 11) 12 20 (by decide +kernel) (by decide) rfl (fun q4 => ?_) (fun q4 => ?_)
    · have hf := hf.1 q4
      exact sm_vret rfl (by decide +kernel) hf
    · have hf := hf.2 q4
      refine sm_aload_n (k := 0) 13 0 (by decide +kernel) rfl rfl rfl ?_
      obtain ⟨z2, ez2, hf⟩ := hf
      refine sm_get 16 (by decide +kernel) fl_B_21 ez2 rfl ?_
      refine sm_iload_n (k := 1) 17 1 (by decide +kernel) rfl rfl rfl ?_
      refine sm_iload_n (k := 2) 18 2 (by decide +kernel) rfl rfl rfl ?_
      refine sm_i2b 19 (by decide +kernel) rfl ?_
      obtain ⟨h3, eh3, hf⟩ := hf
      refine sm_bast 20 (by decide +kernel) eh3 rfl ?_
      exact sm_vret rfl (by decide +kernel) hf
theorem cB_put {N d : Nat} {h : sm_H} {Q : Option Value → sm_H → Prop} {x0 : Nat} {x1 : Int32} {x2 : Int32} (hb : ∃ fs, h[x0]? = some (.inr (0, fs))) (hf : fB_put_0 N d h Q x0 x1 x2) : sm_V N (d + 1) mm_B_put 0 x0 [.int x1, .int x2] h Q := ⟨hb, sm_meth (by decide +kernel) (fun _ => Nat.le_of_ble_eq_true rfl) (fun _ => rfl) (kB_put_0 hf)⟩
def fB_intAt_0 (N d : Nat) (h : sm_H) (Q : Option Value → sm_H → Prop) (x0 : Nat) (x1 : Int32) : Prop := ((x1 < 0 → Q (some (.int 0)) h) ∧ (¬ x1 < 0 → ∃ z1 : Int32, sm_g h x0 0 1 = some (.int z1) ∧ ((x1 ≤ (z1 - 4) → ∃ z2 : Nat, sm_g h x0 0 0 = some (.ref z2) ∧ ∃ z3 : Int32, sm_gi h z2 0 x1 = some z3 ∧ ∃ z4 : Nat, sm_g h x0 0 0 = some (.ref z4) ∧ ∃ z5 : Int32, sm_gi h z4 0 (x1 + 1) = some z5 ∧ ∃ z6 : Nat, sm_g h x0 0 0 = some (.ref z6) ∧ ∃ z7 : Int32, sm_gi h z6 0 (x1 + 2) = some z7 ∧ ∃ z8 : Nat, sm_g h x0 0 0 = some (.ref z8) ∧ ∃ z9 : Int32, sm_gi h z8 0 (x1 + 3) = some z9 ∧ Q (some (.int ((((z3 &&& 255) ||| ((z5 &&& 255) <<< (8 &&& 31))) ||| ((z7 &&& 255) <<< (16 &&& 31))) ||| ((z9 &&& 255) <<< (24 &&& 31))))) h) ∧ (¬ x1 ≤ (z1 - 4) → Q (some (.int 0)) h))))
set_option maxRecDepth 20000 in
set_option maxHeartbeats 4000000 in
theorem kB_intAt_0 {N d : Nat} {h : sm_H} {Q : Option Value → sm_H → Prop} {x0 : Nat} {x1 : Int32} (hf : fB_intAt_0 N d h Q x0 x1) : sm_W N (d + 1) mm_B_intAt 0 [(0, .ref x0), (1, .int x1)] [] h Q := by
  unfold fB_intAt_0 at hf
  refine sm_iload_n (k := 1) 1 1 (by decide +kernel) rfl rfl rfl ?_
  refine sm_if_lt (off := 13) 4 14 (by decide +kernel) (by decide) rfl (fun q11 => ?_) (fun q11 => ?_)
  · have hf := hf.1 q11
    refine sm_iconst (i := 0) (x := 0) 15 (by decide +kernel) rfl rfl ?_
    exact sm_iret rfl (by decide +kernel) hf
  · have hf := hf.2 q11
    refine sm_iload_n (k := 1) 5 1 (by decide +kernel) rfl rfl rfl ?_
    refine sm_aload_n (k := 0) 6 0 (by decide +kernel) rfl rfl rfl ?_
    obtain ⟨z1, ez1, hf⟩ := hf
    refine sm_get 9 (by decide +kernel) fl_B_9 ez1 rfl ?_
    refine sm_iconst (i := 4) (x := 4) 10 (by decide +kernel) rfl rfl ?_
    refine sm_isub 11 (by decide +kernel) rfl ?_
    refine sm_icmp_le (off := 5) 14 16 (by decide +kernel) (by decide) rfl (fun q10 => ?_) (fun q10 => ?_)
    · have hf := hf.1 q10
      refine sm_aload_n (k := 0) 17 0 (by decide +kernel) rfl rfl rfl ?_
      obtain ⟨z2, ez2, hf⟩ := hf
      refine sm_get 20 (by decide +kernel) fl_B_21 ez2 rfl ?_
      refine sm_iload_n (k := 1) 21 1 (by decide +kernel) rfl rfl rfl ?_
      obtain ⟨z3, ez3, hf⟩ := hf
      refine sm_bald 22 (by decide +kernel) ez3 rfl ?_
      refine sm_sipush (i := 255) (x := 255) 25 (by decide +kernel) (by decide) rfl ?_
      refine sm_iand 26 (by decide +kernel) rfl ?_
      refine sm_aload_n (k := 0) 27 0 (by decide +kernel) rfl rfl rfl ?_
      obtain ⟨z4, ez4, hf⟩ := hf
      refine sm_get 30 (by decide +kernel) fl_B_21 ez4 rfl ?_
      refine sm_iload_n (k := 1) 31 1 (by decide +kernel) rfl rfl rfl ?_
      refine sm_iconst (i := 1) (x := 1) 32 (by decide +kernel) rfl rfl ?_
      refine sm_iadd 33 (by decide +kernel) rfl ?_
      obtain ⟨z5, ez5, hf⟩ := hf
      refine sm_bald 34 (by decide +kernel) ez5 rfl ?_
      refine sm_sipush (i := 255) (x := 255) 37 (by decide +kernel) (by decide) rfl ?_
      refine sm_iand 38 (by decide +kernel) rfl ?_
      refine sm_bipush (i := 8) (x := 8) 40 (by decide +kernel) (by decide) rfl ?_
      refine sm_ishl 41 (by decide +kernel) rfl ?_
      refine sm_ior 42 (by decide +kernel) rfl ?_
      refine sm_istore_n (k := 2) 43 [(2, .int ((z3 &&& 255) ||| ((z5 &&& 255) <<< (8 &&& 31)))), (0, .ref x0), (1, .int x1)] (by decide +kernel) rfl (by decide) (by first | rfl | simp [sm_rfc]) rfl ?_
      refine sm_iload_n (k := 2) 44 0 (by decide +kernel) rfl rfl rfl ?_
      refine sm_aload_n (k := 0) 45 1 (by decide +kernel) rfl rfl rfl ?_
      obtain ⟨z6, ez6, hf⟩ := hf
      refine sm_get 48 (by decide +kernel) fl_B_21 ez6 rfl ?_
      refine sm_iload_n (k := 1) 49 2 (by decide +kernel) rfl rfl rfl ?_
      refine sm_iconst (i := 2) (x := 2) 50 (by decide +kernel) rfl rfl ?_
      refine sm_iadd 51 (by decide +kernel) rfl ?_
      obtain ⟨z7, ez7, hf⟩ := hf
      refine sm_bald 52 (by decide +kernel) ez7 rfl ?_
      refine sm_sipush (i := 255) (x := 255) 55 (by decide +kernel) (by decide) rfl ?_
      refine sm_iand 56 (by decide +kernel) rfl ?_
      refine sm_bipush (i := 16) (x := 16) 58 (by decide +kernel) (by decide) rfl ?_
      refine sm_ishl 59 (by decide +kernel) rfl ?_
      refine sm_ior 60 (by decide +kernel) rfl ?_
      refine sm_aload_n (k := 0) 61 1 (by decide +kernel) rfl rfl rfl ?_
      obtain ⟨z8, ez8, hf⟩ := hf
      refine sm_get 64 (by decide +kernel) fl_B_21 ez8 rfl ?_
      refine sm_iload_n (k := 1) 65 2 (by decide +kernel) rfl rfl rfl ?_
      refine sm_iconst (i := 3) (x := 3) 66 (by decide +kernel) rfl rfl ?_
      refine sm_iadd 67 (by decide +kernel) rfl ?_
      obtain ⟨z9, ez9, hf⟩ := hf
      refine sm_bald 68 (by decide +kernel) ez9 rfl ?_
      refine sm_sipush (i := 255) (x := 255) 71 (by decide +kernel) (by decide) rfl ?_
      refine sm_iand 72 (by decide +kernel) rfl ?_
      refine sm_bipush (i := 24) (x := 24) 74 (by decide +kernel) (by decide) rfl ?_
      refine sm_ishl 75 (by decide +kernel) rfl ?_
      refine sm_ior 76 (by decide +kernel) rfl ?_
      exact sm_iret rfl (by decide +kernel) hf
    · have hf := hf.2 q10
      refine sm_iconst (i := 0) (x := 0) 15 (by decide +kernel) rfl rfl ?_
      exact sm_iret rfl (by decide +kernel) hf
theorem cB_intAt {N d : Nat} {h : sm_H} {Q : Option Value → sm_H → Prop} {x0 : Nat} {x1 : Int32} (hb : ∃ fs, h[x0]? = some (.inr (0, fs))) (hf : fB_intAt_0 N d h Q x0 x1) : sm_V N (d + 1) mm_B_intAt 0 x0 [.int x1] h Q := ⟨hb, sm_meth (by decide +kernel) (fun _ => Nat.le_of_ble_eq_true rfl) (fun _ => rfl) (kB_intAt_0 hf)⟩
def fB_longAt_0 (N d : Nat) (h : sm_H) (Q : Option Value → sm_H → Prop) (x0 : Nat) (x1 : Int32) : Prop := sm_V N d mm_B_intAt 0 x0 [.int (x1 + 4)] h (fun r2 h1 => ∃ z3 : Int32, r2 = some (.int z3) ∧ sm_V N d mm_B_intAt 0 x0 [.int x1] h1 (fun r5 h4 => ∃ z6 : Int32, r5 = some (.int z6) ∧ Q (some (.long (((Int32.toInt64 z3) <<< (Int32.toInt64 32 &&& 63)) ||| ((Int32.toInt64 z6) &&& 4294967295)))) h4))
set_option maxRecDepth 20000 in
set_option maxHeartbeats 4000000 in
theorem kB_longAt_0 {N d : Nat} {h : sm_H} {Q : Option Value → sm_H → Prop} {x0 : Nat} {x1 : Int32} (hf : fB_longAt_0 N d h Q x0 x1) : sm_W N (d + 1) mm_B_longAt 0 [(0, .ref x0), (1, .int x1)] [] h Q := by
  unfold fB_longAt_0 at hf
  refine sm_aload_n (k := 0) 1 0 (by decide +kernel) rfl rfl rfl ?_
  refine sm_iload_n (k := 1) 2 1 (by decide +kernel) rfl rfl rfl ?_
  refine sm_iconst (i := 4) (x := 4) 3 (by decide +kernel) rfl rfl ?_
  refine sm_iadd 4 (by decide +kernel) rfl ?_
  refine sm_callV (M2 := mm_B_intAt) (av := [.int (x1 + 4)]) (rest := []) 7 (by decide +kernel) ml_B_25 (Nat.le_refl _) rfl rfl (by first | exact Nat.le_of_ble_eq_true rfl | simp [sm_rfc, Value.category]) rfl hf ?_
  rintro r2 h1 ⟨z3, rfl, hf⟩
  change sm_W N (d + 1) mm_B_longAt 7 [(0, .ref x0), (1, .int x1)] [.int z3] h1 Q
  refine sm_i2l 8 (by decide +kernel) rfl ?_
  refine sm_bipush (i := 32) (x := 32) 10 (by decide +kernel) (by decide) rfl ?_
  refine sm_lshl 11 (by decide +kernel) rfl ?_
  refine sm_aload_n (k := 0) 12 0 (by decide +kernel) rfl rfl rfl ?_
  refine sm_iload_n (k := 1) 13 1 (by decide +kernel) rfl rfl rfl ?_
  refine sm_callV (M2 := mm_B_intAt) (av := [.int x1]) (rest := [.long ((Int32.toInt64 z3) <<< (Int32.toInt64 32 &&& 63))]) 16 (by decide +kernel) ml_B_25 (Nat.le_refl _) rfl rfl (by first | exact Nat.le_of_ble_eq_true rfl | simp [sm_rfc, Value.category]) rfl hf ?_
  rintro r5 h4 ⟨z6, rfl, hf⟩
  change sm_W N (d + 1) mm_B_longAt 16 [(0, .ref x0), (1, .int x1)] [.int z6, .long ((Int32.toInt64 z3) <<< (Int32.toInt64 32 &&& 63))] h4 Q
  refine sm_i2l 17 (by decide +kernel) rfl ?_
  refine sm_ldc2 (i := 29) (x := 4294967295) 20 (by decide +kernel) kc_B_29 rfl ?_
  refine sm_land 21 (by decide +kernel) rfl ?_
  refine sm_lor 22 (by decide +kernel) rfl ?_
  exact sm_lret rfl (by decide +kernel) hf
theorem cB_longAt {N d : Nat} {h : sm_H} {Q : Option Value → sm_H → Prop} {x0 : Nat} {x1 : Int32} (hb : ∃ fs, h[x0]? = some (.inr (0, fs))) (hf : fB_longAt_0 N d h Q x0 x1) : sm_V N (d + 1) mm_B_longAt 0 x0 [.int x1] h Q := ⟨hb, sm_meth (by decide +kernel) (fun _ => Nat.le_of_ble_eq_true rfl) (fun _ => rfl) (kB_longAt_0 hf)⟩
def fB_putInt_0 (N d : Nat) (h : sm_H) (Q : Option Value → sm_H → Prop) (x0 : Nat) (x1 : Int32) (x2 : Int32) : Prop := sm_W N (d + 1) mm_B_putInt 2 [(0, .ref x0), (1, .int x1), (2, .int x2), (3, .int 0)] [] h Q
set_option maxRecDepth 20000 in
set_option maxHeartbeats 4000000 in
theorem kB_putInt_0 {N d : Nat} {h : sm_H} {Q : Option Value → sm_H → Prop} {x0 : Nat} {x1 : Int32} {x2 : Int32} (hf : fB_putInt_0 N d h Q x0 x1 x2) : sm_W N (d + 1) mm_B_putInt 0 [(0, .ref x0), (1, .int x1), (2, .int x2)] [] h Q := by
  unfold fB_putInt_0 at hf
  refine sm_iconst (i := 0) (x := 0) 1 (by decide +kernel) rfl rfl ?_
  refine sm_istore_n (k := 3) 2 [(3, .int 0), (0, .ref x0), (1, .int x1), (2, .int x2)] (by decide +kernel) rfl (by decide) (by first | rfl | simp [sm_rfc]) rfl ?_
  exact sm_sub [1, 2, 3, 0] rfl hf
def fB_putInt_2 (N d : Nat) (h : sm_H) (Q : Option Value → sm_H → Prop) (x0 : Nat) (x1 : Int32) (x2 : Int32) (x3 : Int32) : Prop := ((4 ≤ x3 → Q none h) ∧ (¬ 4 ≤ x3 → sm_V N d mm_B_put 0 x0 [.int (x1 + x3), .int (x2 >>> ((8 * x3) &&& 31))] h (fun r2 h1 => r2 = none ∧ sm_W N (d + 1) mm_B_putInt 2 [(0, .ref x0), (1, .int x1), (2, .int x2), (3, .int (x3 + 1))] [] h1 Q)))
set_option maxRecDepth 20000 in
set_option maxHeartbeats 4000000 in
theorem kB_putInt_2 {N d : Nat} {h : sm_H} {Q : Option Value → sm_H → Prop} {x0 : Nat} {x1 : Int32} {x2 : Int32} {x3 : Int32} (hf : fB_putInt_2 N d h Q x0 x1 x2 x3) : sm_W N (d + 1) mm_B_putInt 2 [(0, .ref x0), (1, .int x1), (2, .int x2), (3, .int x3)] [] h Q := by
  unfold fB_putInt_2 at hf
  refine sm_iload_n (k := 3) 3 3 (by decide +kernel) rfl rfl rfl ?_
  refine sm_iconst (i := 4) (x := 4) 4 (by decide +kernel) rfl rfl ?_
  refine sm_icmp_ge (off := 22) 7 26 (by decide +kernel) (by decide) rfl (fun q3 => ?_) (fun q3 => ?_)
  · have hf := hf.1 q3
    exact sm_vret rfl (by decide +kernel) hf
  · have hf := hf.2 q3
    refine sm_aload_n (k := 0) 8 0 (by decide +kernel) rfl rfl rfl ?_
    refine sm_iload_n (k := 1) 9 1 (by decide +kernel) rfl rfl rfl ?_
    refine sm_iload_n (k := 3) 10 3 (by decide +kernel) rfl rfl rfl ?_
    refine sm_iadd 11 (by decide +kernel) rfl ?_
    refine sm_iload_n (k := 2) 12 2 (by decide +kernel) rfl rfl rfl ?_
    refine sm_bipush (i := 8) (x := 8) 14 (by decide +kernel) (by decide) rfl ?_
    refine sm_iload_n (k := 3) 15 3 (by decide +kernel) rfl rfl rfl ?_
    refine sm_imul 16 (by decide +kernel) rfl ?_
    refine sm_ishr 17 (by decide +kernel) rfl ?_
    refine sm_callV (M2 := mm_B_put) (av := [.int (x1 + x3), .int (x2 >>> ((8 * x3) &&& 31))]) (rest := []) 20 (by decide +kernel) ml_B_31 (Nat.le_refl _) rfl rfl (by first | exact Nat.le_of_ble_eq_true rfl | simp [sm_rfc, Value.category]) rfl hf ?_
    rintro r2 h1 ⟨rfl, hf⟩
    change sm_W N (d + 1) mm_B_putInt 20 [(0, .ref x0), (1, .int x1), (2, .int x2), (3, .int x3)] [] h1 Q
    refine sm_iinc (i := 3) (j := 3) (z := 1) (y := x3 + 1) 23 [(3, .int (x3 + 1)), (0, .ref x0), (1, .int x1), (2, .int x2)] (by decide +kernel) rfl (by rfl) (by decide) rfl rfl ?_
    refine sm_goto (off := -21) 2 (by decide +kernel) (by decide) ?_
    exact sm_sub [1, 2, 3, 0] rfl hf
theorem cB_putInt {N d : Nat} {h : sm_H} {Q : Option Value → sm_H → Prop} {x0 : Nat} {x1 : Int32} {x2 : Int32} (hb : ∃ fs, h[x0]? = some (.inr (0, fs))) (hf : fB_putInt_0 N d h Q x0 x1 x2) : sm_V N (d + 1) mm_B_putInt 0 x0 [.int x1, .int x2] h Q := ⟨hb, sm_meth (by decide +kernel) (fun _ => Nat.le_of_ble_eq_true rfl) (fun _ => rfl) (kB_putInt_0 hf)⟩
def fB_add_0 (N d : Nat) (h : sm_H) (Q : Option Value → sm_H → Prop) (x0 : Nat) (x1 : Int32) : Prop := ∃ z1 : Int32, sm_g h x0 0 1 = some (.int z1) ∧ ∃ z2 : Nat, sm_g h x0 0 0 = some (.ref z2) ∧ ∃ z3 : Int32, sm_n h z2 = some z3 ∧ ((z3 ≤ z1 → Q none h) ∧ (¬ z3 ≤ z1 → ∃ z4 : Nat, sm_g h x0 0 0 = some (.ref z4) ∧ ∃ z5 : Int32, sm_g h x0 0 1 = some (.int z5) ∧ ∃ h6, sm_pb h z4 z5 (Int8.toInt32 (Int32.toInt8 x1)) = some h6 ∧ ∃ z7 : Int32, sm_g h6 x0 0 1 = some (.int z7) ∧ ∃ h8, sm_p h6 x0 0 1 (.int (z7 + 1)) = some h8 ∧ Q none h8))
set_option maxRecDepth 20000 in
set_option maxHeartbeats 4000000 in
theorem kB_add_0 {N d : Nat} {h : sm_H} {Q : Option Value → sm_H → Prop} {x0 : Nat} {x1 : Int32} (hf : fB_add_0 N d h Q x0 x1) : sm_W N (d + 1) mm_B_add 0 [(0, .ref x0), (1, .int x1)] [] h Q := by
  unfold fB_add_0 at hf
  refine sm_aload_n (k := 0) 1 0 (by decide +kernel) rfl rfl rfl ?_
  obtain ⟨z1, ez1, hf⟩ := hf
  refine sm_get 4 (by decide +kernel) fl_B_9 ez1 rfl ?_
  refine sm_aload_n (k := 0) 5 0 (by decide +kernel) rfl rfl rfl ?_
  obtain ⟨z2, ez2, hf⟩ := hf
  refine sm_get 8 (by decide +kernel) fl_B_21 ez2 rfl ?_
  obtain ⟨z3, ez3, hf⟩ := hf
  refine sm_alen 9 (by decide +kernel) ez3 rfl ?_
  refine sm_icmp_ge (off := 24) 12 33 (by decide +kernel) (by decide) rfl (fun q9 => ?_) (fun q9 => ?_)
  · have hf := hf.1 q9
    exact sm_vret rfl (by decide +kernel) hf
  · have hf := hf.2 q9
    refine sm_aload_n (k := 0) 13 0 (by decide +kernel) rfl rfl rfl ?_
    obtain ⟨z4, ez4, hf⟩ := hf
    refine sm_get 16 (by decide +kernel) fl_B_21 ez4 rfl ?_
    refine sm_aload_n (k := 0) 17 0 (by decide +kernel) rfl rfl rfl ?_
    obtain ⟨z5, ez5, hf⟩ := hf
    refine sm_get 20 (by decide +kernel) fl_B_9 ez5 rfl ?_
    refine sm_iload_n (k := 1) 21 1 (by decide +kernel) rfl rfl rfl ?_
    refine sm_i2b 22 (by decide +kernel) rfl ?_
    obtain ⟨h6, eh6, hf⟩ := hf
    refine sm_bast 23 (by decide +kernel) eh6 rfl ?_
    refine sm_aload_n (k := 0) 24 0 (by decide +kernel) rfl rfl rfl ?_
    refine sm_dup 25 (by decide +kernel) (by first | rfl | simp [sm_rfc]) rfl ?_
    obtain ⟨z7, ez7, hf⟩ := hf
    refine sm_get 28 (by decide +kernel) fl_B_9 ez7 rfl ?_
    refine sm_iconst (i := 1) (x := 1) 29 (by decide +kernel) rfl rfl ?_
    refine sm_iadd 30 (by decide +kernel) rfl ?_
    obtain ⟨h8, eh8, hf⟩ := hf
    refine sm_put (ty := .int) 33 (by decide +kernel) fp_B_9 (fun _ => rfl) rfl rfl eh8 rfl ?_
    exact sm_vret rfl (by decide +kernel) hf
theorem cB_add {N d : Nat} {h : sm_H} {Q : Option Value → sm_H → Prop} {x0 : Nat} {x1 : Int32} (hb : ∃ fs, h[x0]? = some (.inr (0, fs))) (hf : fB_add_0 N d h Q x0 x1) : sm_V N (d + 1) mm_B_add 0 x0 [.int x1] h Q := ⟨hb, sm_meth (by decide +kernel) (fun _ => Nat.le_of_ble_eq_true rfl) (fun _ => rfl) (kB_add_0 hf)⟩
def fB_addHighestFirst_0 (N d : Nat) (h : sm_H) (Q : Option Value → sm_H → Prop) (x0 : Nat) (x1 : Int32) : Prop := sm_W N (d + 1) mm_B_addHighestFirst 3 [(0, .ref x0), (1, .int x1), (2, .int 24)] [] h Q
set_option maxRecDepth 20000 in
set_option maxHeartbeats 4000000 in
theorem kB_addHighestFirst_0 {N d : Nat} {h : sm_H} {Q : Option Value → sm_H → Prop} {x0 : Nat} {x1 : Int32} (hf : fB_addHighestFirst_0 N d h Q x0 x1) : sm_W N (d + 1) mm_B_addHighestFirst 0 [(0, .ref x0), (1, .int x1)] [] h Q := by
  unfold fB_addHighestFirst_0 at hf
  refine sm_bipush (i := 24) (x := 24) 2 (by decide +kernel) (by decide) rfl ?_
  refine sm_istore_n (k := 2) 3 [(2, .int 24), (0, .ref x0), (1, .int x1)] (by decide +kernel) rfl (by decide) (by first | rfl | simp [sm_rfc]) rfl ?_
  exact sm_sub [1, 2, 0] rfl hf
def fB_addHighestFirst_3 (N d : Nat) (h : sm_H) (Q : Option Value → sm_H → Prop) (x0 : Nat) (x1 : Int32) (x2 : Int32) : Prop := ((x2 < 0 → Q none h) ∧ (¬ x2 < 0 → sm_V N d mm_B_add 0 x0 [.int (x1 >>> (x2 &&& 31))] h (fun r2 h1 => r2 = none ∧ sm_W N (d + 1) mm_B_addHighestFirst 3 [(0, .ref x0), (1, .int x1), (2, .int (x2 + (-8)))] [] h1 Q)))
set_option maxRecDepth 20000 in
set_option maxHeartbeats 4000000 in
theorem kB_addHighestFirst_3 {N d : Nat} {h : sm_H} {Q : Option Value → sm_H → Prop} {x0 : Nat} {x1 : Int32} {x2 : Int32} (hf : fB_addHighestFirst_3 N d h Q x0 x1 x2) : sm_W N (d + 1) mm_B_addHighestFirst 3 [(0, .ref x0), (1, .int x1), (2, .int x2)] [] h Q := by
  unfold fB_addHighestFirst_3 at hf
  refine sm_iload_n (k := 2) 4 2 (by decide +kernel) rfl rfl rfl ?_
  refine sm_if_lt (off := 16) 7 20 (by decide +kernel) (by decide) rfl (fun q3 => ?_) (fun q3 => ?_)
  · have hf := hf.1 q3
    exact sm_vret rfl (by decide +kernel) hf
  · have hf := hf.2 q3
    refine sm_aload_n (k := 0) 8 0 (by decide +kernel) rfl rfl rfl ?_
    refine sm_iload_n (k := 1) 9 1 (by decide +kernel) rfl rfl rfl ?_
    refine sm_iload_n (k := 2) 10 2 (by decide +kernel) rfl rfl rfl ?_
    refine sm_ishr 11 (by decide +kernel) rfl ?_
    refine sm_callV (M2 := mm_B_add) (av := [.int (x1 >>> (x2 &&& 31))]) (rest := []) 14 (by decide +kernel) ml_B_35 (Nat.le_refl _) rfl rfl (by first | exact Nat.le_of_ble_eq_true rfl | simp [sm_rfc, Value.category]) rfl hf ?_
    rintro r2 h1 ⟨rfl, hf⟩
    change sm_W N (d + 1) mm_B_addHighestFirst 14 [(0, .ref x0), (1, .int x1), (2, .int x2)] [] h1 Q
    refine sm_iinc (i := 2) (j := 2) (z := -8) (y := x2 + (-8)) 17 [(2, .int (x2 + (-8))), (0, .ref x0), (1, .int x1)] (by decide +kernel) rfl (by rfl) (by decide) rfl rfl ?_
    refine sm_goto (off := -14) 3 (by decide +kernel) (by decide) ?_
    exact sm_sub [1, 2, 0] rfl hf
theorem cB_addHighestFirst {N d : Nat} {h : sm_H} {Q : Option Value → sm_H → Prop} {x0 : Nat} {x1 : Int32} (hb : ∃ fs, h[x0]? = some (.inr (0, fs))) (hf : fB_addHighestFirst_0 N d h Q x0 x1) : sm_V N (d + 1) mm_B_addHighestFirst 0 x0 [.int x1] h Q := ⟨hb, sm_meth (by decide +kernel) (fun _ => Nat.le_of_ble_eq_true rfl) (fun _ => rfl) (kB_addHighestFirst_0 hf)⟩
def fB_becomeEmptyDocument_0 (N d : Nat) (h : sm_H) (Q : Option Value → sm_H → Prop) (x0 : Nat) : Prop := ∃ h1, sm_p h x0 0 1 (.int 0) = some h1 ∧ sm_V N d mm_B_add 0 x0 [.int 5] h1 (fun r3 h2 => r3 = none ∧ sm_W N (d + 1) mm_B_becomeEmptyDocument 12 [(0, .ref x0), (1, .int 1)] [] h2 Q)
set_option maxRecDepth 20000 in
set_option maxHeartbeats 4000000 in
theorem kB_becomeEmptyDocument_0 {N d : Nat} {h : sm_H} {Q : Option Value → sm_H → Prop} {x0 : Nat} (hf : fB_becomeEmptyDocument_0 N d h Q x0) : sm_W N (d + 1) mm_B_becomeEmptyDocument 0 [(0, .ref x0)] [] h Q := by
  unfold fB_becomeEmptyDocument_0 at hf
  refine sm_aload_n (k := 0) 1 0 (by decide +kernel) rfl rfl rfl ?_
  refine sm_iconst (i := 0) (x := 0) 2 (by decide +kernel) rfl rfl ?_
  obtain ⟨h1, eh1, hf⟩ := hf
  refine sm_put (ty := .int) 5 (by decide +kernel) fp_B_9 (fun _ => rfl) rfl rfl eh1 rfl ?_
  refine sm_aload_n (k := 0) 6 0 (by decide +kernel) rfl rfl rfl ?_
  refine sm_iconst (i := 5) (x := 5) 7 (by decide +kernel) rfl rfl ?_
  refine sm_callV (M2 := mm_B_add) (av := [.int 5]) (rest := []) 10 (by decide +kernel) ml_B_35 (Nat.le_refl _) rfl rfl (by first | exact Nat.le_of_ble_eq_true rfl | simp [sm_rfc, Value.category]) rfl hf ?_
  rintro r3 h2 ⟨rfl, hf⟩
  change sm_W N (d + 1) mm_B_becomeEmptyDocument 10 [(0, .ref x0)] [] h2 Q
  refine sm_iconst (i := 1) (x := 1) 11 (by decide +kernel) rfl rfl ?_
  refine sm_istore_n (k := 1) 12 [(1, .int 1), (0, .ref x0)] (by decide +kernel) rfl (by decide) (by first | rfl | simp [sm_rfc]) rfl ?_
  exact sm_sub [1, 0] rfl hf
def fB_becomeEmptyDocument_12 (N d : Nat) (h : sm_H) (Q : Option Value → sm_H → Prop) (x0 : Nat) (x1 : Int32) : Prop := ((5 ≤ x1 → Q none h) ∧ (¬ 5 ≤ x1 → sm_V N d mm_B_add 0 x0 [.int 0] h (fun r2 h1 => r2 = none ∧ sm_W N (d + 1) mm_B_becomeEmptyDocument 12 [(0, .ref x0), (1, .int (x1 + 1))] [] h1 Q)))
set_option maxRecDepth 20000 in
set_option maxHeartbeats 4000000 in
theorem kB_becomeEmptyDocument_12 {N d : Nat} {h : sm_H} {Q : Option Value → sm_H → Prop} {x0 : Nat} {x1 : Int32} (hf : fB_becomeEmptyDocument_12 N d h Q x0 x1) : sm_W N (d + 1) mm_B_becomeEmptyDocument 12 [(0, .ref x0), (1, .int x1)] [] h Q := by
  unfold fB_becomeEmptyDocument_12 at hf
  refine sm_iload_n (k := 1) 13 1 (by decide +kernel) rfl rfl rfl ?_
  refine sm_iconst (i := 5) (x := 5) 14 (by decide +kernel) rfl rfl ?_
  refine sm_icmp_ge (off := 14) 17 28 (by decide +kernel) (by decide) rfl (fun q3 => ?_) (fun q3 => ?_)
  · have hf := hf.1 q3
    exact sm_vret rfl (by decide +kernel) hf
  · have hf := hf.2 q3
    refine sm_aload_n (k := 0) 18 0 (by decide +kernel) rfl rfl rfl ?_
    refine sm_iconst (i := 0) (x := 0) 19 (by decide +kernel) rfl rfl ?_
    refine sm_callV (M2 := mm_B_add) (av := [.int 0]) (rest := []) 22 (by decide +kernel) ml_B_35 (Nat.le_refl _) rfl rfl (by first | exact Nat.le_of_ble_eq_true rfl | simp [sm_rfc, Value.category]) rfl hf ?_
    rintro r2 h1 ⟨rfl, hf⟩
    change sm_W N (d + 1) mm_B_becomeEmptyDocument 22 [(0, .ref x0), (1, .int x1)] [] h1 Q
    refine sm_iinc (i := 1) (j := 1) (z := 1) (y := x1 + 1) 25 [(1, .int (x1 + 1)), (0, .ref x0)] (by decide +kernel) rfl (by rfl) (by decide) rfl rfl ?_
    refine sm_goto (off := -13) 12 (by decide +kernel) (by decide) ?_
    exact sm_sub [1, 0] rfl hf
theorem cB_becomeEmptyDocument {N d : Nat} {h : sm_H} {Q : Option Value → sm_H → Prop} {x0 : Nat} (hb : ∃ fs, h[x0]? = some (.inr (0, fs))) (hf : fB_becomeEmptyDocument_0 N d h Q x0) : sm_V N (d + 1) mm_B_becomeEmptyDocument 0 x0 [] h Q := ⟨hb, sm_meth (by decide +kernel) (fun _ => Nat.le_of_ble_eq_true rfl) (fun _ => rfl) (kB_becomeEmptyDocument_0 hf)⟩
def fB_becomeNumber_0 (N d : Nat) (h : sm_H) (Q : Option Value → sm_H → Prop) (x0 : Nat) (x1 : Int64) : Prop := ∃ h1, sm_p h x0 0 1 (.int 0) = some h1 ∧ sm_W N (d + 1) mm_B_becomeNumber 7 [(0, .ref x0), (1, .long x1), (3, .int 0)] [] h1 Q
set_option maxRecDepth 20000 in
set_option maxHeartbeats 4000000 in
theorem kB_becomeNumber_0 {N d : Nat} {h : sm_H} {Q : Option Value → sm_H → Prop} {x0 : Nat} {x1 : Int64} (hf : fB_becomeNumber_0 N d h Q x0 x1) : sm_W N (d + 1) mm_B_becomeNumber 0 [(0, .ref x0), (1, .long x1)] [] h Q := by
  unfold fB_becomeNumber_0 at hf
  refine sm_aload_n (k := 0) 1 0 (by decide +kernel) rfl rfl rfl ?_
  refine sm_iconst (i := 0) (x := 0) 2 (by decide +kernel) rfl rfl ?_
  obtain ⟨h1, eh1, hf⟩ := hf
  refine sm_put (ty := .int) 5 (by decide +kernel) fp_B_9 (fun _ => rfl) rfl rfl eh1 rfl ?_
  refine sm_iconst (i := 0) (x := 0) 6 (by decide +kernel) rfl rfl ?_
  refine sm_istore_n (k := 3) 7 [(3, .int 0), (0, .ref x0), (1, .long x1)] (by decide +kernel) rfl (by decide) (by first | rfl | simp [sm_rfc]) rfl ?_
  exact sm_sub [1, 2, 0] rfl hf
def fB_becomeNumber_7 (N d : Nat) (h : sm_H) (Q : Option Value → sm_H → Prop) (x0 : Nat) (x1 : Int64) (x3 : Int32) : Prop := ((64 ≤ x3 → Q none h) ∧ (¬ 64 ≤ x3 → sm_V N d mm_B_add 0 x0 [.int (Int64.toInt32 (x1 >>> (Int32.toInt64 x3 &&& 63)))] h (fun r2 h1 => r2 = none ∧ sm_W N (d + 1) mm_B_becomeNumber 7 [(0, .ref x0), (1, .long x1), (3, .int (x3 + 8))] [] h1 Q)))
set_option maxRecDepth 20000 in
set_option maxHeartbeats 4000000 in
theorem kB_becomeNumber_7 {N d : Nat} {h : sm_H} {Q : Option Value → sm_H → Prop} {x0 : Nat} {x1 : Int64} {x3 : Int32} (hf : fB_becomeNumber_7 N d h Q x0 x1 x3) : sm_W N (d + 1) mm_B_becomeNumber 7 [(0, .ref x0), (1, .long x1), (3, .int x3)] [] h Q := by
  unfold fB_becomeNumber_7 at hf
  refine sm_iload_n (k := 3) 8 2 (by decide +kernel) rfl rfl rfl ?_
  refine sm_bipush (i := 64) (x := 64) 10 (by decide +kernel) (by decide) rfl ?_
  refine sm_icmp_ge (off := 17) 13 27 (by decide +kernel) (by decide) rfl (fun q3 => ?_) (fun q3 => ?_)
  · have hf := hf.1 q3
    exact sm_vret rfl (by decide +kernel) hf
  · have hf := hf.2 q3
    refine sm_aload_n (k := 0) 14 0 (by decide +kernel) rfl rfl rfl ?_
    refine sm_lload_n (k := 1) 15 1 (by decide +kernel) rfl rfl rfl ?_
    refine sm_iload_n (k := 3) 16 2 (by decide +kernel) rfl rfl rfl ?_
    refine sm_lshr 17 (by decide +kernel) rfl ?_
    refine sm_l2i 18 (by decide +kernel) rfl ?_
    refine sm_callV (M2 := mm_B_add) (av := [.int (Int64.toInt32 (x1 >>> (Int32.toInt64 x3 &&& 63)))]) (rest := []) 21 (by decide +kernel) ml_B_35 (Nat.le_refl _) rfl rfl (by first | exact Nat.le_of_ble_eq_true rfl | simp [sm_rfc, Value.category]) rfl hf ?_
    rintro r2 h1 ⟨rfl, hf⟩
    change sm_W N (d + 1) mm_B_becomeNumber 21 [(0, .ref x0), (1, .long x1), (3, .int x3)] [] h1 Q
    refine sm_iinc (i := 3) (j := 2) (z := 8) (y := x3 + 8) 24 [(3, .int (x3 + 8)), (0, .ref x0), (1, .long x1)] (by decide +kernel) rfl (by rfl) (by decide) rfl rfl ?_
    refine sm_goto (off := -17) 7 (by decide +kernel) (by decide) ?_
    exact sm_sub [1, 2, 0] rfl hf
theorem cB_becomeNumber {N d : Nat} {h : sm_H} {Q : Option Value → sm_H → Prop} {x0 : Nat} {x1 : Int64} (hb : ∃ fs, h[x0]? = some (.inr (0, fs))) (hf : fB_becomeNumber_0 N d h Q x0 x1) : sm_V N (d + 1) mm_B_becomeNumber 0 x0 [.long x1] h Q := ⟨hb, sm_meth (by decide +kernel) (fun _ => Nat.le_of_ble_eq_true rfl) (fun _ => rfl) (kB_becomeNumber_0 hf)⟩
def fB_becomeDigits_0 (N d : Nat) (h : sm_H) (Q : Option Value → sm_H → Prop) (x0 : Nat) (x1 : Int32) : Prop := sm_W N (d + 1) mm_B_becomeDigits 4 [(0, .ref x0), (1, .int x1), (2, .int 1), (3, .int 1)] [] h Q
set_option maxRecDepth 20000 in
set_option maxHeartbeats 4000000 in
theorem kB_becomeDigits_0 {N d : Nat} {h : sm_H} {Q : Option Value → sm_H → Prop} {x0 : Nat} {x1 : Int32} (hf : fB_becomeDigits_0 N d h Q x0 x1) : sm_W N (d + 1) mm_B_becomeDigits 0 [(0, .ref x0), (1, .int x1)] [] h Q := by
  unfold fB_becomeDigits_0 at hf
  refine sm_iconst (i := 1) (x := 1) 1 (by decide +kernel) rfl rfl ?_
  refine sm_istore_n (k := 2) 2 [(2, .int 1), (0, .ref x0), (1, .int x1)] (by decide +kernel) rfl (by decide) (by first | rfl | simp [sm_rfc]) rfl ?_
  refine sm_iconst (i := 1) (x := 1) 3 (by decide +kernel) rfl rfl ?_
  refine sm_istore_n (k := 3) 4 [(3, .int 1), (2, .int 1), (0, .ref x0), (1, .int x1)] (by decide +kernel) rfl (by decide) (by first | rfl | simp [sm_rfc]) rfl ?_
  exact sm_sub [2, 3, 1, 0] rfl hf
def fB_becomeDigits_4 (N d : Nat) (h : sm_H) (Q : Option Value → sm_H → Prop) (x0 : Nat) (x1 : Int32) (x2 : Int32) (x3 : Int32) : Prop := ((10 ≤ x3 → sm_W N (d + 1) mm_B_becomeDigits 29 [(0, .ref x0), (1, .int x1), (2, .int x2)] [] h Q) ∧ (¬ 10 ≤ x3 → (((x1 / 10) < x2 → sm_W N (d + 1) mm_B_becomeDigits 29 [(0, .ref x0), (1, .int x1), (2, .int x2)] [] h Q) ∧ (¬ (x1 / 10) < x2 → sm_W N (d + 1) mm_B_becomeDigits 4 [(0, .ref x0), (1, .int x1), (2, .int (x2 * 10)), (3, .int (x3 + 1))] [] h Q))))
set_option maxRecDepth 20000 in
set_option maxHeartbeats 4000000 in
theorem kB_becomeDigits_4 {N d : Nat} {h : sm_H} {Q : Option Value → sm_H → Prop} {x0 : Nat} {x1 : Int32} {x2 : Int32} {x3 : Int32} (hf : fB_becomeDigits_4 N d h Q x0 x1 x2 x3) : sm_W N (d + 1) mm_B_becomeDigits 4 [(0, .ref x0), (1, .int x1), (2, .int x2), (3, .int x3)] [] h Q := by
  unfold fB_becomeDigits_4 at hf
  refine sm_iload_n (k := 3) 5 3 (by decide +kernel) rfl rfl rfl ?_
  refine sm_bipush (i := 10) (x := 10) 7 (by decide +kernel) (by decide) rfl ?_
  refine sm_icmp_ge (off := 22) 10 29 (by decide +kernel) (by decide) rfl (fun q2 => ?_) (fun q2 => ?_)
  · have hf := hf.1 q2
    exact sm_sub [0, 1, 2] rfl hf
  · have hf := hf.2 q2
    refine sm_iload_n (k := 1) 11 1 (by decide +kernel) rfl rfl rfl ?_
    refine sm_bipush (i := 10) (x := 10) 13 (by decide +kernel) (by decide) rfl ?_
    refine sm_idiv 14 (by decide +kernel) (by decide) rfl ?_
    refine sm_iload_n (k := 2) 15 2 (by decide +kernel) rfl rfl rfl ?_
    refine sm_icmp_lt (off := 14) 18 29 (by decide +kernel) (by decide) rfl (fun q1 => ?_) (fun q1 => ?_)
    · have hf := hf.1 q1
      exact sm_sub [0, 1, 2] rfl hf
    · have hf := hf.2 q1
      refine sm_iload_n (k := 2) 19 2 (by decide +kernel) rfl rfl rfl ?_
      refine sm_bipush (i := 10) (x := 10) 21 (by decide +kernel) (by decide) rfl ?_
      refine sm_imul 22 (by decide +kernel) rfl ?_
      refine sm_istore_n (k := 2) 23 [(2, .int (x2 * 10)), (0, .ref x0), (1, .int x1), (3, .int x3)] (by decide +kernel) rfl (by decide) (by first | rfl | simp [sm_rfc]) rfl ?_
      refine sm_iinc (i := 3) (j := 3) (z := 1) (y := x3 + 1) 26 [(3, .int (x3 + 1)), (2, .int (x2 * 10)), (0, .ref x0), (1, .int x1)] (by decide +kernel) rfl (by rfl) (by decide) rfl rfl ?_
      refine sm_goto (off := -22) 4 (by decide +kernel) (by decide) ?_
      exact sm_sub [2, 3, 1, 0] rfl hf
def fB_becomeDigits_29 (N d : Nat) (h : sm_H) (Q : Option Value → sm_H → Prop) (x0 : Nat) (x1 : Int32) (x2 : Int32) : Prop := ∃ h1, sm_p h x0 0 1 (.int 0) = some h1 ∧ sm_W N (d + 1) mm_B_becomeDigits 36 [(0, .ref x0), (1, .int x1), (2, .int x2), (3, .int 0)] [] h1 Q
set_option maxRecDepth 20000 in
set_option maxHeartbeats 4000000 in
theorem kB_becomeDigits_29 {N d : Nat} {h : sm_H} {Q : Option Value → sm_H → Prop} {x0 : Nat} {x1 : Int32} {x2 : Int32} (hf : fB_becomeDigits_29 N d h Q x0 x1 x2) : sm_W N (d + 1) mm_B_becomeDigits 29 [(0, .ref x0), (1, .int x1), (2, .int x2)] [] h Q := by
  unfold fB_becomeDigits_29 at hf
  refine sm_aload_n (k := 0) 30 0 (by decide +kernel) rfl rfl rfl ?_
  refine sm_iconst (i := 0) (x := 0) 31 (by decide +kernel) rfl rfl ?_
  obtain ⟨h1, eh1, hf⟩ := hf
  refine sm_put (ty := .int) 34 (by decide +kernel) fp_B_9 (fun _ => rfl) rfl rfl eh1 rfl ?_
  refine sm_iconst (i := 0) (x := 0) 35 (by decide +kernel) rfl rfl ?_
  refine sm_istore_n (k := 3) 36 [(3, .int 0), (0, .ref x0), (1, .int x1), (2, .int x2)] (by decide +kernel) rfl (by decide) (by first | rfl | simp [sm_rfc]) rfl ?_
  exact sm_sub [1, 2, 3, 0] rfl hf
def fB_becomeDigits_36 (N d : Nat) (h : sm_H) (Q : Option Value → sm_H → Prop) (x0 : Nat) (x1 : Int32) (x2 : Int32) (x3 : Int32) : Prop := ((10 ≤ x3 → Q none h) ∧ (¬ 10 ≤ x3 → ((x2 ≤ 0 → Q none h) ∧ (¬ x2 ≤ 0 → ¬ x2 = 0 ∧ sm_V N d mm_B_add 0 x0 [.int (48 + ((x1 / x2) - (x1 / x2) / 10 * 10))] h (fun r3 h2 => r3 = none ∧ sm_W N (d + 1) mm_B_becomeDigits 36 [(0, .ref x0), (1, .int x1), (2, .int (x2 / 10)), (3, .int (x3 + 1))] [] h2 Q)))))
set_option maxRecDepth 20000 in
set_option maxHeartbeats 4000000 in
theorem kB_becomeDigits_36 {N d : Nat} {h : sm_H} {Q : Option Value → sm_H → Prop} {x0 : Nat} {x1 : Int32} {x2 : Int32} {x3 : Int32} (hf : fB_becomeDigits_36 N d h Q x0 x1 x2 x3) : sm_W N (d + 1) mm_B_becomeDigits 36 [(0, .ref x0), (1, .int x1), (2, .int x2), (3, .int x3)] [] h Q := by
  unfold fB_becomeDigits_36 at hf
  refine sm_iload_n (k := 3) 37 3 (by decide +kernel) rfl rfl rfl ?_
  refine sm_bipush (i := 10) (x := 10) 39 (by decide +kernel) (by decide) rfl ?_
  refine sm_icmp_ge (off := 31) 42 70 (by decide +kernel) (by decide) rfl (fun q5 => ?_) (fun q5 => ?_)
  · have hf := hf.1 q5
    exact sm_vret rfl (by decide +kernel) hf
  · have hf := hf.2 q5
    refine sm_iload_n (k := 2) 43 2 (by decide +kernel) rfl rfl rfl ?_
    refine sm_if_le (off := 27) 46 70 (by decide +kernel) (by decide) rfl (fun q4 => ?_) (fun q4 => ?_)
    · have hf := hf.1 q4
      exact sm_vret rfl (by decide +kernel) hf
    · have hf := hf.2 q4
      refine sm_aload_n (k := 0) 47 0 (by decide +kernel) rfl rfl rfl ?_
      refine sm_bipush (i := 48) (x := 48) 49 (by decide +kernel) (by decide) rfl ?_
      refine sm_iload_n (k := 1) 50 1 (by decide +kernel) rfl rfl rfl ?_
      refine sm_iload_n (k := 2) 51 2 (by decide +kernel) rfl rfl rfl ?_
      obtain ⟨q1, hf⟩ := hf
      refine sm_idiv 52 (by decide +kernel) q1 rfl ?_
      refine sm_bipush (i := 10) (x := 10) 54 (by decide +kernel) (by decide) rfl ?_
      refine sm_irem 55 (by decide +kernel) (by decide) rfl ?_
      refine sm_iadd 56 (by decide +kernel) rfl ?_
      refine sm_callV (M2 := mm_B_add) (av := [.int (48 + ((x1 / x2) - (x1 / x2) / 10 * 10))]) (rest := []) 59 (by decide +kernel) ml_B_35 (Nat.le_refl _) rfl rfl (by first | exact Nat.le_of_ble_eq_true rfl | simp [sm_rfc, Value.category]) rfl hf ?_
      rintro r3 h2 ⟨rfl, hf⟩
      change sm_W N (d + 1) mm_B_becomeDigits 59 [(0, .ref x0), (1, .int x1), (2, .int x2), (3, .int x3)] [] h2 Q
      refine sm_iload_n (k := 2) 60 2 (by decide +kernel) rfl rfl rfl ?_
      refine sm_bipush (i := 10) (x := 10) 62 (by decide +kernel) (by decide) rfl ?_
      refine sm_idiv 63 (by decide +kernel) (by decide) rfl ?_
      refine sm_istore_n (k := 2) 64 [(2, .int (x2 / 10)), (0, .ref x0), (1, .int x1), (3, .int x3)] (by decide +kernel) rfl (by decide) (by first | rfl | simp [sm_rfc]) rfl ?_
      refine sm_iinc (i := 3) (j := 3) (z := 1) (y := x3 + 1) 67 [(3, .int (x3 + 1)), (2, .int (x2 / 10)), (0, .ref x0), (1, .int x1)] (by decide +kernel) rfl (by rfl) (by decide) rfl rfl ?_
      refine sm_goto (off := -31) 36 (by decide +kernel) (by decide) ?_
      exact sm_sub [2, 3, 1, 0] rfl hf
theorem cB_becomeDigits {N d : Nat} {h : sm_H} {Q : Option Value → sm_H → Prop} {x0 : Nat} {x1 : Int32} (hb : ∃ fs, h[x0]? = some (.inr (0, fs))) (hf : fB_becomeDigits_0 N d h Q x0 x1) : sm_V N (d + 1) mm_B_becomeDigits 0 x0 [.int x1] h Q := ⟨hb, sm_meth (by decide +kernel) (fun _ => Nat.le_of_ble_eq_true rfl) (fun _ => rfl) (kB_becomeDigits_0 hf)⟩
def fB_become_0 (N d : Nat) (h : sm_H) (Q : Option Value → sm_H → Prop) (x0 : Nat) (x1 : Nat) (x2 : Int32) : Prop := ((x2 < 0 → Q none h) ∧ (¬ x2 < 0 → ∃ z1 : Int32, sm_g h x1 0 1 = some (.int z1) ∧ ((z1 < x2 → Q none h) ∧ (¬ z1 < x2 → ∃ z2 : Nat, sm_g h x0 0 0 = some (.ref z2) ∧ ∃ z3 : Int32, sm_n h z2 = some z3 ∧ ((z3 < x2 → Q none h) ∧ (¬ z3 < x2 → ∃ z4 : Nat, sm_g h x1 0 0 = some (.ref z4) ∧ ∃ z5 : Nat, sm_g h x0 0 0 = some (.ref z5) ∧ ∃ h6, sm_cp h z4 0 z5 0 x2 h6 ∧ ∃ h7, sm_p h6 x0 0 1 (.int x2) = some h7 ∧ Q none h7))))))
set_option maxRecDepth 20000 in
set_option maxHeartbeats 4000000 in
theorem kB_become_0 {N d : Nat} {h : sm_H} {Q : Option Value → sm_H → Prop} {x0 : Nat} {x1 : Nat} {x2 : Int32} (hf : fB_become_0 N d h Q x0 x1 x2) : sm_W N (d + 1) mm_B_become 0 [(0, .ref x0), (1, .ref x1), (2, .int x2)] [] h Q := by
  unfold fB_become_0 at hf
  refine sm_iload_n (k := 2) 1 2 (by decide +kernel) rfl rfl rfl ?_
  refine sm_if_lt (off := 39) 4 40 (by decide +kernel) (by decide) rfl (fun q10 => ?_) (fun q10 => ?_)
  · have hf := hf.1 q10
    exact sm_vret rfl (by decide +kernel) hf
  · have hf := hf.2 q10
    refine sm_iload_n (k := 2) 5 2 (by decide +kernel) rfl rfl rfl ?_
    refine sm_aload_n (k := 1) 6 1 (by decide +kernel) rfl rfl rfl ?_
    obtain ⟨z1, ez1, hf⟩ := hf
    refine sm_get 9 (by decide +kernel) fl_B_9 ez1 rfl ?_
    refine sm_icmp_gt (off := 31) 12 40 (by decide +kernel) (by decide) rfl (fun q9 => ?_) (fun q9 => ?_)
    · have hf := hf.1 q9
      exact sm_vret rfl (by decide +kernel) hf
    · have hf := hf.2 q9
      refine sm_iload_n (k := 2) 13 2 (by decide +kernel) rfl rfl rfl ?_
      refine sm_aload_n (k := 0) 14 0 (by decide +kernel) rfl rfl rfl ?_
      obtain ⟨z2, ez2, hf⟩ := hf
      refine sm_get 17 (by decide +kernel) fl_B_21 ez2 rfl ?_
      obtain ⟨z3, ez3, hf⟩ := hf
      refine sm_alen 18 (by decide +kernel) ez3 rfl ?_
      refine sm_icmp_gt (off := 22) 21 40 (by decide +kernel) (by decide) rfl (fun q8 => ?_) (fun q8 => ?_)
      · have hf := hf.1 q8
        exact sm_vret rfl (by decide +kernel) hf
      · have hf := hf.2 q8
        refine sm_aload_n (k := 1) 22 1 (by decide +kernel) rfl rfl rfl ?_
        obtain ⟨z4, ez4, hf⟩ := hf
        refine sm_get 25 (by decide +kernel) fl_B_21 ez4 rfl ?_
        refine sm_iconst (i := 0) (x := 0) 26 (by decide +kernel) rfl rfl ?_
        refine sm_aload_n (k := 0) 27 0 (by decide +kernel) rfl rfl rfl ?_
        obtain ⟨z5, ez5, hf⟩ := hf
        refine sm_get 30 (by decide +kernel) fl_B_21 ez5 rfl ?_
        refine sm_iconst (i := 0) (x := 0) 31 (by decide +kernel) rfl rfl ?_
        refine sm_iload_n (k := 2) 32 2 (by decide +kernel) rfl rfl rfl ?_
        obtain ⟨h6, eh6, hf⟩ := hf
        refine sm_copy 35 (by decide +kernel) ac_B_39 (Nat.le_add_left 1 d) (by first | exact Nat.le_of_ble_eq_true rfl | simp [sm_rfc, Value.category]) eh6 rfl ?_
        refine sm_aload_n (k := 0) 36 0 (by decide +kernel) rfl rfl rfl ?_
        refine sm_iload_n (k := 2) 37 2 (by decide +kernel) rfl rfl rfl ?_
        obtain ⟨h7, eh7, hf⟩ := hf
        refine sm_put (ty := .int) 40 (by decide +kernel) fp_B_9 (fun _ => rfl) rfl rfl eh7 rfl ?_
        exact sm_vret rfl (by decide +kernel) hf
theorem cB_become {N d : Nat} {h : sm_H} {Q : Option Value → sm_H → Prop} {x0 : Nat} {x1 : Nat} {x2 : Int32} (hb : ∃ fs, h[x0]? = some (.inr (0, fs))) (hf : fB_become_0 N d h Q x0 x1 x2) : sm_V N (d + 1) mm_B_become 0 x0 [.ref x1, .int x2] h Q := ⟨hb, sm_meth (by decide +kernel) (fun _ => Nat.le_of_ble_eq_true rfl) (fun _ => rfl) (kB_become_0 hf)⟩
def fB_resize_0 (N d : Nat) (h : sm_H) (Q : Option Value → sm_H → Prop) (x0 : Nat) (x1 : Int32) (x2 : Int32) (x3 : Int32) : Prop := ((x1 < 0 → Q (some (.int 0)) h) ∧ (¬ x1 < 0 → ((x2 < 0 → Q (some (.int 0)) h) ∧ (¬ x2 < 0 → ((x3 < 0 → Q (some (.int 0)) h) ∧ (¬ x3 < 0 → ∃ z1 : Int32, sm_g h x0 0 1 = some (.int z1) ∧ ((z1 < x1 → Q (some (.int 0)) h) ∧ (¬ z1 < x1 → ∃ z2 : Int32, sm_g h x0 0 1 = some (.int z2) ∧ ((x2 ≤ (z2 - x1) → ∃ z3 : Nat, sm_g h x0 0 0 = some (.ref z3) ∧ ∃ z4 : Int32, sm_n h z3 = some z4 ∧ ∃ z5 : Int32, sm_g h x0 0 1 = some (.int z5) ∧ ((x3 ≤ (z4 - (z5 - x2)) → ∃ z6 : Nat, sm_g h x0 0 0 = some (.ref z6) ∧ ∃ z7 : Nat, sm_g h x0 0 0 = some (.ref z7) ∧ ∃ z8 : Int32, sm_g h x0 0 1 = some (.int z8) ∧ ∃ h9, sm_cp h z6 (x1 + x2) z7 (x1 + x3) ((z8 - x1) - x2) h9 ∧ ∃ z10 : Int32, sm_g h9 x0 0 1 = some (.int z10) ∧ ∃ h11, sm_p h9 x0 0 1 (.int (z10 + (x3 - x2))) = some h11 ∧ Q (some (.int 1)) h11) ∧ (¬ x3 ≤ (z4 - (z5 - x2)) → Q (some (.int 0)) h))) ∧ (¬ x2 ≤ (z2 - x1) → Q (some (.int 0)) h))))))))))
set_option maxRecDepth 20000 in
set_option maxHeartbeats 4000000 in
theorem kB_resize_0 {N d : Nat} {h : sm_H} {Q : Option Value → sm_H → Prop} {x0 : Nat} {x1 : Int32} {x2 : Int32} {x3 : Int32} (hf : fB_resize_0 N d h Q x0 x1 x2 x3) : sm_W N (d + 1) mm_B_resize 0 [(0, .ref x0), (1, .int x1), (2, .int x2), (3, .int x3)] [] h Q := by
  unfold fB_resize_0 at hf
  refine sm_iload_n (k := 1) 1 1 (by decide +kernel) rfl rfl rfl ?_
  refine sm_if_lt (off := 29) 4 30 (by decide +kernel) (by decide) rfl (fun q17 => ?_) (fun q17 => ?_)
  · have hf := hf.1 q17
    refine sm_iconst (i := 0) (x := 0) 31 (by decide +kernel) rfl rfl ?_
    exact sm_zret rfl (by decide +kernel) (by decide) hf
  · have hf := hf.2 q17
    refine sm_iload_n (k := 2) 5 2 (by decide +kernel) rfl rfl rfl ?_
    refine sm_if_lt (off := 25) 8 30 (by decide +kernel) (by decide) rfl (fun q16 => ?_) (fun q16 => ?_)
    · have hf := hf.1 q16
      refine sm_iconst (i := 0) (x := 0) 31 (by decide +kernel) rfl rfl ?_
      exact sm_zret rfl (by decide +kernel) (by decide) hf
    · have hf := hf.2 q16
      refine sm_iload_n (k := 3) 9 3 (by decide +kernel) rfl rfl rfl ?_
      refine sm_if_lt (off := 21) 12 30 (by decide +kernel) (by decide) rfl (fun q15 => ?_) (fun q15 => ?_)
      · have hf := hf.1 q15
        refine sm_iconst (i := 0) (x := 0) 31 (by decide +kernel) rfl rfl ?_
        exact sm_zret rfl (by decide +kernel) (by decide) hf
      · have hf := hf.2 q15
        refine sm_iload_n (k := 1) 13 1 (by decide +kernel) rfl rfl rfl ?_
        refine sm_aload_n (k := 0) 14 0 (by decide +kernel) rfl rfl rfl ?_
        obtain ⟨z1, ez1, hf⟩ := hf
        refine sm_get 17 (by decide +kernel) fl_B_9 ez1 rfl ?_
        refine sm_icmp_gt (off := 13) 20 30 (by decide +kernel) (by decide) rfl (fun q14 => ?_) (fun q14 => ?_)
        · have hf := hf.1 q14
          refine sm_iconst (i := 0) (x := 0) 31 (by decide +kernel) rfl rfl ?_
          exact sm_zret rfl (by decide +kernel) (by decide) hf
        · have hf := hf.2 q14
          refine sm_iload_n (k := 2) 21 2 (by decide +kernel) rfl rfl rfl ?_
          refine sm_aload_n (k := 0) 22 0 (by decide +kernel) rfl rfl rfl ?_
          obtain ⟨z2, ez2, hf⟩ := hf
          refine sm_get 25 (by decide +kernel) fl_B_9 ez2 rfl ?_
          refine sm_iload_n (k := 1) 26 1 (by decide +kernel) rfl rfl rfl ?_
          refine sm_isub 27 (by decide +kernel) rfl ?_
          refine sm_icmp_le (off := 5) 30 32 (by decide +kernel) (by decide) rfl (fun q13 => ?_) (fun q13 => ?_)
          · have hf := hf.1 q13
            refine sm_iload_n (k := 3) 33 3 (by decide +kernel) rfl rfl rfl ?_
            refine sm_aload_n (k := 0) 34 0 (by decide +kernel) rfl rfl rfl ?_
            obtain ⟨z3, ez3, hf⟩ := hf
            refine sm_get 37 (by decide +kernel) fl_B_21 ez3 rfl ?_
            obtain ⟨z4, ez4, hf⟩ := hf
            refine sm_alen 38 (by decide +kernel) ez4 rfl ?_
            refine sm_aload_n (k := 0) 39 0 (by decide +kernel) rfl rfl rfl ?_
            obtain ⟨z5, ez5, hf⟩ := hf
            refine sm_get 42 (by decide +kernel) fl_B_9 ez5 rfl ?_
            refine sm_iload_n (k := 2) 43 2 (by decide +kernel) rfl rfl rfl ?_
            refine sm_isub 44 (by decide +kernel) rfl ?_
            refine sm_isub 45 (by decide +kernel) rfl ?_
            refine sm_icmp_le (off := 5) 48 50 (by decide +kernel) (by decide) rfl (fun q12 => ?_) (fun q12 => ?_)
            · have hf := hf.1 q12
              refine sm_aload_n (k := 0) 51 0 (by decide +kernel) rfl rfl rfl ?_
              obtain ⟨z6, ez6, hf⟩ := hf
              refine sm_get 54 (by decide +kernel) fl_B_21 ez6 rfl ?_
              refine sm_iload_n (k := 1) 55 1 (by decide +kernel) rfl rfl rfl ?_
              refine sm_iload_n (k := 2) 56 2 (by decide +kernel) rfl rfl rfl ?_
              refine sm_iadd 57 (by decide +kernel) rfl ?_
              refine sm_aload_n (k := 0) 58 0 (by decide +kernel) rfl rfl rfl ?_
              obtain ⟨z7, ez7, hf⟩ := hf
              refine sm_get 61 (by decide +kernel) fl_B_21 ez7 rfl ?_
              refine sm_iload_n (k := 1) 62 1 (by decide +kernel) rfl rfl rfl ?_
              refine sm_iload_n (k := 3) 63 3 (by decide +kernel) rfl rfl rfl ?_
              refine sm_iadd 64 (by decide +kernel) rfl ?_
              refine sm_aload_n (k := 0) 65 0 (by decide +kernel) rfl rfl rfl ?_
              obtain ⟨z8, ez8, hf⟩ := hf
              refine sm_get 68 (by decide +kernel) fl_B_9 ez8 rfl ?_
              refine sm_iload_n (k := 1) 69 1 (by decide +kernel) rfl rfl rfl ?_
              refine sm_isub 70 (by decide +kernel) rfl ?_
              refine sm_iload_n (k := 2) 71 2 (by decide +kernel) rfl rfl rfl ?_
              refine sm_isub 72 (by decide +kernel) rfl ?_
              obtain ⟨h9, eh9, hf⟩ := hf
              refine sm_copy 75 (by decide +kernel) ac_B_39 (Nat.le_add_left 1 d) (by first | exact Nat.le_of_ble_eq_true rfl | simp [sm_rfc, Value.category]) eh9 rfl ?_
              refine sm_aload_n (k := 0) 76 0 (by decide +kernel) rfl rfl rfl ?_
              refine sm_dup 77 (by decide +kernel) (by first | rfl | simp [sm_rfc]) rfl ?_
              obtain ⟨z10, ez10, hf⟩ := hf
              refine sm_get 80 (by decide +kernel) fl_B_9 ez10 rfl ?_
              refine sm_iload_n (k := 3) 81 3 (by decide +kernel) rfl rfl rfl ?_
              refine sm_iload_n (k := 2) 82 2 (by decide +kernel) rfl rfl rfl ?_
              refine sm_isub 83 (by decide +kernel) rfl ?_
              refine sm_iadd 84 (by decide +kernel) rfl ?_
              obtain ⟨h11, eh11, hf⟩ := hf
              refine sm_put (ty := .int) 87 (by decide +kernel) fp_B_9 (fun _ => rfl) rfl rfl eh11 rfl ?_
              refine sm_iconst (i := 1) (x := 1) 88 (by decide +kernel) rfl rfl ?_
              exact sm_zret rfl (by decide +kernel) (by decide) hf
            · have hf := hf.2 q12
              refine sm_iconst (i := 0) (x := 0) 49 (by decide +kernel) rfl rfl ?_
              exact sm_zret rfl (by decide +kernel) (by decide) hf
          · have hf := hf.2 q13
            refine sm_iconst (i := 0) (x := 0) 31 (by decide +kernel) rfl rfl ?_
            exact sm_zret rfl (by decide +kernel) (by decide) hf
theorem cB_resize {N d : Nat} {h : sm_H} {Q : Option Value → sm_H → Prop} {x0 : Nat} {x1 : Int32} {x2 : Int32} {x3 : Int32} (hb : ∃ fs, h[x0]? = some (.inr (0, fs))) (hf : fB_resize_0 N d h Q x0 x1 x2 x3) : sm_V N (d + 1) mm_B_resize 0 x0 [.int x1, .int x2, .int x3] h Q := ⟨hb, sm_meth (by decide +kernel) (fun _ => Nat.le_of_ble_eq_true rfl) (fun _ => rfl) (kB_resize_0 hf)⟩
def fB_write_0 (N d : Nat) (h : sm_H) (Q : Option Value → sm_H → Prop) (x0 : Nat) (x1 : Int32) (x2 : Nat) (x3 : Int32) (x4 : Int32) : Prop := ((x3 < 0 → Q none h) ∧ (¬ x3 < 0 → (((x4 - x3) < 0 → Q none h) ∧ (¬ (x4 - x3) < 0 → ∃ z1 : Int32, sm_g h x2 0 1 = some (.int z1) ∧ ((z1 < x4 → Q none h) ∧ (¬ z1 < x4 → ((x1 < 0 → Q none h) ∧ (¬ x1 < 0 → ∃ z2 : Int32, sm_g h x0 0 1 = some (.int z2) ∧ ((z2 < x1 → Q none h) ∧ (¬ z2 < x1 → ∃ z3 : Int32, sm_g h x0 0 1 = some (.int z3) ∧ (((x4 - x3) ≤ (z3 - x1) → ∃ z4 : Nat, sm_g h x2 0 0 = some (.ref z4) ∧ ∃ z5 : Nat, sm_g h x0 0 0 = some (.ref z5) ∧ ∃ h6, sm_cp h z4 x3 z5 x1 (x4 - x3) h6 ∧ Q none h6) ∧ (¬ (x4 - x3) ≤ (z3 - x1) → Q none h))))))))))))
set_option maxRecDepth 20000 in
set_option maxHeartbeats 4000000 in
theorem kB_write_0 {N d : Nat} {h : sm_H} {Q : Option Value → sm_H → Prop} {x0 : Nat} {x1 : Int32} {x2 : Nat} {x3 : Int32} {x4 : Int32} (hf : fB_write_0 N d h Q x0 x1 x2 x3 x4) : sm_W N (d + 1) mm_B_write 0 [(0, .ref x0), (1, .int x1), (2, .ref x2), (3, .int x3), (4, .int x4)] [] h Q := by
  unfold fB_write_0 at hf
  refine sm_iload (i := 4) 2 4 (by decide +kernel) rfl rfl ?_
  refine sm_iload_n (k := 3) 3 3 (by decide +kernel) rfl rfl rfl ?_
  refine sm_isub 4 (by decide +kernel) rfl ?_
  refine sm_istore (i := 5) 6 [(5, .int (x4 - x3)), (0, .ref x0), (1, .int x1), (2, .ref x2), (3, .int x3), (4, .int x4)] (by decide +kernel) (by decide) (by first | rfl | simp [sm_rfc]) rfl ?_
  refine sm_iload_n (k := 3) 7 4 (by decide +kernel) rfl rfl rfl ?_
  refine sm_if_lt (off := 40) 10 47 (by decide +kernel) (by decide) rfl (fun q12 => ?_) (fun q12 => ?_)
  · have hf := hf.1 q12
    exact sm_vret rfl (by decide +kernel) hf
  · have hf := hf.2 q12
    refine sm_iload (i := 5) 12 0 (by decide +kernel) rfl rfl ?_
    refine sm_if_lt (off := 35) 15 47 (by decide +kernel) (by decide) rfl (fun q11 => ?_) (fun q11 => ?_)
    · have hf := hf.1 q11
      exact sm_vret rfl (by decide +kernel) hf
    · have hf := hf.2 q11
      refine sm_iload (i := 4) 17 5 (by decide +kernel) rfl rfl ?_
      refine sm_aload_n (k := 2) 18 3 (by decide +kernel) rfl rfl rfl ?_
      obtain ⟨z1, ez1, hf⟩ := hf
      refine sm_get 21 (by decide +kernel) fl_B_9 ez1 rfl ?_
      refine sm_icmp_gt (off := 26) 24 47 (by decide +kernel) (by decide) rfl (fun q10 => ?_) (fun q10 => ?_)
      · have hf := hf.1 q10
        exact sm_vret rfl (by decide +kernel) hf
      · have hf := hf.2 q10
        refine sm_iload_n (k := 1) 25 2 (by decide +kernel) rfl rfl rfl ?_
        refine sm_if_lt (off := 22) 28 47 (by decide +kernel) (by decide) rfl (fun q9 => ?_) (fun q9 => ?_)
        · have hf := hf.1 q9
          exact sm_vret rfl (by decide +kernel) hf
        · have hf := hf.2 q9
          refine sm_iload_n (k := 1) 29 2 (by decide +kernel) rfl rfl rfl ?_
          refine sm_aload_n (k := 0) 30 1 (by decide +kernel) rfl rfl rfl ?_
          obtain ⟨z2, ez2, hf⟩ := hf
          refine sm_get 33 (by decide +kernel) fl_B_9 ez2 rfl ?_
          refine sm_icmp_gt (off := 14) 36 47 (by decide +kernel) (by decide) rfl (fun q8 => ?_) (fun q8 => ?_)
          · have hf := hf.1 q8
            exact sm_vret rfl (by decide +kernel) hf
          · have hf := hf.2 q8
            refine sm_iload (i := 5) 38 0 (by decide +kernel) rfl rfl ?_
            refine sm_aload_n (k := 0) 39 1 (by decide +kernel) rfl rfl rfl ?_
            obtain ⟨z3, ez3, hf⟩ := hf
            refine sm_get 42 (by decide +kernel) fl_B_9 ez3 rfl ?_
            refine sm_iload_n (k := 1) 43 2 (by decide +kernel) rfl rfl rfl ?_
            refine sm_isub 44 (by decide +kernel) rfl ?_
            refine sm_icmp_le (off := 4) 47 48 (by decide +kernel) (by decide) rfl (fun q7 => ?_) (fun q7 => ?_)
            · have hf := hf.1 q7
              refine sm_aload_n (k := 2) 49 3 (by decide +kernel) rfl rfl rfl ?_
              obtain ⟨z4, ez4, hf⟩ := hf
              refine sm_get 52 (by decide +kernel) fl_B_21 ez4 rfl ?_
              refine sm_iload_n (k := 3) 53 4 (by decide +kernel) rfl rfl rfl ?_
              refine sm_aload_n (k := 0) 54 1 (by decide +kernel) rfl rfl rfl ?_
              obtain ⟨z5, ez5, hf⟩ := hf
              refine sm_get 57 (by decide +kernel) fl_B_21 ez5 rfl ?_
              refine sm_iload_n (k := 1) 58 2 (by decide +kernel) rfl rfl rfl ?_
              refine sm_iload (i := 5) 60 0 (by decide +kernel) rfl rfl ?_
              obtain ⟨h6, eh6, hf⟩ := hf
              refine sm_copy 63 (by decide +kernel) ac_B_39 (Nat.le_add_left 1 d) (by first | exact Nat.le_of_ble_eq_true rfl | simp [sm_rfc, Value.category]) eh6 rfl ?_
              exact sm_vret rfl (by decide +kernel) hf
            · have hf := hf.2 q7
              exact sm_vret rfl (by decide +kernel) hf
theorem cB_write {N d : Nat} {h : sm_H} {Q : Option Value → sm_H → Prop} {x0 : Nat} {x1 : Int32} {x2 : Nat} {x3 : Int32} {x4 : Int32} (hb : ∃ fs, h[x0]? = some (.inr (0, fs))) (hf : fB_write_0 N d h Q x0 x1 x2 x3 x4) : sm_V N (d + 1) mm_B_write 0 x0 [.int x1, .ref x2, .int x3, .int x4] h Q := ⟨hb, sm_meth (by decide +kernel) (fun _ => Nat.le_of_ble_eq_true rfl) (fun _ => rfl) (kB_write_0 hf)⟩
def fB_valueStart_0 (N d : Nat) (h : sm_H) (Q : Option Value → sm_H → Prop) (x0 : Nat) (x1 : Int32) : Prop := sm_W N (d + 1) mm_B_valueStart 8 [(0, .ref x0), (2, .int (if x1 + 1 < 0 then 0 else x1 + 1))] [] h Q
set_option maxRecDepth 20000 in
set_option maxHeartbeats 4000000 in
theorem kB_valueStart_0 {N d : Nat} {h : sm_H} {Q : Option Value → sm_H → Prop} {x0 : Nat} {x1 : Int32} (hf : fB_valueStart_0 N d h Q x0 x1) : sm_W N (d + 1) mm_B_valueStart 0 [(0, .ref x0), (1, .int x1)] [] h Q := by
  unfold fB_valueStart_0 at hf
  refine sm_iload_n (k := 1) 1 1 (by decide +kernel) rfl rfl rfl ?_
  refine sm_iconst (i := 1) (x := 1) 2 (by decide +kernel) rfl rfl ?_
  refine sm_iadd 3 (by decide +kernel) rfl ?_
  refine sm_iconst (i := 0) (x := 0) 4 (by decide +kernel) rfl rfl ?_
  refine sm_mmax 7 (by decide +kernel) mx_B_15 (Nat.le_add_left 1 d) (by first | exact Nat.le_of_ble_eq_true rfl | simp [sm_rfc, Value.category]) rfl ?_
  refine sm_istore_n (k := 2) 8 [(2, .int (if x1 + 1 < 0 then 0 else x1 + 1)), (0, .ref x0), (1, .int x1)] (by decide +kernel) rfl (by decide) (by first | rfl | simp [sm_rfc]) rfl ?_
  exact sm_sub [1, 0] rfl hf
def fB_valueStart_8 (N d : Nat) (h : sm_H) (Q : Option Value → sm_H → Prop) (x0 : Nat) (x2 : Int32) : Prop := ∃ z1 : Int32, sm_g h x0 0 1 = some (.int z1) ∧ ((z1 ≤ x2 → ∃ z2 : Int32, sm_g h x0 0 1 = some (.int z2) ∧ Q (some (.int (z2 + 1))) h) ∧ (¬ z1 ≤ x2 → ∃ z3 : Nat, sm_g h x0 0 0 = some (.ref z3) ∧ ∃ z4 : Int32, sm_gi h z3 0 x2 = some z4 ∧ ((z4 = 0 → Q (some (.int (x2 + 1))) h) ∧ (¬ z4 = 0 → sm_W N (d + 1) mm_B_valueStart 8 [(0, .ref x0), (2, .int (x2 + 1))] [] h Q))))
set_option maxRecDepth 20000 in
set_option maxHeartbeats 4000000 in
theorem kB_valueStart_8 {N d : Nat} {h : sm_H} {Q : Option Value → sm_H → Prop} {x0 : Nat} {x2 : Int32} (hf : fB_valueStart_8 N d h Q x0 x2) : sm_W N (d + 1) mm_B_valueStart 8 [(0, .ref x0), (2, .int x2)] [] h Q := by
  unfold fB_valueStart_8 at hf
  refine sm_iload_n (k := 2) 9 1 (by decide +kernel) rfl rfl rfl ?_
  refine sm_aload_n (k := 0) 10 0 (by decide +kernel) rfl rfl rfl ?_
  obtain ⟨z1, ez1, hf⟩ := hf
  refine sm_get 13 (by decide +kernel) fl_B_9 ez1 rfl ?_
  refine sm_icmp_ge (off := 22) 16 35 (by decide +kernel) (by decide) rfl (fun q6 => ?_) (fun q6 => ?_)
  · have hf := hf.1 q6
    refine sm_aload_n (k := 0) 36 0 (by decide +kernel) rfl rfl rfl ?_
    obtain ⟨z2, ez2, hf⟩ := hf
    refine sm_get 39 (by decide +kernel) fl_B_9 ez2 rfl ?_
    refine sm_iconst (i := 1) (x := 1) 40 (by decide +kernel) rfl rfl ?_
    refine sm_iadd 41 (by decide +kernel) rfl ?_
    exact sm_iret rfl (by decide +kernel) hf
  · have hf := hf.2 q6
    refine sm_aload_n (k := 0) 17 0 (by decide +kernel) rfl rfl rfl ?_
    obtain ⟨z3, ez3, hf⟩ := hf
    refine sm_get 20 (by decide +kernel) fl_B_21 ez3 rfl ?_
    refine sm_iload_n (k := 2) 21 1 (by decide +kernel) rfl rfl rfl ?_
    obtain ⟨z4, ez4, hf⟩ := hf
    refine sm_bald 22 (by decide +kernel) ez4 rfl ?_
    refine sm_if_ne (off := 7) 25 29 (by decide +kernel) (by decide) rfl (fun q5 => ?_) (fun q5 => ?_)
    · have hf := hf.2 q5
      refine sm_iinc (i := 2) (j := 1) (z := 1) (y := x2 + 1) 32 [(2, .int (x2 + 1)), (0, .ref x0)] (by decide +kernel) rfl (by rfl) (by decide) rfl rfl ?_
      refine sm_goto (off := -24) 8 (by decide +kernel) (by decide) ?_
      exact sm_sub [1, 0] rfl hf
    · have hf := hf.1 q5
      refine sm_iload_n (k := 2) 26 1 (by decide +kernel) rfl rfl rfl ?_
      refine sm_iconst (i := 1) (x := 1) 27 (by decide +kernel) rfl rfl ?_
      refine sm_iadd 28 (by decide +kernel) rfl ?_
      exact sm_iret rfl (by decide +kernel) hf
theorem cB_valueStart {N d : Nat} {h : sm_H} {Q : Option Value → sm_H → Prop} {x0 : Nat} {x1 : Int32} (hb : ∃ fs, h[x0]? = some (.inr (0, fs))) (hf : fB_valueStart_0 N d h Q x0 x1) : sm_V N (d + 1) mm_B_valueStart 0 x0 [.int x1] h Q := ⟨hb, sm_meth (by decide +kernel) (fun _ => Nat.le_of_ble_eq_true rfl) (fun _ => rfl) (kB_valueStart_0 hf)⟩
def fB_nameEnd_0 (N d : Nat) (h : sm_H) (Q : Option Value → sm_H → Prop) (x0 : Nat) (x1 : Int32) : Prop := sm_V N d mm_B_valueStart 0 x0 [.int x1] h (fun r2 h1 => ∃ z3 : Int32, r2 = some (.int z3) ∧ Q (some (.int (z3 - 1))) h1)
set_option maxRecDepth 20000 in
set_option maxHeartbeats 4000000 in
theorem kB_nameEnd_0 {N d : Nat} {h : sm_H} {Q : Option Value → sm_H → Prop} {x0 : Nat} {x1 : Int32} (hf : fB_nameEnd_0 N d h Q x0 x1) : sm_W N (d + 1) mm_B_nameEnd 0 [(0, .ref x0), (1, .int x1)] [] h Q := by
  unfold fB_nameEnd_0 at hf
  refine sm_aload_n (k := 0) 1 0 (by decide +kernel) rfl rfl rfl ?_
  refine sm_iload_n (k := 1) 2 1 (by decide +kernel) rfl rfl rfl ?_
  refine sm_callV (M2 := mm_B_valueStart) (av := [.int x1]) (rest := []) 5 (by decide +kernel) ml_B_45 (Nat.le_refl _) rfl rfl (by first | exact Nat.le_of_ble_eq_true rfl | simp [sm_rfc, Value.category]) rfl hf ?_
  rintro r2 h1 ⟨z3, rfl, hf⟩
  change sm_W N (d + 1) mm_B_nameEnd 5 [(0, .ref x0), (1, .int x1)] [.int z3] h1 Q
  refine sm_iconst (i := 1) (x := 1) 6 (by decide +kernel) rfl rfl ?_
  refine sm_isub 7 (by decide +kernel) rfl ?_
  exact sm_iret rfl (by decide +kernel) hf
theorem cB_nameEnd {N d : Nat} {h : sm_H} {Q : Option Value → sm_H → Prop} {x0 : Nat} {x1 : Int32} (hb : ∃ fs, h[x0]? = some (.inr (0, fs))) (hf : fB_nameEnd_0 N d h Q x0 x1) : sm_V N (d + 1) mm_B_nameEnd 0 x0 [.int x1] h Q := ⟨hb, sm_meth (by decide +kernel) (fun _ => Nat.le_of_ble_eq_true rfl) (fun _ => rfl) (kB_nameEnd_0 hf)⟩
def fB_valueEnd_0 (N d : Nat) (h : sm_H) (Q : Option Value → sm_H → Prop) (x0 : Nat) (x1 : Int32) : Prop := sm_V N d mm_B_valueStart 0 x0 [.int x1] h (fun r2 h1 => ∃ z3 : Int32, r2 = some (.int z3) ∧ sm_V N d mm_B_at 0 x0 [.int x1] h1 (fun r5 h4 => ∃ z6 : Int32, r5 = some (.int z6) ∧ ((z6 = 2 → sm_V N d mm_B_intAt 0 x0 [.int z3] h4 (fun r9 h8 => ∃ z10 : Int32, r9 = some (.int z10) ∧ Q (some (.int ((z3 + 4) + z10))) h8)) ∧ (z6 = 3 → sm_W N (d + 1) mm_B_valueEnd 115 [(0, .ref x0), (2, .int z3)] [] h4 Q) ∧ (z6 = 4 → sm_W N (d + 1) mm_B_valueEnd 115 [(0, .ref x0), (2, .int z3)] [] h4 Q) ∧ (z6 = 8 → Q (some (.int (z3 + 1))) h4) ∧ (z6 = 16 → Q (some (.int (z3 + 4))) h4) ∧ (z6 = 18 → Q (some (.int (z3 + 8))) h4) ∧ ((¬ z6 = 2 ∧ ¬ z6 = 3 ∧ ¬ z6 = 4 ∧ ¬ z6 = 8 ∧ ¬ z6 = 16 ∧ ¬ z6 = 18) → Q (some (.int z3)) h4))))
set_option maxRecDepth 20000 in
set_option maxHeartbeats 4000000 in
theorem kB_valueEnd_0 {N d : Nat} {h : sm_H} {Q : Option Value → sm_H → Prop} {x0 : Nat} {x1 : Int32} (hf : fB_valueEnd_0 N d h Q x0 x1) : sm_W N (d + 1) mm_B_valueEnd 0 [(0, .ref x0), (1, .int x1)] [] h Q := by
  unfold fB_valueEnd_0 at hf
  refine sm_aload_n (k := 0) 1 0 (by decide +kernel) rfl rfl rfl ?_
  refine sm_iload_n (k := 1) 2 1 (by decide +kernel) rfl rfl rfl ?_
  refine sm_callV (M2 := mm_B_valueStart) (av := [.int x1]) (rest := []) 5 (by decide +kernel) ml_B_45 (Nat.le_refl _) rfl rfl (by first | exact Nat.le_of_ble_eq_true rfl | simp [sm_rfc, Value.category]) rfl hf ?_
  rintro r2 h1 ⟨z3, rfl, hf⟩
  change sm_W N (d + 1) mm_B_valueEnd 5 [(0, .ref x0), (1, .int x1)] [.int z3] h1 Q
  refine sm_istore_n (k := 2) 6 [(2, .int z3), (0, .ref x0), (1, .int x1)] (by decide +kernel) rfl (by decide) (by first | rfl | simp [sm_rfc]) rfl ?_
  refine sm_aload_n (k := 0) 7 1 (by decide +kernel) rfl rfl rfl ?_
  refine sm_iload_n (k := 1) 8 2 (by decide +kernel) rfl rfl rfl ?_
  refine sm_callV (M2 := mm_B_at) (av := [.int x1]) (rest := []) 11 (by decide +kernel) ml_B_48 (Nat.le_refl _) rfl rfl (by first | exact Nat.le_of_ble_eq_true rfl | simp [sm_rfc, Value.category]) rfl hf ?_
  rintro r5 h4 ⟨z6, rfl, hf⟩
  change sm_W N (d + 1) mm_B_valueEnd 11 [(2, .int z3), (0, .ref x0), (1, .int x1)] [.int z6] h4 Q
  generalize ew : z6 = w7 at hf ⊢
  by_cases g2 : w7 = 2
  · subst g2
    refine sm_tabIn (dflt := 112) (lo := 2) (hi := 18) (offs := #[94, 104, 104, 112, 112, 112, 90, 112, 112, 112, 112, 112, 112, 112, 81, 112, 85]) (len := 81) (off := 94) 105 (by decide +kernel) (by decide) (by decide) (by decide) (by decide) ?_
    have hf := hf.1 rfl
    refine sm_iload_n (k := 2) 106 0 (by decide +kernel) rfl rfl rfl ?_
    refine sm_iconst (i := 4) (x := 4) 107 (by decide +kernel) rfl rfl ?_
    refine sm_iadd 108 (by decide +kernel) rfl ?_
    refine sm_aload_n (k := 0) 109 1 (by decide +kernel) rfl rfl rfl ?_
    refine sm_iload_n (k := 2) 110 0 (by decide +kernel) rfl rfl rfl ?_
    refine sm_callV (M2 := mm_B_intAt) (av := [.int z3]) (rest := [.int (z3 + 4)]) 113 (by decide +kernel) ml_B_25 (Nat.le_refl _) rfl rfl (by first | exact Nat.le_of_ble_eq_true rfl | simp [sm_rfc, Value.category]) rfl hf ?_
    rintro r9 h8 ⟨z10, rfl, hf⟩
    change sm_W N (d + 1) mm_B_valueEnd 113 [(2, .int z3), (0, .ref x0), (1, .int x1)] [.int z10, .int (z3 + 4)] h8 Q
    refine sm_iadd 114 (by decide +kernel) rfl ?_
    exact sm_iret rfl (by decide +kernel) hf
  by_cases g3 : w7 = 3
  · subst g3
    refine sm_tabIn (dflt := 112) (lo := 2) (hi := 18) (offs := #[94, 104, 104, 112, 112, 112, 90, 112, 112, 112, 112, 112, 112, 112, 81, 112, 85]) (len := 81) (off := 104) 115 (by decide +kernel) (by decide) (by decide) (by decide) (by decide) ?_
    have hf := hf.2.1 rfl
    exact sm_sub [1, 0] rfl hf
  by_cases g4 : w7 = 4
  · subst g4
    refine sm_tabIn (dflt := 112) (lo := 2) (hi := 18) (offs := #[94, 104, 104, 112, 112, 112, 90, 112, 112, 112, 112, 112, 112, 112, 81, 112, 85]) (len := 81) (off := 104) 115 (by decide +kernel) (by decide) (by decide) (by decide) (by decide) ?_
    have hf := hf.2.2.1 rfl
    exact sm_sub [1, 0] rfl hf
  by_cases g5 : w7 = 5
  · subst g5
    refine sm_tabIn (dflt := 112) (lo := 2) (hi := 18) (offs := #[94, 104, 104, 112, 112, 112, 90, 112, 112, 112, 112, 112, 112, 112, 81, 112, 85]) (len := 81) (off := 112) 123 (by decide +kernel) (by decide) (by decide) (by decide) (by decide) ?_
    have hf := hf.2.2.2.2.2.2 ⟨by decide, by decide, by decide, by decide, by decide, by decide⟩
    refine sm_iload_n (k := 2) 124 0 (by decide +kernel) rfl rfl rfl ?_
    exact sm_iret rfl (by decide +kernel) hf
  by_cases g6 : w7 = 6
  · subst g6
    refine sm_tabIn (dflt := 112) (lo := 2) (hi := 18) (offs := #[94, 104, 104, 112, 112, 112, 90, 112, 112, 112, 112, 112, 112, 112, 81, 112, 85]) (len := 81) (off := 112) 123 (by decide +kernel) (by decide) (by decide) (by decide) (by decide) ?_
    have hf := hf.2.2.2.2.2.2 ⟨by decide, by decide, by decide, by decide, by decide, by decide⟩
    refine sm_iload_n (k := 2) 124 0 (by decide +kernel) rfl rfl rfl ?_
    exact sm_iret rfl (by decide +kernel) hf
  by_cases g7 : w7 = 7
  · subst g7
    refine sm_tabIn (dflt := 112) (lo := 2) (hi := 18) (offs := #[94, 104, 104, 112, 112, 112, 90, 112, 112, 112, 112, 112, 112, 112, 81, 112, 85]) (len := 81) (off := 112) 123 (by decide +kernel) (by decide) (by decide) (by decide) (by decide) ?_
    have hf := hf.2.2.2.2.2.2 ⟨by decide, by decide, by decide, by decide, by decide, by decide⟩
    refine sm_iload_n (k := 2) 124 0 (by decide +kernel) rfl rfl rfl ?_
    exact sm_iret rfl (by decide +kernel) hf
  by_cases g8 : w7 = 8
  · subst g8
    refine sm_tabIn (dflt := 112) (lo := 2) (hi := 18) (offs := #[94, 104, 104, 112, 112, 112, 90, 112, 112, 112, 112, 112, 112, 112, 81, 112, 85]) (len := 81) (off := 90) 101 (by decide +kernel) (by decide) (by decide) (by decide) (by decide) ?_
    have hf := hf.2.2.2.1 rfl
    refine sm_iload_n (k := 2) 102 0 (by decide +kernel) rfl rfl rfl ?_
    refine sm_iconst (i := 1) (x := 1) 103 (by decide +kernel) rfl rfl ?_
    refine sm_iadd 104 (by decide +kernel) rfl ?_
    exact sm_iret rfl (by decide +kernel) hf
  by_cases g9 : w7 = 9
  · subst g9
    refine sm_tabIn (dflt := 112) (lo := 2) (hi := 18) (offs := #[94, 104, 104, 112, 112, 112, 90, 112, 112, 112, 112, 112, 112, 112, 81, 112, 85]) (len := 81) (off := 112) 123 (by decide +kernel) (by decide) (by decide) (by decide) (by decide) ?_
    have hf := hf.2.2.2.2.2.2 ⟨by decide, by decide, by decide, by decide, by decide, by decide⟩
    refine sm_iload_n (k := 2) 124 0 (by decide +kernel) rfl rfl rfl ?_
    exact sm_iret rfl (by decide +kernel) hf
  by_cases g10 : w7 = 10
  · subst g10
    refine sm_tabIn (dflt := 112) (lo := 2) (hi := 18) (offs := #[94, 104, 104, 112, 112, 112, 90, 112, 112, 112, 112, 112, 112, 112, 81, 112, 85]) (len := 81) (off := 112) 123 (by decide +kernel) (by decide) (by decide) (by decide) (by decide) ?_
    have hf := hf.2.2.2.2.2.2 ⟨by decide, by decide, by decide, by decide, by decide, by decide⟩
    refine sm_iload_n (k := 2) 124 0 (by decide +kernel) rfl rfl rfl ?_
    exact sm_iret rfl (by decide +kernel) hf
  by_cases g11 : w7 = 11
  · subst g11
    refine sm_tabIn (dflt := 112) (lo := 2) (hi := 18) (offs := #[94, 104, 104, 112, 112, 112, 90, 112, 112, 112, 112, 112, 112, 112, 81, 112, 85]) (len := 81) (off := 112) 123 (by decide +kernel) (by decide) (by decide) (by decide) (by decide) ?_
    have hf := hf.2.2.2.2.2.2 ⟨by decide, by decide, by decide, by decide, by decide, by decide⟩
    refine sm_iload_n (k := 2) 124 0 (by decide +kernel) rfl rfl rfl ?_
    exact sm_iret rfl (by decide +kernel) hf
  by_cases g12 : w7 = 12
  · subst g12
    refine sm_tabIn (dflt := 112) (lo := 2) (hi := 18) (offs := #[94, 104, 104, 112, 112, 112, 90, 112, 112, 112, 112, 112, 112, 112, 81, 112, 85]) (len := 81) (off := 112) 123 (by decide +kernel) (by decide) (by decide) (by decide) (by decide) ?_
    have hf := hf.2.2.2.2.2.2 ⟨by decide, by decide, by decide, by decide, by decide, by decide⟩
    refine sm_iload_n (k := 2) 124 0 (by decide +kernel) rfl rfl rfl ?_
    exact sm_iret rfl (by decide +kernel) hf
  by_cases g13 : w7 = 13
  · subst g13
    refine sm_tabIn (dflt := 112) (lo := 2) (hi := 18) (offs := #[94, 104, 104, 112, 112, 112, 90, 112, 112, 112, 112, 112, 112, 112, 81, 112, 85]) (len := 81) (off := 112) 123 (by decide +kernel) (by decide) (by decide) (by decide) (by decide) ?_
    have hf := hf.2.2.2.2.2.2 ⟨by decide, by decide, by decide, by decide, by decide, by decide⟩
    refine sm_iload_n (k := 2) 124 0 (by decide +kernel) rfl rfl rfl ?_
    exact sm_iret rfl (by decide +kernel) hf
  by_cases g14 : w7 = 14
  · subst g14
    refine sm_tabIn (dflt := 112) (lo := 2) (hi := 18) (offs := #[94, 104, 104, 112, 112, 112, 90, 112, 112, 112, 112, 112, 112, 112, 81, 112, 85]) (len := 81) (off := 112) 123 (by decide +kernel) (by decide) (by decide) (by decide) (by decide) ?_
    have hf := hf.2.2.2.2.2.2 ⟨by decide, by decide, by decide, by decide, by decide, by decide⟩
    refine sm_iload_n (k := 2) 124 0 (by decide +kernel) rfl rfl rfl ?_
    exact sm_iret rfl (by decide +kernel) hf
  by_cases g15 : w7 = 15
  · subst g15
    refine sm_tabIn (dflt := 112) (lo := 2) (hi := 18) (offs := #[94, 104, 104, 112, 112, 112, 90, 112, 112, 112, 112, 112, 112, 112, 81, 112, 85]) (len := 81) (off := 112) 123 (by decide +kernel) (by decide) (by decide) (by decide) (by decide) ?_
    have hf := hf.2.2.2.2.2.2 ⟨by decide, by decide, by decide, by decide, by decide, by decide⟩
    refine sm_iload_n (k := 2) 124 0 (by decide +kernel) rfl rfl rfl ?_
    exact sm_iret rfl (by decide +kernel) hf
  by_cases g16 : w7 = 16
  · subst g16
    refine sm_tabIn (dflt := 112) (lo := 2) (hi := 18) (offs := #[94, 104, 104, 112, 112, 112, 90, 112, 112, 112, 112, 112, 112, 112, 81, 112, 85]) (len := 81) (off := 81) 92 (by decide +kernel) (by decide) (by decide) (by decide) (by decide) ?_
    have hf := hf.2.2.2.2.1 rfl
    refine sm_iload_n (k := 2) 93 0 (by decide +kernel) rfl rfl rfl ?_
    refine sm_iconst (i := 4) (x := 4) 94 (by decide +kernel) rfl rfl ?_
    refine sm_iadd 95 (by decide +kernel) rfl ?_
    exact sm_iret rfl (by decide +kernel) hf
  by_cases g17 : w7 = 17
  · subst g17
    refine sm_tabIn (dflt := 112) (lo := 2) (hi := 18) (offs := #[94, 104, 104, 112, 112, 112, 90, 112, 112, 112, 112, 112, 112, 112, 81, 112, 85]) (len := 81) (off := 112) 123 (by decide +kernel) (by decide) (by decide) (by decide) (by decide) ?_
    have hf := hf.2.2.2.2.2.2 ⟨by decide, by decide, by decide, by decide, by decide, by decide⟩
    refine sm_iload_n (k := 2) 124 0 (by decide +kernel) rfl rfl rfl ?_
    exact sm_iret rfl (by decide +kernel) hf
  by_cases g18 : w7 = 18
  · subst g18
    refine sm_tabIn (dflt := 112) (lo := 2) (hi := 18) (offs := #[94, 104, 104, 112, 112, 112, 90, 112, 112, 112, 112, 112, 112, 112, 81, 112, 85]) (len := 81) (off := 85) 96 (by decide +kernel) (by decide) (by decide) (by decide) (by decide) ?_
    have hf := hf.2.2.2.2.2.1 rfl
    refine sm_iload_n (k := 2) 97 0 (by decide +kernel) rfl rfl rfl ?_
    refine sm_bipush (i := 8) (x := 8) 99 (by decide +kernel) (by decide) rfl ?_
    refine sm_iadd 100 (by decide +kernel) rfl ?_
    exact sm_iret rfl (by decide +kernel) hf
  refine sm_tabOut (dflt := 112) (lo := 2) (hi := 18) (offs := #[94, 104, 104, 112, 112, 112, 90, 112, 112, 112, 112, 112, 112, 112, 81, 112, 85]) (len := 81) 123 (by decide +kernel) (sm_out (fun v a1 a2 => by rcases sm_iv2_18 a1 a2 with rfl | rfl | rfl | rfl | rfl | rfl | rfl | rfl | rfl | rfl | rfl | rfl | rfl | rfl | rfl | rfl | rfl <;> assumption)) (by decide) ?_
  have hf := hf.2.2.2.2.2.2 ⟨g2, g3, g4, g8, g16, g18⟩
  refine sm_iload_n (k := 2) 124 0 (by decide +kernel) rfl rfl rfl ?_
  exact sm_iret rfl (by decide +kernel) hf
def fB_valueEnd_115 (N d : Nat) (h : sm_H) (Q : Option Value → sm_H → Prop) (x0 : Nat) (x2 : Int32) : Prop := sm_V N d mm_B_intAt 0 x0 [.int x2] h (fun r2 h1 => ∃ z3 : Int32, r2 = some (.int z3) ∧ Q (some (.int (x2 + z3))) h1)
set_option maxRecDepth 20000 in
set_option maxHeartbeats 4000000 in
theorem kB_valueEnd_115 {N d : Nat} {h : sm_H} {Q : Option Value → sm_H → Prop} {x0 : Nat} {x2 : Int32} (hf : fB_valueEnd_115 N d h Q x0 x2) : sm_W N (d + 1) mm_B_valueEnd 115 [(0, .ref x0), (2, .int x2)] [] h Q := by
  unfold fB_valueEnd_115 at hf
  refine sm_iload_n (k := 2) 116 1 (by decide +kernel) rfl rfl rfl ?_
  refine sm_aload_n (k := 0) 117 0 (by decide +kernel) rfl rfl rfl ?_
  refine sm_iload_n (k := 2) 118 1 (by decide +kernel) rfl rfl rfl ?_
  refine sm_callV (M2 := mm_B_intAt) (av := [.int x2]) (rest := [.int x2]) 121 (by decide +kernel) ml_B_25 (Nat.le_refl _) rfl rfl (by first | exact Nat.le_of_ble_eq_true rfl | simp [sm_rfc, Value.category]) rfl hf ?_
  rintro r2 h1 ⟨z3, rfl, hf⟩
  change sm_W N (d + 1) mm_B_valueEnd 121 [(0, .ref x0), (2, .int x2)] [.int z3, .int x2] h1 Q
  refine sm_iadd 122 (by decide +kernel) rfl ?_
  exact sm_iret rfl (by decide +kernel) hf
theorem cB_valueEnd {N d : Nat} {h : sm_H} {Q : Option Value → sm_H → Prop} {x0 : Nat} {x1 : Int32} (hb : ∃ fs, h[x0]? = some (.inr (0, fs))) (hf : fB_valueEnd_0 N d h Q x0 x1) : sm_V N (d + 1) mm_B_valueEnd 0 x0 [.int x1] h Q := ⟨hb, sm_meth (by decide +kernel) (fun _ => Nat.le_of_ble_eq_true rfl) (fun _ => rfl) (kB_valueEnd_0 hf)⟩
def fB_numberOf_0 (N d : Nat) (h : sm_H) (Q : Option Value → sm_H → Prop) (x0 : Nat) (x1 : Int32) : Prop := sm_V N d mm_B_valueStart 0 x0 [.int x1] h (fun r2 h1 => ∃ z3 : Int32, r2 = some (.int z3) ∧ sm_V N d mm_B_at 0 x0 [.int x1] h1 (fun r5 h4 => ∃ z6 : Int32, r5 = some (.int z6) ∧ ((z6 = 16 → sm_V N d mm_B_intAt 0 x0 [.int z3] h4 (fun r11 h10 => ∃ z12 : Int32, r11 = some (.int z12) ∧ Q (some (.long (Int32.toInt64 z12))) h10)) ∧ (¬ z6 = 16 → sm_V N d mm_B_longAt 0 x0 [.int z3] h4 (fun r8 h7 => ∃ z9 : Int64, r8 = some (.long z9) ∧ Q (some (.long z9)) h7)))))
set_option maxRecDepth 20000 in
set_option maxHeartbeats 4000000 in
theorem kB_numberOf_0 {N d : Nat} {h : sm_H} {Q : Option Value → sm_H → Prop} {x0 : Nat} {x1 : Int32} (hf : fB_numberOf_0 N d h Q x0 x1) : sm_W N (d + 1) mm_B_numberOf 0 [(0, .ref x0), (1, .int x1)] [] h Q := by
  unfold fB_numberOf_0 at hf
  refine sm_aload_n (k := 0) 1 0 (by decide +kernel) rfl rfl rfl ?_
  refine sm_iload_n (k := 1) 2 1 (by decide +kernel) rfl rfl rfl ?_
  refine sm_callV (M2 := mm_B_valueStart) (av := [.int x1]) (rest := []) 5 (by decide +kernel) ml_B_45 (Nat.le_refl _) rfl rfl (by first | exact Nat.le_of_ble_eq_true rfl | simp [sm_rfc, Value.category]) rfl hf ?_
  rintro r2 h1 ⟨z3, rfl, hf⟩
  change sm_W N (d + 1) mm_B_numberOf 5 [(0, .ref x0), (1, .int x1)] [.int z3] h1 Q
  refine sm_istore_n (k := 2) 6 [(2, .int z3), (0, .ref x0), (1, .int x1)] (by decide +kernel) rfl (by decide) (by first | rfl | simp [sm_rfc]) rfl ?_
  refine sm_aload_n (k := 0) 7 1 (by decide +kernel) rfl rfl rfl ?_
  refine sm_iload_n (k := 1) 8 2 (by decide +kernel) rfl rfl rfl ?_
  refine sm_callV (M2 := mm_B_at) (av := [.int x1]) (rest := []) 11 (by decide +kernel) ml_B_48 (Nat.le_refl _) rfl rfl (by first | exact Nat.le_of_ble_eq_true rfl | simp [sm_rfc, Value.category]) rfl hf ?_
  rintro r5 h4 ⟨z6, rfl, hf⟩
  change sm_W N (d + 1) mm_B_numberOf 11 [(2, .int z3), (0, .ref x0), (1, .int x1)] [.int z6] h4 Q
  refine sm_bipush (i := 16) (x := 16) 13 (by decide +kernel) (by decide) rfl ?_
  refine sm_icmp_ne (off := 12) 16 25 (by decide +kernel) (by decide) rfl (fun q13 => ?_) (fun q13 => ?_)
  · have hf := hf.2 q13
    refine sm_aload_n (k := 0) 26 1 (by decide +kernel) rfl rfl rfl ?_
    refine sm_iload_n (k := 2) 27 0 (by decide +kernel) rfl rfl rfl ?_
    refine sm_callV (M2 := mm_B_longAt) (av := [.int z3]) (rest := []) 30 (by decide +kernel) ml_B_51 (Nat.le_refl _) rfl rfl (by first | exact Nat.le_of_ble_eq_true rfl | simp [sm_rfc, Value.category]) rfl hf ?_
    rintro r8 h7 ⟨z9, rfl, hf⟩
    change sm_W N (d + 1) mm_B_numberOf 30 [(2, .int z3), (0, .ref x0), (1, .int x1)] [.long z9] h7 Q
    exact sm_lret rfl (by decide +kernel) hf
  · have hf := hf.1 q13
    refine sm_aload_n (k := 0) 17 1 (by decide +kernel) rfl rfl rfl ?_
    refine sm_iload_n (k := 2) 18 0 (by decide +kernel) rfl rfl rfl ?_
    refine sm_callV (M2 := mm_B_intAt) (av := [.int z3]) (rest := []) 21 (by decide +kernel) ml_B_25 (Nat.le_refl _) rfl rfl (by first | exact Nat.le_of_ble_eq_true rfl | simp [sm_rfc, Value.category]) rfl hf ?_
    rintro r11 h10 ⟨z12, rfl, hf⟩
    change sm_W N (d + 1) mm_B_numberOf 21 [(2, .int z3), (0, .ref x0), (1, .int x1)] [.int z12] h10 Q
    refine sm_i2l 22 (by decide +kernel) rfl ?_
    refine sm_goto (off := 8) 30 (by decide +kernel) (by decide) ?_
    exact sm_lret rfl (by decide +kernel) hf
theorem cB_numberOf {N d : Nat} {h : sm_H} {Q : Option Value → sm_H → Prop} {x0 : Nat} {x1 : Int32} (hb : ∃ fs, h[x0]? = some (.inr (0, fs))) (hf : fB_numberOf_0 N d h Q x0 x1) : sm_V N (d + 1) mm_B_numberOf 0 x0 [.int x1] h Q := ⟨hb, sm_meth (by decide +kernel) (fun _ => Nat.le_of_ble_eq_true rfl) (fun _ => rfl) (kB_numberOf_0 hf)⟩
def fB_lastOf_0 (N d : Nat) (h : sm_H) (Q : Option Value → sm_H → Prop) (x0 : Nat) (x1 : Int32) : Prop := sm_V N d mm_B_intAt 0 x0 [.int x1] h (fun r2 h1 => ∃ z3 : Int32, r2 = some (.int z3) ∧ Q (some (.int ((x1 + z3) - 1))) h1)
set_option maxRecDepth 20000 in
set_option maxHeartbeats 4000000 in
theorem kB_lastOf_0 {N d : Nat} {h : sm_H} {Q : Option Value → sm_H → Prop} {x0 : Nat} {x1 : Int32} (hf : fB_lastOf_0 N d h Q x0 x1) : sm_W N (d + 1) mm_B_lastOf 0 [(0, .ref x0), (1, .int x1)] [] h Q := by
  unfold fB_lastOf_0 at hf
  refine sm_iload_n (k := 1) 1 1 (by decide +kernel) rfl rfl rfl ?_
  refine sm_aload_n (k := 0) 2 0 (by decide +kernel) rfl rfl rfl ?_
  refine sm_iload_n (k := 1) 3 1 (by decide +kernel) rfl rfl rfl ?_
  refine sm_callV (M2 := mm_B_intAt) (av := [.int x1]) (rest := [.int x1]) 6 (by decide +kernel) ml_B_25 (Nat.le_refl _) rfl rfl (by first | exact Nat.le_of_ble_eq_true rfl | simp [sm_rfc, Value.category]) rfl hf ?_
  rintro r2 h1 ⟨z3, rfl, hf⟩
  change sm_W N (d + 1) mm_B_lastOf 6 [(0, .ref x0), (1, .int x1)] [.int z3, .int x1] h1 Q
  refine sm_iadd 7 (by decide +kernel) rfl ?_
  refine sm_iconst (i := 1) (x := 1) 8 (by decide +kernel) rfl rfl ?_
  refine sm_isub 9 (by decide +kernel) rfl ?_
  exact sm_iret rfl (by decide +kernel) hf
theorem cB_lastOf {N d : Nat} {h : sm_H} {Q : Option Value → sm_H → Prop} {x0 : Nat} {x1 : Int32} (hb : ∃ fs, h[x0]? = some (.inr (0, fs))) (hf : fB_lastOf_0 N d h Q x0 x1) : sm_V N (d + 1) mm_B_lastOf 0 x0 [.int x1] h Q := ⟨hb, sm_meth (by decide +kernel) (fun _ => Nat.le_of_ble_eq_true rfl) (fun _ => rfl) (kB_lastOf_0 hf)⟩
def fB_countElements_0 (N d : Nat) (h : sm_H) (Q : Option Value → sm_H → Prop) (x0 : Nat) (x1 : Int32) : Prop := sm_V N d mm_B_lastOf 0 x0 [.int x1] h (fun r2 h1 => ∃ z3 : Int32, r2 = some (.int z3) ∧ sm_W N (d + 1) mm_B_countElements 13 [(0, .ref x0), (2, .int z3), (3, .int (x1 + 4)), (4, .int 0)] [] h1 Q)
set_option maxRecDepth 20000 in
set_option maxHeartbeats 4000000 in
theorem kB_countElements_0 {N d : Nat} {h : sm_H} {Q : Option Value → sm_H → Prop} {x0 : Nat} {x1 : Int32} (hf : fB_countElements_0 N d h Q x0 x1) : sm_W N (d + 1) mm_B_countElements 0 [(0, .ref x0), (1, .int x1)] [] h Q := by
  unfold fB_countElements_0 at hf
  refine sm_aload_n (k := 0) 1 0 (by decide +kernel) rfl rfl rfl ?_
  refine sm_iload_n (k := 1) 2 1 (by decide +kernel) rfl rfl rfl ?_
  refine sm_callV (M2 := mm_B_lastOf) (av := [.int x1]) (rest := []) 5 (by decide +kernel) ml_B_55 (Nat.le_refl _) rfl rfl (by first | exact Nat.le_of_ble_eq_true rfl | simp [sm_rfc, Value.category]) rfl hf ?_
  rintro r2 h1 ⟨z3, rfl, hf⟩
  change sm_W N (d + 1) mm_B_countElements 5 [(0, .ref x0), (1, .int x1)] [.int z3] h1 Q
  refine sm_istore_n (k := 2) 6 [(2, .int z3), (0, .ref x0), (1, .int x1)] (by decide +kernel) rfl (by decide) (by first | rfl | simp [sm_rfc]) rfl ?_
  refine sm_iload_n (k := 1) 7 2 (by decide +kernel) rfl rfl rfl ?_
  refine sm_iconst (i := 4) (x := 4) 8 (by decide +kernel) rfl rfl ?_
  refine sm_iadd 9 (by decide +kernel) rfl ?_
  refine sm_istore_n (k := 3) 10 [(3, .int (x1 + 4)), (2, .int z3), (0, .ref x0), (1, .int x1)] (by decide +kernel) rfl (by decide) (by first | rfl | simp [sm_rfc]) rfl ?_
  refine sm_iconst (i := 0) (x := 0) 11 (by decide +kernel) rfl rfl ?_
  refine sm_istore (i := 4) 13 [(4, .int 0), (3, .int (x1 + 4)), (2, .int z3), (0, .ref x0), (1, .int x1)] (by decide +kernel) (by decide) (by first | rfl | simp [sm_rfc]) rfl ?_
  exact sm_sub [3, 2, 1, 0] rfl hf
def fB_countElements_13 (N d : Nat) (h : sm_H) (Q : Option Value → sm_H → Prop) (x0 : Nat) (x2 : Int32) (x3 : Int32) (x4 : Int32) : Prop := ∃ z1 : Int32, sm_g h x0 0 1 = some (.int z1) ∧ ((z1 ≤ x4 → Q (some (.int x4)) h) ∧ (¬ z1 ≤ x4 → ((x2 ≤ x3 → Q (some (.int x4)) h) ∧ (¬ x2 ≤ x3 → sm_V N d mm_B_valueEnd 0 x0 [.int x3] h (fun r3 h2 => ∃ z4 : Int32, r3 = some (.int z4) ∧ sm_W N (d + 1) mm_B_countElements 13 [(0, .ref x0), (2, .int x2), (3, .int z4), (4, .int (x4 + 1))] [] h2 Q)))))
set_option maxRecDepth 20000 in
set_option maxHeartbeats 4000000 in
theorem kB_countElements_13 {N d : Nat} {h : sm_H} {Q : Option Value → sm_H → Prop} {x0 : Nat} {x2 : Int32} {x3 : Int32} {x4 : Int32} (hf : fB_countElements_13 N d h Q x0 x2 x3 x4) : sm_W N (d + 1) mm_B_countElements 13 [(0, .ref x0), (2, .int x2), (3, .int x3), (4, .int x4)] [] h Q := by
  unfold fB_countElements_13 at hf
  refine sm_iload (i := 4) 15 3 (by decide +kernel) rfl rfl ?_
  refine sm_aload_n (k := 0) 16 0 (by decide +kernel) rfl rfl rfl ?_
  obtain ⟨z1, ez1, hf⟩ := hf
  refine sm_get 19 (by decide +kernel) fl_B_9 ez1 rfl ?_
  refine sm_icmp_ge (off := 20) 22 39 (by decide +kernel) (by decide) rfl (fun q6 => ?_) (fun q6 => ?_)
  · have hf := hf.1 q6
    refine sm_iload (i := 4) 41 3 (by decide +kernel) rfl rfl ?_
    exact sm_iret rfl (by decide +kernel) hf
  · have hf := hf.2 q6
    refine sm_iload_n (k := 3) 23 2 (by decide +kernel) rfl rfl rfl ?_
    refine sm_iload_n (k := 2) 24 1 (by decide +kernel) rfl rfl rfl ?_
    refine sm_icmp_ge (off := 15) 27 39 (by decide +kernel) (by decide) rfl (fun q5 => ?_) (fun q5 => ?_)
    · have hf := hf.1 q5
      refine sm_iload (i := 4) 41 3 (by decide +kernel) rfl rfl ?_
      exact sm_iret rfl (by decide +kernel) hf
    · have hf := hf.2 q5
      refine sm_aload_n (k := 0) 28 0 (by decide +kernel) rfl rfl rfl ?_
      refine sm_iload_n (k := 3) 29 2 (by decide +kernel) rfl rfl rfl ?_
      refine sm_callV (M2 := mm_B_valueEnd) (av := [.int x3]) (rest := []) 32 (by decide +kernel) ml_B_58 (Nat.le_refl _) rfl rfl (by first | exact Nat.le_of_ble_eq_true rfl | simp [sm_rfc, Value.category]) rfl hf ?_
      rintro r3 h2 ⟨z4, rfl, hf⟩
      change sm_W N (d + 1) mm_B_countElements 32 [(0, .ref x0), (2, .int x2), (3, .int x3), (4, .int x4)] [.int z4] h2 Q
      refine sm_istore_n (k := 3) 33 [(3, .int z4), (0, .ref x0), (2, .int x2), (4, .int x4)] (by decide +kernel) rfl (by decide) (by first | rfl | simp [sm_rfc]) rfl ?_
      refine sm_iinc (i := 4) (j := 3) (z := 1) (y := x4 + 1) 36 [(4, .int (x4 + 1)), (3, .int z4), (0, .ref x0), (2, .int x2)] (by decide +kernel) rfl (by rfl) (by decide) rfl rfl ?_
      refine sm_goto (off := -23) 13 (by decide +kernel) (by decide) ?_
      exact sm_sub [2, 3, 1, 0] rfl hf
theorem cB_countElements {N d : Nat} {h : sm_H} {Q : Option Value → sm_H → Prop} {x0 : Nat} {x1 : Int32} (hb : ∃ fs, h[x0]? = some (.inr (0, fs))) (hf : fB_countElements_0 N d h Q x0 x1) : sm_V N (d + 1) mm_B_countElements 0 x0 [.int x1] h Q := ⟨hb, sm_meth (by decide +kernel) (fun _ => Nat.le_of_ble_eq_true rfl) (fun _ => rfl) (kB_countElements_0 hf)⟩
end
section
theorem i_vc : Claimed_1_1 ∧ Claimed_1_2 := sorry
end
