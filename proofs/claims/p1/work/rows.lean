section
-- ===== PART A: goes FIRST, ahead of the names: the tables' words, and 'selects' of the private methods out of them =====
/-- a private method of a class that the tables say can be made, by its rows of tables_1 -/
def lw_okq (q : MethodName × Nat) : Prop := (q.1.cls ≠ "java/lang/invoke/MethodHandle" ∧ q.1.cls ≠ "java/lang/invoke/VarHandle") ∧ Cond.instantiable q.1.cls q.2 ∈ tables_1 ∧ Cond.privateMethod q.1 ∈ tables_1 ∧ Cond.instanceMethod q.1 ∈ tables_1
theorem lw_p0 : lw_okq (⟨"WindCabinet", "feedNumber", "(I)V"⟩, 8) := ⟨⟨by decide +kernel, by decide +kernel⟩, List.mem_of_getElem? (i := 18) (by decide +kernel), List.mem_of_getElem? (i := 305) (by decide +kernel), List.mem_of_getElem? (i := 306) (by decide +kernel)⟩
theorem lw_p1 : lw_okq (⟨"WindCabinet", "placeFor", "(II)I"⟩, 8) := ⟨⟨by decide +kernel, by decide +kernel⟩, List.mem_of_getElem? (i := 18) (by decide +kernel), List.mem_of_getElem? (i := 320) (by decide +kernel), List.mem_of_getElem? (i := 321) (by decide +kernel)⟩
theorem lw_p2 : lw_okq (⟨"WindCabinet$Reader", "startOn", "(I)V"⟩, 12) := ⟨⟨by decide +kernel, by decide +kernel⟩, List.mem_of_getElem? (i := 146) (by decide +kernel), List.mem_of_getElem? (i := 340) (by decide +kernel), List.mem_of_getElem? (i := 341) (by decide +kernel)⟩
theorem lw_p3 : lw_okq (⟨"WindCabinet$Reader", "advance", "()V"⟩, 12) := ⟨⟨by decide +kernel, by decide +kernel⟩, List.mem_of_getElem? (i := 146) (by decide +kernel), List.mem_of_getElem? (i := 356) (by decide +kernel), List.mem_of_getElem? (i := 357) (by decide +kernel)⟩
theorem lw_p4 : lw_okq (⟨"WindCabinet$Reader", "readLine", "(I)Z"⟩, 12) := ⟨⟨by decide +kernel, by decide +kernel⟩, List.mem_of_getElem? (i := 146) (by decide +kernel), List.mem_of_getElem? (i := 370) (by decide +kernel), List.mem_of_getElem? (i := 371) (by decide +kernel)⟩
theorem lw_p5 : lw_okq (⟨"WindCabinet$Reader", "chosen", "(Ljava/lang/String;)I"⟩, 12) := ⟨⟨by decide +kernel, by decide +kernel⟩, List.mem_of_getElem? (i := 146) (by decide +kernel), List.mem_of_getElem? (i := 384) (by decide +kernel), List.mem_of_getElem? (i := 385) (by decide +kernel)⟩
theorem lw_p6 : lw_okq (⟨"WindCabinet$Reader", "isToken", "(Ljava/lang/String;II)Z"⟩, 12) := ⟨⟨by decide +kernel, by decide +kernel⟩, List.mem_of_getElem? (i := 146) (by decide +kernel), List.mem_of_getElem? (i := 436) (by decide +kernel), List.mem_of_getElem? (i := 437) (by decide +kernel)⟩
theorem lw_p7 : lw_okq (⟨"WindCabinet$Reader", "refuse", "()Z"⟩, 12) := ⟨⟨by decide +kernel, by decide +kernel⟩, List.mem_of_getElem? (i := 146) (by decide +kernel), List.mem_of_getElem? (i := 440) (by decide +kernel), List.mem_of_getElem? (i := 441) (by decide +kernel)⟩
theorem lw_p8 : lw_okq (⟨"WindCabinet$Reader", "note", "(II)V"⟩, 12) := ⟨⟨by decide +kernel, by decide +kernel⟩, List.mem_of_getElem? (i := 146) (by decide +kernel), List.mem_of_getElem? (i := 444) (by decide +kernel), List.mem_of_getElem? (i := 445) (by decide +kernel)⟩
theorem lw_p9 : lw_okq (⟨"WindCabinet$Reader", "countLine", "(II)V"⟩, 12) := ⟨⟨by decide +kernel, by decide +kernel⟩, List.mem_of_getElem? (i := 146) (by decide +kernel), List.mem_of_getElem? (i := 448) (by decide +kernel), List.mem_of_getElem? (i := 449) (by decide +kernel)⟩
theorem lw_p10 : lw_okq (⟨"WindCabinet$Reader", "readPart", "(CI)Z"⟩, 12) := ⟨⟨by decide +kernel, by decide +kernel⟩, List.mem_of_getElem? (i := 146) (by decide +kernel), List.mem_of_getElem? (i := 467) (by decide +kernel), List.mem_of_getElem? (i := 468) (by decide +kernel)⟩
theorem lw_p11 : lw_okq (⟨"WindCabinet$Reader", "readSemicolon", "()Z"⟩, 12) := ⟨⟨by decide +kernel, by decide +kernel⟩, List.mem_of_getElem? (i := 146) (by decide +kernel), List.mem_of_getElem? (i := 471) (by decide +kernel), List.mem_of_getElem? (i := 472) (by decide +kernel)⟩
theorem lw_p12 : lw_okq (⟨"WindCabinet$Reader", "readNumber", "(CI)Z"⟩, 12) := ⟨⟨by decide +kernel, by decide +kernel⟩, List.mem_of_getElem? (i := 146) (by decide +kernel), List.mem_of_getElem? (i := 487) (by decide +kernel), List.mem_of_getElem? (i := 488) (by decide +kernel)⟩
theorem lw_p13 : lw_okq (⟨"WindCabinet$Reader", "take", "(II)V"⟩, 12) := ⟨⟨by decide +kernel, by decide +kernel⟩, List.mem_of_getElem? (i := 146) (by decide +kernel), List.mem_of_getElem? (i := 498) (by decide +kernel), List.mem_of_getElem? (i := 499) (by decide +kernel)⟩
theorem lw_p14 : lw_okq (⟨"WindCabinet$Republic", "addMinister", "([I)V"⟩, 14) := ⟨⟨by decide +kernel, by decide +kernel⟩, List.mem_of_getElem? (i := 35) (by decide +kernel), List.mem_of_getElem? (i := 507) (by decide +kernel), List.mem_of_getElem? (i := 508) (by decide +kernel)⟩
theorem lw_p15 : lw_okq (⟨"WindCabinet$Republic", "setNumber", "(II)V"⟩, 14) := ⟨⟨by decide +kernel, by decide +kernel⟩, List.mem_of_getElem? (i := 35) (by decide +kernel), List.mem_of_getElem? (i := 512) (by decide +kernel), List.mem_of_getElem? (i := 513) (by decide +kernel)⟩
def lw_privs_1 : List (MethodName × Nat) := [(⟨"WindCabinet", "feedNumber", "(I)V"⟩, 8), (⟨"WindCabinet", "placeFor", "(II)I"⟩, 8), (⟨"WindCabinet$Reader", "startOn", "(I)V"⟩, 12), (⟨"WindCabinet$Reader", "advance", "()V"⟩, 12), (⟨"WindCabinet$Reader", "readLine", "(I)Z"⟩, 12), (⟨"WindCabinet$Reader", "chosen", "(Ljava/lang/String;)I"⟩, 12), (⟨"WindCabinet$Reader", "isToken", "(Ljava/lang/String;II)Z"⟩, 12), (⟨"WindCabinet$Reader", "refuse", "()Z"⟩, 12), (⟨"WindCabinet$Reader", "note", "(II)V"⟩, 12), (⟨"WindCabinet$Reader", "countLine", "(II)V"⟩, 12), (⟨"WindCabinet$Reader", "readPart", "(CI)Z"⟩, 12), (⟨"WindCabinet$Reader", "readSemicolon", "()Z"⟩, 12), (⟨"WindCabinet$Reader", "readNumber", "(CI)Z"⟩, 12), (⟨"WindCabinet$Reader", "take", "(II)V"⟩, 12), (⟨"WindCabinet$Republic", "addMinister", "([I)V"⟩, 14), (⟨"WindCabinet$Republic", "setNumber", "(II)V"⟩, 14)]
theorem lw_r1 : ∀ q ∈ lw_privs_1, lw_okq q := List.forall_mem_cons.mpr ⟨lw_p0, List.forall_mem_cons.mpr ⟨lw_p1, List.forall_mem_cons.mpr ⟨lw_p2, List.forall_mem_cons.mpr ⟨lw_p3, List.forall_mem_cons.mpr ⟨lw_p4, List.forall_mem_cons.mpr ⟨lw_p5, List.forall_mem_cons.mpr ⟨lw_p6, List.forall_mem_cons.mpr ⟨lw_p7, List.forall_mem_cons.mpr ⟨lw_p8, List.forall_mem_cons.mpr ⟨lw_p9, List.forall_mem_cons.mpr ⟨lw_p10, List.forall_mem_cons.mpr ⟨lw_p11, List.forall_mem_cons.mpr ⟨lw_p12, List.forall_mem_cons.mpr ⟨lw_p13, List.forall_mem_cons.mpr ⟨lw_p14, List.forall_mem_cons.mpr ⟨lw_p15, fun _ h => absurd h List.not_mem_nil⟩⟩⟩⟩⟩⟩⟩⟩⟩⟩⟩⟩⟩⟩⟩⟩
theorem lw_p16 : lw_okq (⟨"WindCabinet$Reader", "takeToldOf", "(I)V"⟩, 12) := ⟨⟨by decide +kernel, by decide +kernel⟩, List.mem_of_getElem? (i := 146) (by decide +kernel), List.mem_of_getElem? (i := 516) (by decide +kernel), List.mem_of_getElem? (i := 517) (by decide +kernel)⟩
theorem lw_p17 : lw_okq (⟨"WindCabinet$Reader", "takeOrder", "(I)V"⟩, 12) := ⟨⟨by decide +kernel, by decide +kernel⟩, List.mem_of_getElem? (i := 146) (by decide +kernel), List.mem_of_getElem? (i := 520) (by decide +kernel), List.mem_of_getElem? (i := 521) (by decide +kernel)⟩
theorem lw_p18 : lw_okq (⟨"WindCabinet", "keep", "(II)V"⟩, 8) := ⟨⟨by decide +kernel, by decide +kernel⟩, List.mem_of_getElem? (i := 18) (by decide +kernel), List.mem_of_getElem? (i := 535) (by decide +kernel), List.mem_of_getElem? (i := 536) (by decide +kernel)⟩
theorem lw_p19 : lw_okq (⟨"WindCabinet", "republicAt", "(I)LWindCabinet$Republic;"⟩, 8) := ⟨⟨by decide +kernel, by decide +kernel⟩, List.mem_of_getElem? (i := 18) (by decide +kernel), List.mem_of_getElem? (i := 588) (by decide +kernel), List.mem_of_getElem? (i := 589) (by decide +kernel)⟩
theorem lw_p20 : lw_okq (⟨"WindCabinet", "rowsAt", "(II)LWindCabinet$Rows;"⟩, 8) := ⟨⟨by decide +kernel, by decide +kernel⟩, List.mem_of_getElem? (i := 18) (by decide +kernel), List.mem_of_getElem? (i := 611) (by decide +kernel), List.mem_of_getElem? (i := 612) (by decide +kernel)⟩
theorem lw_p21 : lw_okq (⟨"WindCabinet", "movedIn", "(IIII)LWindCabinet$Republic;"⟩, 8) := ⟨⟨by decide +kernel, by decide +kernel⟩, List.mem_of_getElem? (i := 18) (by decide +kernel), List.mem_of_getElem? (i := 647) (by decide +kernel), List.mem_of_getElem? (i := 648) (by decide +kernel)⟩
theorem lw_p22 : lw_okq (⟨"WindCabinet$Course", "open", "(LWindCabinet$Republic;)V"⟩, 13) := ⟨⟨by decide +kernel, by decide +kernel⟩, List.mem_of_getElem? (i := 197) (by decide +kernel), List.mem_of_getElem? (i := 709) (by decide +kernel), List.mem_of_getElem? (i := 710) (by decide +kernel)⟩
theorem lw_p23 : lw_okq (⟨"WindCabinet$Course", "happens", "(LWindCabinet$Republic;LWindCabinet$Rows;LWindCabinet$Rows;I)Z"⟩, 13) := ⟨⟨by decide +kernel, by decide +kernel⟩, List.mem_of_getElem? (i := 197) (by decide +kernel), List.mem_of_getElem? (i := 720) (by decide +kernel), List.mem_of_getElem? (i := 721) (by decide +kernel)⟩
theorem lw_p24 : lw_okq (⟨"WindCabinet$Course", "decide", "(LWindCabinet$Republic;II)V"⟩, 13) := ⟨⟨by decide +kernel, by decide +kernel⟩, List.mem_of_getElem? (i := 197) (by decide +kernel), List.mem_of_getElem? (i := 738) (by decide +kernel), List.mem_of_getElem? (i := 739) (by decide +kernel)⟩
theorem lw_p25 : lw_okq (⟨"WindCabinet$Course", "record", "(I)V"⟩, 13) := ⟨⟨by decide +kernel, by decide +kernel⟩, List.mem_of_getElem? (i := 197) (by decide +kernel), List.mem_of_getElem? (i := 744) (by decide +kernel), List.mem_of_getElem? (i := 745) (by decide +kernel)⟩
theorem lw_p26 : lw_okq (⟨"WindCabinet$Course", "bear", "(LWindCabinet$Republic;IZ)V"⟩, 13) := ⟨⟨by decide +kernel, by decide +kernel⟩, List.mem_of_getElem? (i := 197) (by decide +kernel), List.mem_of_getElem? (i := 755) (by decide +kernel), List.mem_of_getElem? (i := 756) (by decide +kernel)⟩
theorem lw_p27 : lw_okq (⟨"WindCabinet$Course", "committee", "()V"⟩, 13) := ⟨⟨by decide +kernel, by decide +kernel⟩, List.mem_of_getElem? (i := 197) (by decide +kernel), List.mem_of_getElem? (i := 761) (by decide +kernel), List.mem_of_getElem? (i := 762) (by decide +kernel)⟩
theorem lw_p28 : lw_okq (⟨"WindCabinet$Course", "takesOffice", "(II)Z"⟩, 13) := ⟨⟨by decide +kernel, by decide +kernel⟩, List.mem_of_getElem? (i := 197) (by decide +kernel), List.mem_of_getElem? (i := 767) (by decide +kernel), List.mem_of_getElem? (i := 768) (by decide +kernel)⟩
theorem lw_p29 : lw_okq (⟨"WindCabinet$Course", "isDismissed", "(I)Z"⟩, 13) := ⟨⟨by decide +kernel, by decide +kernel⟩, List.mem_of_getElem? (i := 197) (by decide +kernel), List.mem_of_getElem? (i := 771) (by decide +kernel), List.mem_of_getElem? (i := 772) (by decide +kernel)⟩
theorem lw_p30 : lw_okq (⟨"WindCabinet$Course", "isRecalled", "(LWindCabinet$Republic;I)Z"⟩, 13) := ⟨⟨by decide +kernel, by decide +kernel⟩, List.mem_of_getElem? (i := 197) (by decide +kernel), List.mem_of_getElem? (i := 775) (by decide +kernel), List.mem_of_getElem? (i := 776) (by decide +kernel)⟩
theorem lw_p31 : lw_okq (⟨"WindCabinet", "stateTold", "(LWindCabinet$Republic;I)I"⟩, 8) := ⟨⟨by decide +kernel, by decide +kernel⟩, List.mem_of_getElem? (i := 18) (by decide +kernel), List.mem_of_getElem? (i := 784) (by decide +kernel), List.mem_of_getElem? (i := 785) (by decide +kernel)⟩
def lw_privs_2 : List (MethodName × Nat) := [(⟨"WindCabinet$Reader", "takeToldOf", "(I)V"⟩, 12), (⟨"WindCabinet$Reader", "takeOrder", "(I)V"⟩, 12), (⟨"WindCabinet", "keep", "(II)V"⟩, 8), (⟨"WindCabinet", "republicAt", "(I)LWindCabinet$Republic;"⟩, 8), (⟨"WindCabinet", "rowsAt", "(II)LWindCabinet$Rows;"⟩, 8), (⟨"WindCabinet", "movedIn", "(IIII)LWindCabinet$Republic;"⟩, 8), (⟨"WindCabinet$Course", "open", "(LWindCabinet$Republic;)V"⟩, 13), (⟨"WindCabinet$Course", "happens", "(LWindCabinet$Republic;LWindCabinet$Rows;LWindCabinet$Rows;I)Z"⟩, 13), (⟨"WindCabinet$Course", "decide", "(LWindCabinet$Republic;II)V"⟩, 13), (⟨"WindCabinet$Course", "record", "(I)V"⟩, 13), (⟨"WindCabinet$Course", "bear", "(LWindCabinet$Republic;IZ)V"⟩, 13), (⟨"WindCabinet$Course", "committee", "()V"⟩, 13), (⟨"WindCabinet$Course", "takesOffice", "(II)Z"⟩, 13), (⟨"WindCabinet$Course", "isDismissed", "(I)Z"⟩, 13), (⟨"WindCabinet$Course", "isRecalled", "(LWindCabinet$Republic;I)Z"⟩, 13), (⟨"WindCabinet", "stateTold", "(LWindCabinet$Republic;I)I"⟩, 8)]
theorem lw_r2 : ∀ q ∈ lw_privs_2, lw_okq q := List.forall_mem_cons.mpr ⟨lw_p16, List.forall_mem_cons.mpr ⟨lw_p17, List.forall_mem_cons.mpr ⟨lw_p18, List.forall_mem_cons.mpr ⟨lw_p19, List.forall_mem_cons.mpr ⟨lw_p20, List.forall_mem_cons.mpr ⟨lw_p21, List.forall_mem_cons.mpr ⟨lw_p22, List.forall_mem_cons.mpr ⟨lw_p23, List.forall_mem_cons.mpr ⟨lw_p24, List.forall_mem_cons.mpr ⟨lw_p25, List.forall_mem_cons.mpr ⟨lw_p26, List.forall_mem_cons.mpr ⟨lw_p27, List.forall_mem_cons.mpr ⟨lw_p28, List.forall_mem_cons.mpr ⟨lw_p29, List.forall_mem_cons.mpr ⟨lw_p30, List.forall_mem_cons.mpr ⟨lw_p31, fun _ h => absurd h List.not_mem_nil⟩⟩⟩⟩⟩⟩⟩⟩⟩⟩⟩⟩⟩⟩⟩⟩
theorem lw_p32 : lw_okq (⟨"WindCabinet$Course", "drawMotion", "(LWindCabinet$Republic;)V"⟩, 13) := ⟨⟨by decide +kernel, by decide +kernel⟩, List.mem_of_getElem? (i := 197) (by decide +kernel), List.mem_of_getElem? (i := 797) (by decide +kernel), List.mem_of_getElem? (i := 798) (by decide +kernel)⟩
theorem lw_p33 : lw_okq (⟨"WindCabinet$Course", "drawBelow", "(I)I"⟩, 13) := ⟨⟨by decide +kernel, by decide +kernel⟩, List.mem_of_getElem? (i := 197) (by decide +kernel), List.mem_of_getElem? (i := 807) (by decide +kernel), List.mem_of_getElem? (i := 808) (by decide +kernel)⟩
theorem lw_p34 : lw_okq (⟨"WindCabinet$Course", "oneThere", "(I)I"⟩, 13) := ⟨⟨by decide +kernel, by decide +kernel⟩, List.mem_of_getElem? (i := 197) (by decide +kernel), List.mem_of_getElem? (i := 812) (by decide +kernel), List.mem_of_getElem? (i := 813) (by decide +kernel)⟩
theorem lw_p35 : lw_okq (⟨"WindCabinet", "manyAgreed", "(LWindCabinet$Republic;LWindCabinet$Rows;II)I"⟩, 8) := ⟨⟨by decide +kernel, by decide +kernel⟩, List.mem_of_getElem? (i := 18) (by decide +kernel), List.mem_of_getElem? (i := 820) (by decide +kernel), List.mem_of_getElem? (i := 821) (by decide +kernel)⟩
theorem lw_p36 : lw_okq (⟨"WindCabinet", "isAgreed", "(LWindCabinet$Republic;LWindCabinet$Rows;III)Z"⟩, 8) := ⟨⟨by decide +kernel, by decide +kernel⟩, List.mem_of_getElem? (i := 18) (by decide +kernel), List.mem_of_getElem? (i := 824) (by decide +kernel), List.mem_of_getElem? (i := 825) (by decide +kernel)⟩
theorem lw_p37 : lw_okq (⟨"WindCabinet", "bestAgreed", "(LWindCabinet$Republic;LWindCabinet$Rows;IIZ)I"⟩, 8) := ⟨⟨by decide +kernel, by decide +kernel⟩, List.mem_of_getElem? (i := 18) (by decide +kernel), List.mem_of_getElem? (i := 830) (by decide +kernel), List.mem_of_getElem? (i := 831) (by decide +kernel)⟩
theorem lw_p38 : lw_okq (⟨"WindCabinet", "firstWrong", "(LWindCabinet$Republic;LWindCabinet$Rows;)I"⟩, 8) := ⟨⟨by decide +kernel, by decide +kernel⟩, List.mem_of_getElem? (i := 18) (by decide +kernel), List.mem_of_getElem? (i := 901) (by decide +kernel), List.mem_of_getElem? (i := 902) (by decide +kernel)⟩
theorem lw_p39 : lw_okq (⟨"WindCabinet", "mend", "(LWindCabinet$Republic;LWindCabinet$Rows;)I"⟩, 8) := ⟨⟨by decide +kernel, by decide +kernel⟩, List.mem_of_getElem? (i := 18) (by decide +kernel), List.mem_of_getElem? (i := 907) (by decide +kernel), List.mem_of_getElem? (i := 908) (by decide +kernel)⟩
theorem lw_p40 : lw_okq (⟨"WindCabinet", "findFitting", "(LWindCabinet$Republic;LWindCabinet$Rows;)I"⟩, 8) := ⟨⟨by decide +kernel, by decide +kernel⟩, List.mem_of_getElem? (i := 18) (by decide +kernel), List.mem_of_getElem? (i := 915) (by decide +kernel), List.mem_of_getElem? (i := 916) (by decide +kernel)⟩
theorem lw_p41 : lw_okq (⟨"WindCabinet", "tellingSeason", "(LWindCabinet$Republic;I)I"⟩, 8) := ⟨⟨by decide +kernel, by decide +kernel⟩, List.mem_of_getElem? (i := 18) (by decide +kernel), List.mem_of_getElem? (i := 933) (by decide +kernel), List.mem_of_getElem? (i := 934) (by decide +kernel)⟩
theorem lw_p42 : lw_okq (⟨"WindCabinet", "unlikeProposals", "(LWindCabinet$Republic;II)I"⟩, 8) := ⟨⟨by decide +kernel, by decide +kernel⟩, List.mem_of_getElem? (i := 18) (by decide +kernel), List.mem_of_getElem? (i := 937) (by decide +kernel), List.mem_of_getElem? (i := 938) (by decide +kernel)⟩
theorem lw_p43 : lw_okq (⟨"WindCabinetModel", "isOf", "(II)Z"⟩, 35) := ⟨⟨by decide +kernel, by decide +kernel⟩, List.mem_of_getElem? (i := 971) (by decide +kernel), List.mem_of_getElem? (i := 1099) (by decide +kernel), List.mem_of_getElem? (i := 1100) (by decide +kernel)⟩
theorem lw_p44 : lw_okq (⟨"WindCabinetModel", "clears", "(I)V"⟩, 35) := ⟨⟨by decide +kernel, by decide +kernel⟩, List.mem_of_getElem? (i := 971) (by decide +kernel), List.mem_of_getElem? (i := 1103) (by decide +kernel), List.mem_of_getElem? (i := 1104) (by decide +kernel)⟩
theorem lw_p45 : lw_okq (⟨"WindCabinetModel", "advance", "()V"⟩, 35) := ⟨⟨by decide +kernel, by decide +kernel⟩, List.mem_of_getElem? (i := 971) (by decide +kernel), List.mem_of_getElem? (i := 1107) (by decide +kernel), List.mem_of_getElem? (i := 1108) (by decide +kernel)⟩
theorem lw_p46 : lw_okq (⟨"WindCabinetModel", "byteAt", "(I)I"⟩, 35) := ⟨⟨by decide +kernel, by decide +kernel⟩, List.mem_of_getElem? (i := 971) (by decide +kernel), List.mem_of_getElem? (i := 1111) (by decide +kernel), List.mem_of_getElem? (i := 1112) (by decide +kernel)⟩
theorem lw_p47 : lw_okq (⟨"WindCabinetModel", "republicLine", "()V"⟩, 35) := ⟨⟨by decide +kernel, by decide +kernel⟩, List.mem_of_getElem? (i := 971) (by decide +kernel), List.mem_of_getElem? (i := 1139) (by decide +kernel), List.mem_of_getElem? (i := 1140) (by decide +kernel)⟩
def lw_privs_3 : List (MethodName × Nat) := [(⟨"WindCabinet$Course", "drawMotion", "(LWindCabinet$Republic;)V"⟩, 13), (⟨"WindCabinet$Course", "drawBelow", "(I)I"⟩, 13), (⟨"WindCabinet$Course", "oneThere", "(I)I"⟩, 13), (⟨"WindCabinet", "manyAgreed", "(LWindCabinet$Republic;LWindCabinet$Rows;II)I"⟩, 8), (⟨"WindCabinet", "isAgreed", "(LWindCabinet$Republic;LWindCabinet$Rows;III)Z"⟩, 8), (⟨"WindCabinet", "bestAgreed", "(LWindCabinet$Republic;LWindCabinet$Rows;IIZ)I"⟩, 8), (⟨"WindCabinet", "firstWrong", "(LWindCabinet$Republic;LWindCabinet$Rows;)I"⟩, 8), (⟨"WindCabinet", "mend", "(LWindCabinet$Republic;LWindCabinet$Rows;)I"⟩, 8), (⟨"WindCabinet", "findFitting", "(LWindCabinet$Republic;LWindCabinet$Rows;)I"⟩, 8), (⟨"WindCabinet", "tellingSeason", "(LWindCabinet$Republic;I)I"⟩, 8), (⟨"WindCabinet", "unlikeProposals", "(LWindCabinet$Republic;II)I"⟩, 8), (⟨"WindCabinetModel", "isOf", "(II)Z"⟩, 35), (⟨"WindCabinetModel", "clears", "(I)V"⟩, 35), (⟨"WindCabinetModel", "advance", "()V"⟩, 35), (⟨"WindCabinetModel", "byteAt", "(I)I"⟩, 35), (⟨"WindCabinetModel", "republicLine", "()V"⟩, 35)]
theorem lw_r3 : ∀ q ∈ lw_privs_3, lw_okq q := List.forall_mem_cons.mpr ⟨lw_p32, List.forall_mem_cons.mpr ⟨lw_p33, List.forall_mem_cons.mpr ⟨lw_p34, List.forall_mem_cons.mpr ⟨lw_p35, List.forall_mem_cons.mpr ⟨lw_p36, List.forall_mem_cons.mpr ⟨lw_p37, List.forall_mem_cons.mpr ⟨lw_p38, List.forall_mem_cons.mpr ⟨lw_p39, List.forall_mem_cons.mpr ⟨lw_p40, List.forall_mem_cons.mpr ⟨lw_p41, List.forall_mem_cons.mpr ⟨lw_p42, List.forall_mem_cons.mpr ⟨lw_p43, List.forall_mem_cons.mpr ⟨lw_p44, List.forall_mem_cons.mpr ⟨lw_p45, List.forall_mem_cons.mpr ⟨lw_p46, List.forall_mem_cons.mpr ⟨lw_p47, fun _ h => absurd h List.not_mem_nil⟩⟩⟩⟩⟩⟩⟩⟩⟩⟩⟩⟩⟩⟩⟩⟩
theorem lw_p48 : lw_okq (⟨"WindCabinetModel", "takes", "(II)I"⟩, 35) := ⟨⟨by decide +kernel, by decide +kernel⟩, List.mem_of_getElem? (i := 971) (by decide +kernel), List.mem_of_getElem? (i := 1143) (by decide +kernel), List.mem_of_getElem? (i := 1144) (by decide +kernel)⟩
theorem lw_p49 : lw_okq (⟨"WindCabinetModel", "ends", "()V"⟩, 35) := ⟨⟨by decide +kernel, by decide +kernel⟩, List.mem_of_getElem? (i := 971) (by decide +kernel), List.mem_of_getElem? (i := 1147) (by decide +kernel), List.mem_of_getElem? (i := 1148) (by decide +kernel)⟩
theorem lw_p50 : lw_okq (⟨"WindCabinetModel", "ministerLine", "(I)V"⟩, 35) := ⟨⟨by decide +kernel, by decide +kernel⟩, List.mem_of_getElem? (i := 971) (by decide +kernel), List.mem_of_getElem? (i := 1151) (by decide +kernel), List.mem_of_getElem? (i := 1152) (by decide +kernel)⟩
theorem lw_p51 : lw_okq (⟨"WindCabinetModel", "also", "(II)V"⟩, 35) := ⟨⟨by decide +kernel, by decide +kernel⟩, List.mem_of_getElem? (i := 971) (by decide +kernel), List.mem_of_getElem? (i := 1155) (by decide +kernel), List.mem_of_getElem? (i := 1156) (by decide +kernel)⟩
theorem lw_p52 : lw_okq (⟨"WindCabinetModel", "numbered", "(II)I"⟩, 35) := ⟨⟨by decide +kernel, by decide +kernel⟩, List.mem_of_getElem? (i := 971) (by decide +kernel), List.mem_of_getElem? (i := 1159) (by decide +kernel), List.mem_of_getElem? (i := 1160) (by decide +kernel)⟩
theorem lw_p53 : lw_okq (⟨"WindCabinetModel", "wantLine", "()V"⟩, 35) := ⟨⟨by decide +kernel, by decide +kernel⟩, List.mem_of_getElem? (i := 971) (by decide +kernel), List.mem_of_getElem? (i := 1163) (by decide +kernel), List.mem_of_getElem? (i := 1164) (by decide +kernel)⟩
theorem lw_p54 : lw_okq (⟨"WindCabinetModel", "ministerTold", "()I"⟩, 35) := ⟨⟨by decide +kernel, by decide +kernel⟩, List.mem_of_getElem? (i := 971) (by decide +kernel), List.mem_of_getElem? (i := 1167) (by decide +kernel), List.mem_of_getElem? (i := 1168) (by decide +kernel)⟩
theorem lw_p55 : lw_okq (⟨"WindCabinetModel", "seasonTold", "()I"⟩, 35) := ⟨⟨by decide +kernel, by decide +kernel⟩, List.mem_of_getElem? (i := 971) (by decide +kernel), List.mem_of_getElem? (i := 1171) (by decide +kernel), List.mem_of_getElem? (i := 1172) (by decide +kernel)⟩
theorem lw_p56 : lw_okq (⟨"WindCabinetModel", "feudLine", "()V"⟩, 35) := ⟨⟨by decide +kernel, by decide +kernel⟩, List.mem_of_getElem? (i := 971) (by decide +kernel), List.mem_of_getElem? (i := 1175) (by decide +kernel), List.mem_of_getElem? (i := 1176) (by decide +kernel)⟩
theorem lw_p57 : lw_okq (⟨"WindCabinetModel", "kindTold", "()I"⟩, 35) := ⟨⟨by decide +kernel, by decide +kernel⟩, List.mem_of_getElem? (i := 971) (by decide +kernel), List.mem_of_getElem? (i := 1179) (by decide +kernel), List.mem_of_getElem? (i := 1180) (by decide +kernel)⟩
theorem lw_p58 : lw_okq (⟨"WindCabinetModel", "endsLine", "()V"⟩, 35) := ⟨⟨by decide +kernel, by decide +kernel⟩, List.mem_of_getElem? (i := 971) (by decide +kernel), List.mem_of_getElem? (i := 1183) (by decide +kernel), List.mem_of_getElem? (i := 1184) (by decide +kernel)⟩
theorem lw_p59 : lw_okq (⟨"WindCabinetModel", "orderLine", "()V"⟩, 35) := ⟨⟨by decide +kernel, by decide +kernel⟩, List.mem_of_getElem? (i := 971) (by decide +kernel), List.mem_of_getElem? (i := 1187) (by decide +kernel), List.mem_of_getElem? (i := 1188) (by decide +kernel)⟩
theorem lw_p60 : lw_okq (⟨"WindCabinetModel", "noLine", "()V"⟩, 35) := ⟨⟨by decide +kernel, by decide +kernel⟩, List.mem_of_getElem? (i := 971) (by decide +kernel), List.mem_of_getElem? (i := 1191) (by decide +kernel), List.mem_of_getElem? (i := 1192) (by decide +kernel)⟩
theorem lw_p61 : lw_okq (⟨"WindCabinetModel", "adds", "(IIIIII)V"⟩, 35) := ⟨⟨by decide +kernel, by decide +kernel⟩, List.mem_of_getElem? (i := 971) (by decide +kernel), List.mem_of_getElem? (i := 1195) (by decide +kernel), List.mem_of_getElem? (i := 1196) (by decide +kernel)⟩
theorem lw_p62 : lw_okq (⟨"WindCabinetModel", "yearLine", "()V"⟩, 35) := ⟨⟨by decide +kernel, by decide +kernel⟩, List.mem_of_getElem? (i := 971) (by decide +kernel), List.mem_of_getElem? (i := 1199) (by decide +kernel), List.mem_of_getElem? (i := 1200) (by decide +kernel)⟩
theorem lw_p63 : lw_okq (⟨"WindCabinetModel", "leakLine", "()V"⟩, 35) := ⟨⟨by decide +kernel, by decide +kernel⟩, List.mem_of_getElem? (i := 971) (by decide +kernel), List.mem_of_getElem? (i := 1203) (by decide +kernel), List.mem_of_getElem? (i := 1204) (by decide +kernel)⟩
def lw_privs_4 : List (MethodName × Nat) := [(⟨"WindCabinetModel", "takes", "(II)I"⟩, 35), (⟨"WindCabinetModel", "ends", "()V"⟩, 35), (⟨"WindCabinetModel", "ministerLine", "(I)V"⟩, 35), (⟨"WindCabinetModel", "also", "(II)V"⟩, 35), (⟨"WindCabinetModel", "numbered", "(II)I"⟩, 35), (⟨"WindCabinetModel", "wantLine", "()V"⟩, 35), (⟨"WindCabinetModel", "ministerTold", "()I"⟩, 35), (⟨"WindCabinetModel", "seasonTold", "()I"⟩, 35), (⟨"WindCabinetModel", "feudLine", "()V"⟩, 35), (⟨"WindCabinetModel", "kindTold", "()I"⟩, 35), (⟨"WindCabinetModel", "endsLine", "()V"⟩, 35), (⟨"WindCabinetModel", "orderLine", "()V"⟩, 35), (⟨"WindCabinetModel", "noLine", "()V"⟩, 35), (⟨"WindCabinetModel", "adds", "(IIIIII)V"⟩, 35), (⟨"WindCabinetModel", "yearLine", "()V"⟩, 35), (⟨"WindCabinetModel", "leakLine", "()V"⟩, 35)]
theorem lw_r4 : ∀ q ∈ lw_privs_4, lw_okq q := List.forall_mem_cons.mpr ⟨lw_p48, List.forall_mem_cons.mpr ⟨lw_p49, List.forall_mem_cons.mpr ⟨lw_p50, List.forall_mem_cons.mpr ⟨lw_p51, List.forall_mem_cons.mpr ⟨lw_p52, List.forall_mem_cons.mpr ⟨lw_p53, List.forall_mem_cons.mpr ⟨lw_p54, List.forall_mem_cons.mpr ⟨lw_p55, List.forall_mem_cons.mpr ⟨lw_p56, List.forall_mem_cons.mpr ⟨lw_p57, List.forall_mem_cons.mpr ⟨lw_p58, List.forall_mem_cons.mpr ⟨lw_p59, List.forall_mem_cons.mpr ⟨lw_p60, List.forall_mem_cons.mpr ⟨lw_p61, List.forall_mem_cons.mpr ⟨lw_p62, List.forall_mem_cons.mpr ⟨lw_p63, fun _ h => absurd h List.not_mem_nil⟩⟩⟩⟩⟩⟩⟩⟩⟩⟩⟩⟩⟩⟩⟩⟩
theorem lw_p64 : lw_okq (⟨"WindCabinetModel", "summerLine", "()V"⟩, 35) := ⟨⟨by decide +kernel, by decide +kernel⟩, List.mem_of_getElem? (i := 971) (by decide +kernel), List.mem_of_getElem? (i := 1207) (by decide +kernel), List.mem_of_getElem? (i := 1208) (by decide +kernel)⟩
theorem lw_p65 : lw_okq (⟨"WindCabinetModel", "bargainLine", "()V"⟩, 35) := ⟨⟨by decide +kernel, by decide +kernel⟩, List.mem_of_getElem? (i := 971) (by decide +kernel), List.mem_of_getElem? (i := 1211) (by decide +kernel), List.mem_of_getElem? (i := 1212) (by decide +kernel)⟩
theorem lw_p66 : lw_okq (⟨"WindCabinetModel", "isRepublic", "(I)Z"⟩, 35) := ⟨⟨by decide +kernel, by decide +kernel⟩, List.mem_of_getElem? (i := 971) (by decide +kernel), List.mem_of_getElem? (i := 1229) (by decide +kernel), List.mem_of_getElem? (i := 1230) (by decide +kernel)⟩
theorem lw_p67 : lw_okq (⟨"WindCabinetModel", "begins", "()V"⟩, 35) := ⟨⟨by decide +kernel, by decide +kernel⟩, List.mem_of_getElem? (i := 971) (by decide +kernel), List.mem_of_getElem? (i := 1233) (by decide +kernel), List.mem_of_getElem? (i := 1234) (by decide +kernel)⟩
theorem lw_p68 : lw_okq (⟨"WindCabinetModel", "ministers", "()I"⟩, 35) := ⟨⟨by decide +kernel, by decide +kernel⟩, List.mem_of_getElem? (i := 971) (by decide +kernel), List.mem_of_getElem? (i := 1237) (by decide +kernel), List.mem_of_getElem? (i := 1238) (by decide +kernel)⟩
theorem lw_p69 : lw_okq (⟨"WindCabinetModel", "of", "(I)I"⟩, 35) := ⟨⟨by decide +kernel, by decide +kernel⟩, List.mem_of_getElem? (i := 971) (by decide +kernel), List.mem_of_getElem? (i := 1241) (by decide +kernel), List.mem_of_getElem? (i := 1242) (by decide +kernel)⟩
theorem lw_p70 : lw_okq (⟨"WindCabinetModel", "isMinister", "(I)Z"⟩, 35) := ⟨⟨by decide +kernel, by decide +kernel⟩, List.mem_of_getElem? (i := 971) (by decide +kernel), List.mem_of_getElem? (i := 1249) (by decide +kernel), List.mem_of_getElem? (i := 1250) (by decide +kernel)⟩
theorem lw_p71 : lw_okq (⟨"WindCabinetModel", "ofMinister", "(II)I"⟩, 35) := ⟨⟨by decide +kernel, by decide +kernel⟩, List.mem_of_getElem? (i := 971) (by decide +kernel), List.mem_of_getElem? (i := 1253) (by decide +kernel), List.mem_of_getElem? (i := 1254) (by decide +kernel)⟩
theorem lw_p72 : lw_okq (⟨"WindCabinetModel", "isMotion", "(IIIIII)Z"⟩, 35) := ⟨⟨by decide +kernel, by decide +kernel⟩, List.mem_of_getElem? (i := 971) (by decide +kernel), List.mem_of_getElem? (i := 1261) (by decide +kernel), List.mem_of_getElem? (i := 1262) (by decide +kernel)⟩
theorem lw_p73 : lw_okq (⟨"WindCabinetModel", "talksOf", "(I)V"⟩, 35) := ⟨⟨by decide +kernel, by decide +kernel⟩, List.mem_of_getElem? (i := 971) (by decide +kernel), List.mem_of_getElem? (i := 1268) (by decide +kernel), List.mem_of_getElem? (i := 1269) (by decide +kernel)⟩
theorem lw_p74 : lw_okq (⟨"WindCabinetModel", "offOf", "(I)I"⟩, 35) := ⟨⟨by decide +kernel, by decide +kernel⟩, List.mem_of_getElem? (i := 971) (by decide +kernel), List.mem_of_getElem? (i := 1272) (by decide +kernel), List.mem_of_getElem? (i := 1273) (by decide +kernel)⟩
theorem lw_p75 : lw_okq (⟨"WindCabinetModel", "wants", "(III)I"⟩, 35) := ⟨⟨by decide +kernel, by decide +kernel⟩, List.mem_of_getElem? (i := 971) (by decide +kernel), List.mem_of_getElem? (i := 1276) (by decide +kernel), List.mem_of_getElem? (i := 1277) (by decide +kernel)⟩
theorem lw_p76 : lw_okq (⟨"WindCabinetModel", "agreeing", "()I"⟩, 35) := ⟨⟨by decide +kernel, by decide +kernel⟩, List.mem_of_getElem? (i := 971) (by decide +kernel), List.mem_of_getElem? (i := 1287) (by decide +kernel), List.mem_of_getElem? (i := 1288) (by decide +kernel)⟩
theorem lw_p77 : lw_okq (⟨"WindCabinetModel", "agrees", "(I)Z"⟩, 35) := ⟨⟨by decide +kernel, by decide +kernel⟩, List.mem_of_getElem? (i := 971) (by decide +kernel), List.mem_of_getElem? (i := 1291) (by decide +kernel), List.mem_of_getElem? (i := 1292) (by decide +kernel)⟩
theorem lw_p78 : lw_okq (⟨"WindCabinetModel", "yields", "(I)I"⟩, 35) := ⟨⟨by decide +kernel, by decide +kernel⟩, List.mem_of_getElem? (i := 971) (by decide +kernel), List.mem_of_getElem? (i := 1295) (by decide +kernel), List.mem_of_getElem? (i := 1296) (by decide +kernel)⟩
theorem lw_p79 : lw_okq (⟨"WindCabinetModel", "isPassed", "(I)Z"⟩, 35) := ⟨⟨by decide +kernel, by decide +kernel⟩, List.mem_of_getElem? (i := 971) (by decide +kernel), List.mem_of_getElem? (i := 1299) (by decide +kernel), List.mem_of_getElem? (i := 1300) (by decide +kernel)⟩
def lw_privs_5 : List (MethodName × Nat) := [(⟨"WindCabinetModel", "summerLine", "()V"⟩, 35), (⟨"WindCabinetModel", "bargainLine", "()V"⟩, 35), (⟨"WindCabinetModel", "isRepublic", "(I)Z"⟩, 35), (⟨"WindCabinetModel", "begins", "()V"⟩, 35), (⟨"WindCabinetModel", "ministers", "()I"⟩, 35), (⟨"WindCabinetModel", "of", "(I)I"⟩, 35), (⟨"WindCabinetModel", "isMinister", "(I)Z"⟩, 35), (⟨"WindCabinetModel", "ofMinister", "(II)I"⟩, 35), (⟨"WindCabinetModel", "isMotion", "(IIIIII)Z"⟩, 35), (⟨"WindCabinetModel", "talksOf", "(I)V"⟩, 35), (⟨"WindCabinetModel", "offOf", "(I)I"⟩, 35), (⟨"WindCabinetModel", "wants", "(III)I"⟩, 35), (⟨"WindCabinetModel", "agreeing", "()I"⟩, 35), (⟨"WindCabinetModel", "agrees", "(I)Z"⟩, 35), (⟨"WindCabinetModel", "yields", "(I)I"⟩, 35), (⟨"WindCabinetModel", "isPassed", "(I)Z"⟩, 35)]
theorem lw_r5 : ∀ q ∈ lw_privs_5, lw_okq q := List.forall_mem_cons.mpr ⟨lw_p64, List.forall_mem_cons.mpr ⟨lw_p65, List.forall_mem_cons.mpr ⟨lw_p66, List.forall_mem_cons.mpr ⟨lw_p67, List.forall_mem_cons.mpr ⟨lw_p68, List.forall_mem_cons.mpr ⟨lw_p69, List.forall_mem_cons.mpr ⟨lw_p70, List.forall_mem_cons.mpr ⟨lw_p71, List.forall_mem_cons.mpr ⟨lw_p72, List.forall_mem_cons.mpr ⟨lw_p73, List.forall_mem_cons.mpr ⟨lw_p74, List.forall_mem_cons.mpr ⟨lw_p75, List.forall_mem_cons.mpr ⟨lw_p76, List.forall_mem_cons.mpr ⟨lw_p77, List.forall_mem_cons.mpr ⟨lw_p78, List.forall_mem_cons.mpr ⟨lw_p79, fun _ h => absurd h List.not_mem_nil⟩⟩⟩⟩⟩⟩⟩⟩⟩⟩⟩⟩⟩⟩⟩⟩
theorem lw_p80 : lw_okq (⟨"WindCabinetModel", "votesOf", "(I)I"⟩, 35) := ⟨⟨by decide +kernel, by decide +kernel⟩, List.mem_of_getElem? (i := 971) (by decide +kernel), List.mem_of_getElem? (i := 1303) (by decide +kernel), List.mem_of_getElem? (i := 1304) (by decide +kernel)⟩
theorem lw_p81 : lw_okq (⟨"WindCabinetModel", "vetoes", "()I"⟩, 35) := ⟨⟨by decide +kernel, by decide +kernel⟩, List.mem_of_getElem? (i := 971) (by decide +kernel), List.mem_of_getElem? (i := 1307) (by decide +kernel), List.mem_of_getElem? (i := 1308) (by decide +kernel)⟩
theorem lw_p82 : lw_okq (⟨"WindCabinetModel", "areOrders", "(I)Z"⟩, 35) := ⟨⟨by decide +kernel, by decide +kernel⟩, List.mem_of_getElem? (i := 971) (by decide +kernel), List.mem_of_getElem? (i := 1315) (by decide +kernel), List.mem_of_getElem? (i := 1316) (by decide +kernel)⟩
theorem lw_p83 : lw_okq (⟨"WindCabinetModel", "orderOf", "(II)I"⟩, 35) := ⟨⟨by decide +kernel, by decide +kernel⟩, List.mem_of_getElem? (i := 971) (by decide +kernel), List.mem_of_getElem? (i := 1319) (by decide +kernel), List.mem_of_getElem? (i := 1320) (by decide +kernel)⟩
theorem lw_p84 : lw_okq (⟨"WindCabinetModel", "firstBroken", "(I)I"⟩, 35) := ⟨⟨by decide +kernel, by decide +kernel⟩, List.mem_of_getElem? (i := 971) (by decide +kernel), List.mem_of_getElem? (i := 1327) (by decide +kernel), List.mem_of_getElem? (i := 1328) (by decide +kernel)⟩
theorem lw_p85 : lw_okq (⟨"WindCabinetModel", "isBroken", "(II)Z"⟩, 35) := ⟨⟨by decide +kernel, by decide +kernel⟩, List.mem_of_getElem? (i := 971) (by decide +kernel), List.mem_of_getElem? (i := 1331) (by decide +kernel), List.mem_of_getElem? (i := 1332) (by decide +kernel)⟩
theorem lw_p86 : lw_okq (⟨"WindCabinetModel", "amount", "(I)I"⟩, 35) := ⟨⟨by decide +kernel, by decide +kernel⟩, List.mem_of_getElem? (i := 971) (by decide +kernel), List.mem_of_getElem? (i := 1335) (by decide +kernel), List.mem_of_getElem? (i := 1336) (by decide +kernel)⟩
theorem lw_p87 : lw_okq (⟨"WindCabinetModel", "deeds", "()I"⟩, 35) := ⟨⟨by decide +kernel, by decide +kernel⟩, List.mem_of_getElem? (i := 971) (by decide +kernel), List.mem_of_getElem? (i := 1346) (by decide +kernel), List.mem_of_getElem? (i := 1347) (by decide +kernel)⟩
theorem lw_p88 : lw_okq (⟨"WindCabinetModel", "deedOf", "(II)I"⟩, 35) := ⟨⟨by decide +kernel, by decide +kernel⟩, List.mem_of_getElem? (i := 971) (by decide +kernel), List.mem_of_getElem? (i := 1350) (by decide +kernel), List.mem_of_getElem? (i := 1351) (by decide +kernel)⟩
theorem lw_p89 : lw_okq (⟨"WindCabinetModel", "areTold", "(III)Z"⟩, 35) := ⟨⟨by decide +kernel, by decide +kernel⟩, List.mem_of_getElem? (i := 971) (by decide +kernel), List.mem_of_getElem? (i := 1358) (by decide +kernel), List.mem_of_getElem? (i := 1359) (by decide +kernel)⟩
theorem lw_p90 : lw_okq (⟨"WindCabinetModel", "runs", "(I)V"⟩, 35) := ⟨⟨by decide +kernel, by decide +kernel⟩, List.mem_of_getElem? (i := 971) (by decide +kernel), List.mem_of_getElem? (i := 1362) (by decide +kernel), List.mem_of_getElem? (i := 1363) (by decide +kernel)⟩
theorem lw_p91 : lw_okq (⟨"WindCabinetModel", "can", "(I)Z"⟩, 35) := ⟨⟨by decide +kernel, by decide +kernel⟩, List.mem_of_getElem? (i := 971) (by decide +kernel), List.mem_of_getElem? (i := 1366) (by decide +kernel), List.mem_of_getElem? (i := 1367) (by decide +kernel)⟩
theorem lw_p92 : lw_okq (⟨"WindCabinetModel", "isThere", "(I)Z"⟩, 35) := ⟨⟨by decide +kernel, by decide +kernel⟩, List.mem_of_getElem? (i := 971) (by decide +kernel), List.mem_of_getElem? (i := 1370) (by decide +kernel), List.mem_of_getElem? (i := 1371) (by decide +kernel)⟩
theorem lw_p93 : lw_okq (⟨"WindCabinetModel", "canNature", "()Z"⟩, 35) := ⟨⟨by decide +kernel, by decide +kernel⟩, List.mem_of_getElem? (i := 971) (by decide +kernel), List.mem_of_getElem? (i := 1374) (by decide +kernel), List.mem_of_getElem? (i := 1375) (by decide +kernel)⟩
theorem lw_p94 : lw_okq (⟨"WindCabinetModel", "does", "(I)V"⟩, 35) := ⟨⟨by decide +kernel, by decide +kernel⟩, List.mem_of_getElem? (i := 971) (by decide +kernel), List.mem_of_getElem? (i := 1378) (by decide +kernel), List.mem_of_getElem? (i := 1379) (by decide +kernel)⟩
theorem lw_p95 : lw_okq (⟨"WindCabinetModel", "moves", "()V"⟩, 35) := ⟨⟨by decide +kernel, by decide +kernel⟩, List.mem_of_getElem? (i := 971) (by decide +kernel), List.mem_of_getElem? (i := 1382) (by decide +kernel), List.mem_of_getElem? (i := 1383) (by decide +kernel)⟩
def lw_privs_6 : List (MethodName × Nat) := [(⟨"WindCabinetModel", "votesOf", "(I)I"⟩, 35), (⟨"WindCabinetModel", "vetoes", "()I"⟩, 35), (⟨"WindCabinetModel", "areOrders", "(I)Z"⟩, 35), (⟨"WindCabinetModel", "orderOf", "(II)I"⟩, 35), (⟨"WindCabinetModel", "firstBroken", "(I)I"⟩, 35), (⟨"WindCabinetModel", "isBroken", "(II)Z"⟩, 35), (⟨"WindCabinetModel", "amount", "(I)I"⟩, 35), (⟨"WindCabinetModel", "deeds", "()I"⟩, 35), (⟨"WindCabinetModel", "deedOf", "(II)I"⟩, 35), (⟨"WindCabinetModel", "areTold", "(III)Z"⟩, 35), (⟨"WindCabinetModel", "runs", "(I)V"⟩, 35), (⟨"WindCabinetModel", "can", "(I)Z"⟩, 35), (⟨"WindCabinetModel", "isThere", "(I)Z"⟩, 35), (⟨"WindCabinetModel", "canNature", "()Z"⟩, 35), (⟨"WindCabinetModel", "does", "(I)V"⟩, 35), (⟨"WindCabinetModel", "moves", "()V"⟩, 35)]
theorem lw_r6 : ∀ q ∈ lw_privs_6, lw_okq q := List.forall_mem_cons.mpr ⟨lw_p80, List.forall_mem_cons.mpr ⟨lw_p81, List.forall_mem_cons.mpr ⟨lw_p82, List.forall_mem_cons.mpr ⟨lw_p83, List.forall_mem_cons.mpr ⟨lw_p84, List.forall_mem_cons.mpr ⟨lw_p85, List.forall_mem_cons.mpr ⟨lw_p86, List.forall_mem_cons.mpr ⟨lw_p87, List.forall_mem_cons.mpr ⟨lw_p88, List.forall_mem_cons.mpr ⟨lw_p89, List.forall_mem_cons.mpr ⟨lw_p90, List.forall_mem_cons.mpr ⟨lw_p91, List.forall_mem_cons.mpr ⟨lw_p92, List.forall_mem_cons.mpr ⟨lw_p93, List.forall_mem_cons.mpr ⟨lw_p94, List.forall_mem_cons.mpr ⟨lw_p95, fun _ h => absurd h List.not_mem_nil⟩⟩⟩⟩⟩⟩⟩⟩⟩⟩⟩⟩⟩⟩⟩⟩
theorem lw_p96 : lw_okq (⟨"WindCabinetModel", "committee", "()V"⟩, 35) := ⟨⟨by decide +kernel, by decide +kernel⟩, List.mem_of_getElem? (i := 971) (by decide +kernel), List.mem_of_getElem? (i := 1386) (by decide +kernel), List.mem_of_getElem? (i := 1387) (by decide +kernel)⟩
theorem lw_p97 : lw_okq (⟨"WindCabinetModel", "goes", "()V"⟩, 35) := ⟨⟨by decide +kernel, by decide +kernel⟩, List.mem_of_getElem? (i := 971) (by decide +kernel), List.mem_of_getElem? (i := 1390) (by decide +kernel), List.mem_of_getElem? (i := 1391) (by decide +kernel)⟩
theorem lw_p98 : lw_okq (⟨"WindCabinetModel", "angers", "(I)V"⟩, 35) := ⟨⟨by decide +kernel, by decide +kernel⟩, List.mem_of_getElem? (i := 971) (by decide +kernel), List.mem_of_getElem? (i := 1394) (by decide +kernel), List.mem_of_getElem? (i := 1395) (by decide +kernel)⟩
theorem lw_p99 : lw_okq (⟨"WindCabinetModel", "isAgreed", "(IZ)Z"⟩, 35) := ⟨⟨by decide +kernel, by decide +kernel⟩, List.mem_of_getElem? (i := 971) (by decide +kernel), List.mem_of_getElem? (i := 1406) (by decide +kernel), List.mem_of_getElem? (i := 1407) (by decide +kernel)⟩
theorem lw_p100 : lw_okq (⟨"WindCabinetModel", "everybody", "()I"⟩, 35) := ⟨⟨by decide +kernel, by decide +kernel⟩, List.mem_of_getElem? (i := 971) (by decide +kernel), List.mem_of_getElem? (i := 1417) (by decide +kernel), List.mem_of_getElem? (i := 1418) (by decide +kernel)⟩
theorem lw_p101 : lw_okq (⟨"WindCabinetModel", "isEnough", "(I)Z"⟩, 35) := ⟨⟨by decide +kernel, by decide +kernel⟩, List.mem_of_getElem? (i := 971) (by decide +kernel), List.mem_of_getElem? (i := 1421) (by decide +kernel), List.mem_of_getElem? (i := 1422) (by decide +kernel)⟩
theorem lw_p102 : lw_okq (⟨"WindCabinetModel", "key", "()I"⟩, 35) := ⟨⟨by decide +kernel, by decide +kernel⟩, List.mem_of_getElem? (i := 971) (by decide +kernel), List.mem_of_getElem? (i := 1441) (by decide +kernel), List.mem_of_getElem? (i := 1442) (by decide +kernel)⟩
theorem lw_p103 : lw_okq (⟨"WindCabinetModel", "isLeast", "(I)Z"⟩, 35) := ⟨⟨by decide +kernel, by decide +kernel⟩, List.mem_of_getElem? (i := 971) (by decide +kernel), List.mem_of_getElem? (i := 1445) (by decide +kernel), List.mem_of_getElem? (i := 1446) (by decide +kernel)⟩
theorem lw_p104 : lw_okq (⟨"WindCabinetModel", "costOf", "(I)I"⟩, 35) := ⟨⟨by decide +kernel, by decide +kernel⟩, List.mem_of_getElem? (i := 971) (by decide +kernel), List.mem_of_getElem? (i := 1453) (by decide +kernel), List.mem_of_getElem? (i := 1454) (by decide +kernel)⟩
theorem lw_p105 : lw_okq (⟨"WindCabinetModel", "isRest", "(II)Z"⟩, 35) := ⟨⟨by decide +kernel, by decide +kernel⟩, List.mem_of_getElem? (i := 971) (by decide +kernel), List.mem_of_getElem? (i := 1461) (by decide +kernel), List.mem_of_getElem? (i := 1462) (by decide +kernel)⟩
theorem lw_p106 : lw_okq (⟨"WindCabinetModel", "gainOf", "(IIZ)I"⟩, 35) := ⟨⟨by decide +kernel, by decide +kernel⟩, List.mem_of_getElem? (i := 971) (by decide +kernel), List.mem_of_getElem? (i := 1465) (by decide +kernel), List.mem_of_getElem? (i := 1466) (by decide +kernel)⟩
theorem lw_p107 : lw_okq (⟨"WindCabinetModel", "priceOf", "(I)I"⟩, 35) := ⟨⟨by decide +kernel, by decide +kernel⟩, List.mem_of_getElem? (i := 971) (by decide +kernel), List.mem_of_getElem? (i := 1469) (by decide +kernel), List.mem_of_getElem? (i := 1470) (by decide +kernel)⟩
theorem lw_p108 : lw_okq (⟨"WindCabinetModel", "isSummer", "(I)Z"⟩, 35) := ⟨⟨by decide +kernel, by decide +kernel⟩, List.mem_of_getElem? (i := 971) (by decide +kernel), List.mem_of_getElem? (i := 1481) (by decide +kernel), List.mem_of_getElem? (i := 1482) (by decide +kernel)⟩
theorem lw_p109 : lw_okq (⟨"WindCabinetModel", "summerDays", "()I"⟩, 35) := ⟨⟨by decide +kernel, by decide +kernel⟩, List.mem_of_getElem? (i := 971) (by decide +kernel), List.mem_of_getElem? (i := 1485) (by decide +kernel), List.mem_of_getElem? (i := 1486) (by decide +kernel)⟩
theorem lw_p110 : lw_okq (⟨"WindCabinetModel", "dayOf", "(II)I"⟩, 35) := ⟨⟨by decide +kernel, by decide +kernel⟩, List.mem_of_getElem? (i := 971) (by decide +kernel), List.mem_of_getElem? (i := 1489) (by decide +kernel), List.mem_of_getElem? (i := 1490) (by decide +kernel)⟩
theorem lw_p111 : lw_okq (⟨"WindCabinetModel", "wrongDay", "()I"⟩, 35) := ⟨⟨by decide +kernel, by decide +kernel⟩, List.mem_of_getElem? (i := 971) (by decide +kernel), List.mem_of_getElem? (i := 1497) (by decide +kernel), List.mem_of_getElem? (i := 1498) (by decide +kernel)⟩
def lw_privs_7 : List (MethodName × Nat) := [(⟨"WindCabinetModel", "committee", "()V"⟩, 35), (⟨"WindCabinetModel", "goes", "()V"⟩, 35), (⟨"WindCabinetModel", "angers", "(I)V"⟩, 35), (⟨"WindCabinetModel", "isAgreed", "(IZ)Z"⟩, 35), (⟨"WindCabinetModel", "everybody", "()I"⟩, 35), (⟨"WindCabinetModel", "isEnough", "(I)Z"⟩, 35), (⟨"WindCabinetModel", "key", "()I"⟩, 35), (⟨"WindCabinetModel", "isLeast", "(I)Z"⟩, 35), (⟨"WindCabinetModel", "costOf", "(I)I"⟩, 35), (⟨"WindCabinetModel", "isRest", "(II)Z"⟩, 35), (⟨"WindCabinetModel", "gainOf", "(IIZ)I"⟩, 35), (⟨"WindCabinetModel", "priceOf", "(I)I"⟩, 35), (⟨"WindCabinetModel", "isSummer", "(I)Z"⟩, 35), (⟨"WindCabinetModel", "summerDays", "()I"⟩, 35), (⟨"WindCabinetModel", "dayOf", "(II)I"⟩, 35), (⟨"WindCabinetModel", "wrongDay", "()I"⟩, 35)]
theorem lw_r7 : ∀ q ∈ lw_privs_7, lw_okq q := List.forall_mem_cons.mpr ⟨lw_p96, List.forall_mem_cons.mpr ⟨lw_p97, List.forall_mem_cons.mpr ⟨lw_p98, List.forall_mem_cons.mpr ⟨lw_p99, List.forall_mem_cons.mpr ⟨lw_p100, List.forall_mem_cons.mpr ⟨lw_p101, List.forall_mem_cons.mpr ⟨lw_p102, List.forall_mem_cons.mpr ⟨lw_p103, List.forall_mem_cons.mpr ⟨lw_p104, List.forall_mem_cons.mpr ⟨lw_p105, List.forall_mem_cons.mpr ⟨lw_p106, List.forall_mem_cons.mpr ⟨lw_p107, List.forall_mem_cons.mpr ⟨lw_p108, List.forall_mem_cons.mpr ⟨lw_p109, List.forall_mem_cons.mpr ⟨lw_p110, List.forall_mem_cons.mpr ⟨lw_p111, fun _ h => absurd h List.not_mem_nil⟩⟩⟩⟩⟩⟩⟩⟩⟩⟩⟩⟩⟩⟩⟩⟩
theorem lw_p112 : lw_okq (⟨"WindCabinetModel", "numberOf", "(I)I"⟩, 35) := ⟨⟨by decide +kernel, by decide +kernel⟩, List.mem_of_getElem? (i := 971) (by decide +kernel), List.mem_of_getElem? (i := 1501) (by decide +kernel), List.mem_of_getElem? (i := 1502) (by decide +kernel)⟩
theorem lw_p113 : lw_okq (⟨"WindCabinetModel", "isHeatRight", "()Z"⟩, 35) := ⟨⟨by decide +kernel, by decide +kernel⟩, List.mem_of_getElem? (i := 971) (by decide +kernel), List.mem_of_getElem? (i := 1505) (by decide +kernel), List.mem_of_getElem? (i := 1506) (by decide +kernel)⟩
theorem lw_p114 : lw_okq (⟨"WindCabinetModel", "mends", "()V"⟩, 35) := ⟨⟨by decide +kernel, by decide +kernel⟩, List.mem_of_getElem? (i := 971) (by decide +kernel), List.mem_of_getElem? (i := 1509) (by decide +kernel), List.mem_of_getElem? (i := 1510) (by decide +kernel)⟩
theorem lw_p115 : lw_okq (⟨"WindCabinetModel", "cloudAfter", "(III)I"⟩, 35) := ⟨⟨by decide +kernel, by decide +kernel⟩, List.mem_of_getElem? (i := 971) (by decide +kernel), List.mem_of_getElem? (i := 1513) (by decide +kernel), List.mem_of_getElem? (i := 1514) (by decide +kernel)⟩
theorem lw_p116 : lw_okq (⟨"WindCabinetModel", "fallsOn", "(I)I"⟩, 35) := ⟨⟨by decide +kernel, by decide +kernel⟩, List.mem_of_getElem? (i := 971) (by decide +kernel), List.mem_of_getElem? (i := 1517) (by decide +kernel), List.mem_of_getElem? (i := 1518) (by decide +kernel)⟩
theorem lw_p117 : lw_okq (⟨"WindCabinetModel", "unlike", "(I)I"⟩, 35) := ⟨⟨by decide +kernel, by decide +kernel⟩, List.mem_of_getElem? (i := 971) (by decide +kernel), List.mem_of_getElem? (i := 1525) (by decide +kernel), List.mem_of_getElem? (i := 1526) (by decide +kernel)⟩
theorem lw_p118 : lw_okq (⟨"WindCabinetModel", "isSat", "(I)Z"⟩, 35) := ⟨⟨by decide +kernel, by decide +kernel⟩, List.mem_of_getElem? (i := 971) (by decide +kernel), List.mem_of_getElem? (i := 1529) (by decide +kernel), List.mem_of_getElem? (i := 1530) (by decide +kernel)⟩
theorem lw_p119 : lw_okq (⟨"WindCabinetModel", "areSeats", "(I)Z"⟩, 35) := ⟨⟨by decide +kernel, by decide +kernel⟩, List.mem_of_getElem? (i := 971) (by decide +kernel), List.mem_of_getElem? (i := 1533) (by decide +kernel), List.mem_of_getElem? (i := 1534) (by decide +kernel)⟩
theorem lw_p120 : lw_okq (⟨"WindCabinetModel", "proposal", "(II)I"⟩, 35) := ⟨⟨by decide +kernel, by decide +kernel⟩, List.mem_of_getElem? (i := 971) (by decide +kernel), List.mem_of_getElem? (i := 1537) (by decide +kernel), List.mem_of_getElem? (i := 1538) (by decide +kernel)⟩
theorem lw_p121 : lw_okq (⟨"WindCabinetModel", "rainy", "(I)I"⟩, 35) := ⟨⟨by decide +kernel, by decide +kernel⟩, List.mem_of_getElem? (i := 971) (by decide +kernel), List.mem_of_getElem? (i := 1545) (by decide +kernel), List.mem_of_getElem? (i := 1546) (by decide +kernel)⟩
theorem lw_p122 : lw_okq (⟨"WindCabinetModel", "leakOf", "(II)I"⟩, 35) := ⟨⟨by decide +kernel, by decide +kernel⟩, List.mem_of_getElem? (i := 971) (by decide +kernel), List.mem_of_getElem? (i := 1553) (by decide +kernel), List.mem_of_getElem? (i := 1554) (by decide +kernel)⟩
theorem lw_p123 : lw_okq (⟨"WindCabinetModel", "fitting", "(I)I"⟩, 35) := ⟨⟨by decide +kernel, by decide +kernel⟩, List.mem_of_getElem? (i := 971) (by decide +kernel), List.mem_of_getElem? (i := 1561) (by decide +kernel), List.mem_of_getElem? (i := 1562) (by decide +kernel)⟩
theorem lw_p124 : lw_okq (⟨"WindCabinetModel", "isFit", "(II)Z"⟩, 35) := ⟨⟨by decide +kernel, by decide +kernel⟩, List.mem_of_getElem? (i := 971) (by decide +kernel), List.mem_of_getElem? (i := 1565) (by decide +kernel), List.mem_of_getElem? (i := 1566) (by decide +kernel)⟩
theorem lw_p125 : lw_okq (⟨"WindCabinetModel", "rainyFit", "()I"⟩, 35) := ⟨⟨by decide +kernel, by decide +kernel⟩, List.mem_of_getElem? (i := 971) (by decide +kernel), List.mem_of_getElem? (i := 1569) (by decide +kernel), List.mem_of_getElem? (i := 1570) (by decide +kernel)⟩
theorem lw_p126 : lw_okq (⟨"WindCabinetModel", "extreme", "(IZ)I"⟩, 35) := ⟨⟨by decide +kernel, by decide +kernel⟩, List.mem_of_getElem? (i := 971) (by decide +kernel), List.mem_of_getElem? (i := 1573) (by decide +kernel), List.mem_of_getElem? (i := 1574) (by decide +kernel)⟩
theorem lw_p127 : lw_okq (⟨"WindCabinetModel", "below", "(I)I"⟩, 35) := ⟨⟨by decide +kernel, by decide +kernel⟩, List.mem_of_getElem? (i := 971) (by decide +kernel), List.mem_of_getElem? (i := 1581) (by decide +kernel), List.mem_of_getElem? (i := 1582) (by decide +kernel)⟩
def lw_privs_8 : List (MethodName × Nat) := [(⟨"WindCabinetModel", "numberOf", "(I)I"⟩, 35), (⟨"WindCabinetModel", "isHeatRight", "()Z"⟩, 35), (⟨"WindCabinetModel", "mends", "()V"⟩, 35), (⟨"WindCabinetModel", "cloudAfter", "(III)I"⟩, 35), (⟨"WindCabinetModel", "fallsOn", "(I)I"⟩, 35), (⟨"WindCabinetModel", "unlike", "(I)I"⟩, 35), (⟨"WindCabinetModel", "isSat", "(I)Z"⟩, 35), (⟨"WindCabinetModel", "areSeats", "(I)Z"⟩, 35), (⟨"WindCabinetModel", "proposal", "(II)I"⟩, 35), (⟨"WindCabinetModel", "rainy", "(I)I"⟩, 35), (⟨"WindCabinetModel", "leakOf", "(II)I"⟩, 35), (⟨"WindCabinetModel", "fitting", "(I)I"⟩, 35), (⟨"WindCabinetModel", "isFit", "(II)Z"⟩, 35), (⟨"WindCabinetModel", "rainyFit", "()I"⟩, 35), (⟨"WindCabinetModel", "extreme", "(IZ)I"⟩, 35), (⟨"WindCabinetModel", "below", "(I)I"⟩, 35)]
theorem lw_r8 : ∀ q ∈ lw_privs_8, lw_okq q := List.forall_mem_cons.mpr ⟨lw_p112, List.forall_mem_cons.mpr ⟨lw_p113, List.forall_mem_cons.mpr ⟨lw_p114, List.forall_mem_cons.mpr ⟨lw_p115, List.forall_mem_cons.mpr ⟨lw_p116, List.forall_mem_cons.mpr ⟨lw_p117, List.forall_mem_cons.mpr ⟨lw_p118, List.forall_mem_cons.mpr ⟨lw_p119, List.forall_mem_cons.mpr ⟨lw_p120, List.forall_mem_cons.mpr ⟨lw_p121, List.forall_mem_cons.mpr ⟨lw_p122, List.forall_mem_cons.mpr ⟨lw_p123, List.forall_mem_cons.mpr ⟨lw_p124, List.forall_mem_cons.mpr ⟨lw_p125, List.forall_mem_cons.mpr ⟨lw_p126, List.forall_mem_cons.mpr ⟨lw_p127, fun _ h => absurd h List.not_mem_nil⟩⟩⟩⟩⟩⟩⟩⟩⟩⟩⟩⟩⟩⟩⟩⟩
theorem lw_p128 : lw_okq (⟨"WindCabinetModel", "thereAt", "(I)I"⟩, 35) := ⟨⟨by decide +kernel, by decide +kernel⟩, List.mem_of_getElem? (i := 971) (by decide +kernel), List.mem_of_getElem? (i := 1586) (by decide +kernel), List.mem_of_getElem? (i := 1587) (by decide +kernel)⟩
def lw_privs_9 : List (MethodName × Nat) := [(⟨"WindCabinetModel", "thereAt", "(I)I"⟩, 35)]
theorem lw_r9 : ∀ q ∈ lw_privs_9, lw_okq q := List.forall_mem_cons.mpr ⟨lw_p128, fun _ h => absurd h List.not_mem_nil⟩
def lw_privs : List (MethodName × Nat) := lw_privs_1 ++ (lw_privs_2 ++ (lw_privs_3 ++ (lw_privs_4 ++ (lw_privs_5 ++ (lw_privs_6 ++ (lw_privs_7 ++ (lw_privs_8 ++ (lw_privs_9))))))))
def lw_tbl : List Cond := k2_sels lw_privs ++ tables_1
theorem lw_privs_ok : ∀ q ∈ lw_privs, lw_okq q := by
  show ∀ q ∈ lw_privs_1 ++ (lw_privs_2 ++ (lw_privs_3 ++ (lw_privs_4 ++ (lw_privs_5 ++ (lw_privs_6 ++ (lw_privs_7 ++ (lw_privs_8 ++ (lw_privs_9)))))))), lw_okq q
  exact List.forall_mem_append.mpr ⟨lw_r1, List.forall_mem_append.mpr ⟨lw_r2, List.forall_mem_append.mpr ⟨lw_r3, List.forall_mem_append.mpr ⟨lw_r4, List.forall_mem_append.mpr ⟨lw_r5, List.forall_mem_append.mpr ⟨lw_r6, List.forall_mem_append.mpr ⟨lw_r7, List.forall_mem_append.mpr ⟨lw_r8, lw_r9⟩⟩⟩⟩⟩⟩⟩⟩
end
section
def RX0 : String := "WindCabinet$Course"
def TX0 : u_T := fun k => match k with
  | 0 => ("WindCabinet$Course", "sky", "LWindCabinet$Sky;", true)
  | 1 => ("WindCabinet$Course", "season", "I", false)
  | 2 => ("WindCabinet$Course", "there", "I", false)
  | 3 => ("WindCabinet$Course", "resigned", "I", false)
  | 4 => ("WindCabinet$Course", "anger", "[I", true)
  | 5 => ("WindCabinet$Course", "offices", "[I", true)
  | 6 => ("WindCabinet$Course", "days", "I", false)
  | 7 => ("WindCabinet$Course", "committees", "I", false)
  | 8 => ("WindCabinet$Course", "latest", "I", false)
  | 9 => ("WindCabinet$Course", "rain", "I", false)
  | 10 => ("WindCabinet$Course", "longestDry", "I", false)
  | 11 => ("WindCabinet$Course", "dry", "I", false)
  | _ => ("WindCabinet$Course", "chance", "I", false)
def tyX0 : Nat → FieldType := fun k => match k with
  | 0 => .object "WindCabinet$Sky"
  | 1 => .int
  | 2 => .int
  | 3 => .int
  | 4 => .array .int
  | 5 => .array .int
  | 6 => .int
  | 7 => .int
  | 8 => .int
  | 9 => .int
  | 10 => .int
  | 11 => .int
  | _ => .int
abbrev wsX00 : List Cond := u_ws RX0 TX0 13
theorem nmX0 : ∀ a, a < 13 → ∀ b, b < 13 → a ≠ b → (TX0 a).2.1 ≠ (TX0 b).2.1 := by decide +kernel
theorem tyX0_ok : ∀ k, k < 13 → parseFieldDescriptor (TX0 k).2.2.1 = some (tyX0 k) := by decide +kernel
abbrev cX0_init : ByteArray := prog_2_method_1_code
def yX0_init : MethodName := ⟨RX0, "<init>", "()V"⟩
abbrev cX0_open : ByteArray := prog_2_method_2_code
def yX0_open : MethodName := ⟨RX0, "open", "(LWindCabinet$Republic;)V"⟩
abbrev cX0_run : ByteArray := prog_2_method_3_code
def yX0_run : MethodName := ⟨RX0, "run", "(LWindCabinet$Republic;LWindCabinet$Rows;LWindCabinet$Rows;I)I"⟩
abbrev cX0_happens : ByteArray := prog_2_method_4_code
def yX0_happens : MethodName := ⟨RX0, "happens", "(LWindCabinet$Republic;LWindCabinet$Rows;LWindCabinet$Rows;I)Z"⟩
abbrev cX0_takesOffice : ByteArray := prog_2_method_5_code
def yX0_takesOffice : MethodName := ⟨RX0, "takesOffice", "(II)Z"⟩
abbrev cX0_isDismissed : ByteArray := prog_2_method_6_code
def yX0_isDismissed : MethodName := ⟨RX0, "isDismissed", "(I)Z"⟩
abbrev cX0_isRecalled : ByteArray := prog_2_method_7_code
def yX0_isRecalled : MethodName := ⟨RX0, "isRecalled", "(LWindCabinet$Republic;I)Z"⟩
abbrev cX0_decide : ByteArray := prog_2_method_8_code
def yX0_decide : MethodName := ⟨RX0, "decide", "(LWindCabinet$Republic;II)V"⟩
abbrev cX0_bear : ByteArray := prog_2_method_9_code
def yX0_bear : MethodName := ⟨RX0, "bear", "(LWindCabinet$Republic;IZ)V"⟩
abbrev cX0_committee : ByteArray := prog_2_method_10_code
def yX0_committee : MethodName := ⟨RX0, "committee", "()V"⟩
abbrev cX0_record : ByteArray := prog_2_method_11_code
def yX0_record : MethodName := ⟨RX0, "record", "(I)V"⟩
abbrev cX0_draw : ByteArray := prog_2_method_12_code
def yX0_draw : MethodName := ⟨RX0, "draw", "(LWindCabinet$Republic;II)V"⟩
abbrev cX0_drawMotion : ByteArray := prog_2_method_13_code
def yX0_drawMotion : MethodName := ⟨RX0, "drawMotion", "(LWindCabinet$Republic;)V"⟩
abbrev cX0_oneThere : ByteArray := prog_2_method_14_code
def yX0_oneThere : MethodName := ⟨RX0, "oneThere", "(I)I"⟩
abbrev cX0_drawBelow : ByteArray := prog_2_method_15_code
def yX0_drawBelow : MethodName := ⟨RX0, "drawBelow", "(I)I"⟩
def RX1 : String := "WindCabinet$Reader"
def TX1 : u_T := fun k => match k with
  | 0 => ("WindCabinet$Reader", "republic", "LWindCabinet$Republic;", true)
  | 1 => ("WindCabinet$Reader", "rows", "LWindCabinet$Rows;", true)
  | 2 => ("WindCabinet$Reader", "fault", "I", false)
  | 3 => ("WindCabinet$Reader", "place", "I", false)
  | 4 => ("WindCabinet$Reader", "tape", "[I", true)
  | 5 => ("WindCabinet$Reader", "parts", "[I", true)
  | 6 => ("WindCabinet$Reader", "length", "I", false)
  | 7 => ("WindCabinet$Reader", "token", "I", false)
  | 8 => ("WindCabinet$Reader", "start", "I", false)
  | 9 => ("WindCabinet$Reader", "end", "I", false)
  | 10 => ("WindCabinet$Reader", "lines", "I", false)
  | _ => ("WindCabinet$Reader", "toldOf", "I", false)
def tyX1 : Nat → FieldType := fun k => match k with
  | 0 => .object "WindCabinet$Republic"
  | 1 => .object "WindCabinet$Rows"
  | 2 => .int
  | 3 => .int
  | 4 => .array .int
  | 5 => .array .int
  | 6 => .int
  | 7 => .int
  | 8 => .int
  | 9 => .int
  | 10 => .int
  | _ => .int
abbrev wsX10 : List Cond := u_ws RX1 TX1 12
theorem nmX1 : ∀ a, a < 12 → ∀ b, b < 12 → a ≠ b → (TX1 a).2.1 ≠ (TX1 b).2.1 := by decide +kernel
theorem tyX1_ok : ∀ k, k < 12 → parseFieldDescriptor (TX1 k).2.2.1 = some (tyX1 k) := by decide +kernel
abbrev cX1_init : ByteArray := prog_3_method_1_code
def yX1_init : MethodName := ⟨RX1, "<init>", "()V"⟩
abbrev cX1_read : ByteArray := prog_3_method_2_code
def yX1_read : MethodName := ⟨RX1, "read", "([III)V"⟩
abbrev cX1_startOn : ByteArray := prog_3_method_3_code
def yX1_startOn : MethodName := ⟨RX1, "startOn", "(I)V"⟩
abbrev cX1_note : ByteArray := prog_3_method_4_code
def yX1_note : MethodName := ⟨RX1, "note", "(II)V"⟩
abbrev cX1_refuse : ByteArray := prog_3_method_5_code
def yX1_refuse : MethodName := ⟨RX1, "refuse", "()Z"⟩
abbrev cX1_wordsOf : ByteArray := prog_3_method_6_code
def yX1_wordsOf : MethodName := ⟨RX1, "wordsOf", "(I)Ljava/lang/String;"⟩
abbrev cX1_formsOf : ByteArray := prog_3_method_7_code
def yX1_formsOf : MethodName := ⟨RX1, "formsOf", "(I)Ljava/lang/String;"⟩
abbrev cX1_readLine : ByteArray := prog_3_method_8_code
def yX1_readLine : MethodName := ⟨RX1, "readLine", "(I)Z"⟩
abbrev cX1_countLine : ByteArray := prog_3_method_9_code
def yX1_countLine : MethodName := ⟨RX1, "countLine", "(II)V"⟩
abbrev cX1_readPart : ByteArray := prog_3_method_10_code
def yX1_readPart : MethodName := ⟨RX1, "readPart", "(CI)Z"⟩
abbrev cX1_choicesOf : ByteArray := prog_3_method_11_code
def yX1_choicesOf : MethodName := ⟨RX1, "choicesOf", "(C)Ljava/lang/String;"⟩
abbrev cX1_readSemicolon : ByteArray := prog_3_method_12_code
def yX1_readSemicolon : MethodName := ⟨RX1, "readSemicolon", "()Z"⟩
abbrev cX1_readNumber : ByteArray := prog_3_method_13_code
def yX1_readNumber : MethodName := ⟨RX1, "readNumber", "(CI)Z"⟩
abbrev cX1_leastOf : ByteArray := prog_3_method_14_code
def yX1_leastOf : MethodName := ⟨RX1, "leastOf", "(C)I"⟩
abbrev cX1_mostOf : ByteArray := prog_3_method_15_code
def yX1_mostOf : MethodName := ⟨RX1, "mostOf", "(C)I"⟩
abbrev cX1_take : ByteArray := prog_3_method_16_code
def yX1_take : MethodName := ⟨RX1, "take", "(II)V"⟩
abbrev cX1_takeToldOf : ByteArray := prog_3_method_17_code
def yX1_takeToldOf : MethodName := ⟨RX1, "takeToldOf", "(I)V"⟩
abbrev cX1_takeOrder : ByteArray := prog_3_method_18_code
def yX1_takeOrder : MethodName := ⟨RX1, "takeOrder", "(I)V"⟩
abbrev cX1_chosen : ByteArray := prog_3_method_19_code
def yX1_chosen : MethodName := ⟨RX1, "chosen", "(Ljava/lang/String;)I"⟩
abbrev cX1_isToken : ByteArray := prog_3_method_20_code
def yX1_isToken : MethodName := ⟨RX1, "isToken", "(Ljava/lang/String;II)Z"⟩
abbrev cX1_startOf : ByteArray := prog_3_method_21_code
def yX1_startOf : MethodName := ⟨RX1, "startOf", "(Ljava/lang/String;I)I"⟩
abbrev cX1_advance : ByteArray := prog_3_method_22_code
def yX1_advance : MethodName := ⟨RX1, "advance", "()V"⟩
abbrev cX1_isBlank : ByteArray := prog_3_method_23_code
def yX1_isBlank : MethodName := ⟨RX1, "isBlank", "(I)Z"⟩
abbrev cX1_isLetter : ByteArray := prog_3_method_24_code
def yX1_isLetter : MethodName := ⟨RX1, "isLetter", "(I)Z"⟩
abbrev cX1_isDigit : ByteArray := prog_3_method_25_code
def yX1_isDigit : MethodName := ⟨RX1, "isDigit", "(I)Z"⟩
def RX2 : String := "WindCabinet$Republic"
def TX2 : u_T := fun k => match k with
  | 0 => ("WindCabinet$Republic", "size", "I", false)
  | 1 => ("WindCabinet$Republic", "votes", "[I", true)
  | 2 => ("WindCabinet$Republic", "yields", "[I", true)
  | 3 => ("WindCabinet$Republic", "tempers", "[I", true)
  | 4 => ("WindCabinet$Republic", "prices", "[I", true)
  | 5 => ("WindCabinet$Republic", "wants", "[I", true)
  | 6 => ("WindCabinet$Republic", "feuds", "[I", true)
  | 7 => ("WindCabinet$Republic", "offices", "[I", true)
  | 8 => ("WindCabinet$Republic", "vetoes", "I", false)
  | 9 => ("WindCabinet$Republic", "quota", "I", false)
  | 10 => ("WindCabinet$Republic", "spite", "I", false)
  | 11 => ("WindCabinet$Republic", "cloud", "I", false)
  | 12 => ("WindCabinet$Republic", "ground", "I", false)
  | _ => ("WindCabinet$Republic", "heat", "I", false)
def tyX2 : Nat → FieldType := fun k => match k with
  | 0 => .int
  | 1 => .array .int
  | 2 => .array .int
  | 3 => .array .int
  | 4 => .array .int
  | 5 => .array .int
  | 6 => .array .int
  | 7 => .array .int
  | 8 => .int
  | 9 => .int
  | 10 => .int
  | 11 => .int
  | 12 => .int
  | _ => .int
abbrev wsX20 : List Cond := u_ws RX2 TX2 14
theorem nmX2 : ∀ a, a < 14 → ∀ b, b < 14 → a ≠ b → (TX2 a).2.1 ≠ (TX2 b).2.1 := by decide +kernel
theorem tyX2_ok : ∀ k, k < 14 → parseFieldDescriptor (TX2 k).2.2.1 = some (tyX2 k) := by decide +kernel
abbrev cX2_init : ByteArray := prog_4_method_1_code
def yX2_init : MethodName := ⟨RX2, "<init>", "()V"⟩
abbrev cX2_clear : ByteArray := prog_4_method_2_code
def yX2_clear : MethodName := ⟨RX2, "clear", "()V"⟩
abbrev cX2_copyRepublic : ByteArray := prog_4_method_3_code
def yX2_copyRepublic : MethodName := ⟨RX2, "copyRepublic", "(LWindCabinet$Republic;)V"⟩
abbrev cX2_takeLine : ByteArray := prog_4_method_4_code
def yX2_takeLine : MethodName := ⟨RX2, "takeLine", "(I[I)V"⟩
abbrev cX2_addMinister : ByteArray := prog_4_method_5_code
def yX2_addMinister : MethodName := ⟨RX2, "addMinister", "([I)V"⟩
abbrev cX2_setNumber : ByteArray := prog_4_method_6_code
def yX2_setNumber : MethodName := ⟨RX2, "setNumber", "(II)V"⟩
abbrev cX2_isMinister : ByteArray := prog_4_method_7_code
def yX2_isMinister : MethodName := ⟨RX2, "isMinister", "(I)Z"⟩
abbrev cX2_everybody : ByteArray := prog_4_method_8_code
def yX2_everybody : MethodName := ⟨RX2, "everybody", "()I"⟩
abbrev cX2_want : ByteArray := prog_4_method_9_code
def yX2_want : MethodName := ⟨RX2, "want", "(II)I"⟩
abbrev cX2_distance : ByteArray := prog_4_method_10_code
def yX2_distance : MethodName := ⟨RX2, "distance", "(III)I"⟩
abbrev cX2_patience : ByteArray := prog_4_method_11_code
def yX2_patience : MethodName := ⟨RX2, "patience", "(II)I"⟩
abbrev cX2_agreeing : ByteArray := prog_4_method_12_code
def yX2_agreeing : MethodName := ⟨RX2, "agreeing", "(III)I"⟩
abbrev cX2_votesOf : ByteArray := prog_4_method_13_code
def yX2_votesOf : MethodName := ⟨RX2, "votesOf", "(I)I"⟩
abbrev cX2_isPassed : ByteArray := prog_4_method_14_code
def yX2_isPassed : MethodName := ⟨RX2, "isPassed", "(II)Z"⟩
abbrev cX2_areSeats : ByteArray := prog_4_method_15_code
def yX2_areSeats : MethodName := ⟨RX2, "areSeats", "(I)Z"⟩
abbrev cX2_proposal : ByteArray := prog_4_method_16_code
def yX2_proposal : MethodName := ⟨RX2, "proposal", "(II)I"⟩
def RX3 : String := "WindCabinet$Rows"
def TX3 : u_T := fun k => match k with
  | 0 => ("WindCabinet$Rows", "size", "I", false)
  | _ => ("WindCabinet$Rows", "parts", "[I", true)
def tyX3 : Nat → FieldType := fun k => match k with
  | 0 => .int
  | _ => .array .int
abbrev wsX30 : List Cond := u_ws RX3 TX3 2
theorem nmX3 : ∀ a, a < 2 → ∀ b, b < 2 → a ≠ b → (TX3 a).2.1 ≠ (TX3 b).2.1 := by decide +kernel
theorem tyX3_ok : ∀ k, k < 2 → parseFieldDescriptor (TX3 k).2.2.1 = some (tyX3 k) := by decide +kernel
abbrev cX3_init : ByteArray := prog_5_method_1_code
def yX3_init : MethodName := ⟨RX3, "<init>", "()V"⟩
abbrev cX3_clear : ByteArray := prog_5_method_2_code
def yX3_clear : MethodName := ⟨RX3, "clear", "()V"⟩
abbrev cX3_copyRows : ByteArray := prog_5_method_3_code
def yX3_copyRows : MethodName := ⟨RX3, "copyRows", "(LWindCabinet$Rows;)V"⟩
abbrev cX3_part : ByteArray := prog_5_method_4_code
def yX3_part : MethodName := ⟨RX3, "part", "(II)I"⟩
abbrev cX3_set : ByteArray := prog_5_method_5_code
def yX3_set : MethodName := ⟨RX3, "set", "(III)V"⟩
abbrev cX3_dayFrom : ByteArray := prog_5_method_6_code
def yX3_dayFrom : MethodName := ⟨RX3, "dayFrom", "(II)I"⟩
abbrev cX3_add : ByteArray := prog_5_method_7_code
def yX3_add : MethodName := ⟨RX3, "add", "(I[II)V"⟩
def RX4 : String := "WindCabinet$Sky"
def TX4 : u_T := fun k => match k with
  | 0 => ("WindCabinet$Sky", "cloud", "I", false)
  | 1 => ("WindCabinet$Sky", "ground", "I", false)
  | _ => ("WindCabinet$Sky", "heat", "I", false)
def tyX4 : Nat → FieldType := fun k => match k with
  | 0 => .int
  | 1 => .int
  | _ => .int
abbrev wsX40 : List Cond := u_ws RX4 TX4 3
theorem nmX4 : ∀ a, a < 3 → ∀ b, b < 3 → a ≠ b → (TX4 a).2.1 ≠ (TX4 b).2.1 := by decide +kernel
theorem tyX4_ok : ∀ k, k < 3 → parseFieldDescriptor (TX4 k).2.2.1 = some (tyX4 k) := by decide +kernel
abbrev cX4_init : ByteArray := prog_6_method_1_code
def yX4_init : MethodName := ⟨RX4, "<init>", "()V"⟩
abbrev cX4_settle : ByteArray := prog_6_method_2_code
def yX4_settle : MethodName := ⟨RX4, "settle", "(LWindCabinet$Republic;)V"⟩
abbrev cX4_can : ByteArray := prog_6_method_3_code
def yX4_can : MethodName := ⟨RX4, "can", "(I)Z"⟩
abbrev cX4_bring : ByteArray := prog_6_method_4_code
def yX4_bring : MethodName := ⟨RX4, "bring", "(I)V"⟩
def RX5 : String := "WindCabinet$Told"
def TX5 : u_T := fun k => match k with
  | 0 => ("WindCabinet$Told", "tape", "[I", true)
  | 1 => ("WindCabinet$Told", "length", "I", false)
  | 2 => ("WindCabinet$Told", "fault", "I", false)
  | 3 => ("WindCabinet$Told", "place", "I", false)
  | 4 => ("WindCabinet$Told", "counts", "[I", true)
  | 5 => ("WindCabinet$Told", "republics", "[LWindCabinet$Republic;", true)
  | _ => ("WindCabinet$Told", "rows", "[LWindCabinet$Rows;", true)
def tyX5 : Nat → FieldType := fun k => match k with
  | 0 => .array .int
  | 1 => .int
  | 2 => .int
  | 3 => .int
  | 4 => .array .int
  | 5 => .array (.object "WindCabinet$Republic")
  | _ => .array (.object "WindCabinet$Rows")
abbrev wsX50 : List Cond := u_ws RX5 TX5 7
theorem nmX5 : ∀ a, a < 7 → ∀ b, b < 7 → a ≠ b → (TX5 a).2.1 ≠ (TX5 b).2.1 := by decide +kernel
theorem tyX5_ok : ∀ k, k < 7 → parseFieldDescriptor (TX5 k).2.2.1 = some (tyX5 k) := by decide +kernel
abbrev cX5_init : ByteArray := prog_7_method_1_code
def yX5_init : MethodName := ⟨RX5, "<init>", "()V"⟩
abbrev cX5_republicKept : ByteArray := prog_7_method_2_code
def yX5_republicKept : MethodName := ⟨RX5, "republicKept", "(I)LWindCabinet$Republic;"⟩
abbrev cX5_rowsKept : ByteArray := prog_7_method_3_code
def yX5_rowsKept : MethodName := ⟨RX5, "rowsKept", "(II)LWindCabinet$Rows;"⟩
abbrev cX5_copyTold : ByteArray := prog_7_method_4_code
def yX5_copyTold : MethodName := ⟨RX5, "copyTold", "(LWindCabinet$Told;)V"⟩
def RX6 : String := "WindCabinet"
def TX6 : u_T := fun k => match k with
  | 0 => ("WindCabinet", "told", "LWindCabinet$Told;", true)
  | 1 => ("WindCabinet", "images", "[LWindCabinet$Told;", true)
  | 2 => ("WindCabinet", "reader", "LWindCabinet$Reader;", true)
  | 3 => ("WindCabinet", "course", "LWindCabinet$Course;", true)
  | 4 => ("WindCabinet", "sky", "LWindCabinet$Sky;", true)
  | 5 => ("WindCabinet", "rainLeft", "[I", true)
  | 6 => ("WindCabinet", "fitting", "[I", true)
  | _ => ("WindCabinet", "seen", "[I", true)
def tyX6 : Nat → FieldType := fun k => match k with
  | 0 => .object "WindCabinet$Told"
  | 1 => .array (.object "WindCabinet$Told")
  | 2 => .object "WindCabinet$Reader"
  | 3 => .object "WindCabinet$Course"
  | 4 => .object "WindCabinet$Sky"
  | 5 => .array .int
  | 6 => .array .int
  | _ => .array .int
abbrev wsX60 : List Cond := u_ws RX6 TX6 8
theorem nmX6 : ∀ a, a < 8 → ∀ b, b < 8 → a ≠ b → (TX6 a).2.1 ≠ (TX6 b).2.1 := by decide +kernel
theorem tyX6_ok : ∀ k, k < 8 → parseFieldDescriptor (TX6 k).2.2.1 = some (tyX6 k) := by decide +kernel
abbrev cX6_init : ByteArray := prog_1_method_1_code
def yX6_init : MethodName := ⟨RX6, "<init>", "()V"⟩
abbrev cX6_feed : ByteArray := prog_1_method_2_code
def yX6_feed : MethodName := ⟨RX6, "feed", "(IIIII)I"⟩
abbrev cX6_feedNumber : ByteArray := prog_1_method_3_code
def yX6_feedNumber : MethodName := ⟨RX6, "feedNumber", "(I)V"⟩
abbrev cX6_end : ByteArray := prog_1_method_4_code
def yX6_end : MethodName := ⟨RX6, "end", "(I)I"⟩
abbrev cX6_text : ByteArray := prog_1_method_5_code
def yX6_text : MethodName := ⟨RX6, "text", "(II)I"⟩
abbrev cX6_placeFor : ByteArray := prog_1_method_6_code
def yX6_placeFor : MethodName := ⟨RX6, "placeFor", "(II)I"⟩
abbrev cX6_keep : ByteArray := prog_1_method_7_code
def yX6_keep : MethodName := ⟨RX6, "keep", "(II)V"⟩
abbrev cX6_fault : ByteArray := prog_1_method_8_code
def yX6_fault : MethodName := ⟨RX6, "fault", "(I)I"⟩
abbrev cX6_count : ByteArray := prog_1_method_9_code
def yX6_count : MethodName := ⟨RX6, "count", "(I)I"⟩
abbrev cX6_image : ByteArray := prog_1_method_10_code
def yX6_image : MethodName := ⟨RX6, "image", "(I)Z"⟩
abbrev cX6_again : ByteArray := prog_1_method_11_code
def yX6_again : MethodName := ⟨RX6, "again", "(I)Z"⟩
abbrev cX6_republicAt : ByteArray := prog_1_method_12_code
def yX6_republicAt : MethodName := ⟨RX6, "republicAt", "(I)LWindCabinet$Republic;"⟩
abbrev cX6_rowsAt : ByteArray := prog_1_method_13_code
def yX6_rowsAt : MethodName := ⟨RX6, "rowsAt", "(II)LWindCabinet$Rows;"⟩
abbrev cX6_republic : ByteArray := prog_1_method_14_code
def yX6_republic : MethodName := ⟨RX6, "republic", "(II)I"⟩
abbrev cX6_minister : ByteArray := prog_1_method_15_code
def yX6_minister : MethodName := ⟨RX6, "minister", "(III)I"⟩
abbrev cX6_order : ByteArray := prog_1_method_16_code
def yX6_order : MethodName := ⟨RX6, "order", "(III)I"⟩
abbrev cX6_deed : ByteArray := prog_1_method_17_code
def yX6_deed : MethodName := ⟨RX6, "deed", "(III)I"⟩
abbrev cX6_leak : ByteArray := prog_1_method_18_code
def yX6_leak : MethodName := ⟨RX6, "leak", "(III)I"⟩
abbrev cX6_was : ByteArray := prog_1_method_19_code
def yX6_was : MethodName := ⟨RX6, "was", "(III)I"⟩
abbrev cX6_rowTold : ByteArray := prog_1_method_20_code
def yX6_rowTold : MethodName := ⟨RX6, "rowTold", "(LWindCabinet$Rows;III)I"⟩
abbrev cX6_movedIn : ByteArray := prog_1_method_21_code
def yX6_movedIn : MethodName := ⟨RX6, "movedIn", "(IIII)LWindCabinet$Republic;"⟩
abbrev cX6_off : ByteArray := prog_1_method_22_code
def yX6_off : MethodName := ⟨RX6, "off", "(IIIIII)I"⟩
abbrev cX6_vote : ByteArray := prog_1_method_23_code
def yX6_vote : MethodName := ⟨RX6, "vote", "(IIIIIIZ)I"⟩
abbrev cX6_broken : ByteArray := prog_1_method_24_code
def yX6_broken : MethodName := ⟨RX6, "broken", "(IIIIII)I"⟩
abbrev cX6_firstBroken : ByteArray := prog_1_method_25_code
def yX6_firstBroken : MethodName := ⟨RX6, "firstBroken", "(LWindCabinet$Rows;III)I"⟩
abbrev cX6_isBroken : ByteArray := prog_1_method_26_code
def yX6_isBroken : MethodName := ⟨RX6, "isBroken", "(LWindCabinet$Rows;IIII)Z"⟩
abbrev cX6_stop : ByteArray := prog_1_method_27_code
def yX6_stop : MethodName := ⟨RX6, "stop", "(III)I"⟩
abbrev cX6_state : ByteArray := prog_1_method_28_code
def yX6_state : MethodName := ⟨RX6, "state", "(IIIII)I"⟩
abbrev cX6_stateTold : ByteArray := prog_1_method_29_code
def yX6_stateTold : MethodName := ⟨RX6, "stateTold", "(LWindCabinet$Republic;I)I"⟩
abbrev cX6_drawn : ByteArray := prog_1_method_30_code
def yX6_drawn : MethodName := ⟨RX6, "drawn", "(IIII)I"⟩
abbrev cX6_agreed : ByteArray := prog_1_method_31_code
def yX6_agreed : MethodName := ⟨RX6, "agreed", "(IIIII)I"⟩
abbrev cX6_isAgreed : ByteArray := prog_1_method_32_code
def yX6_isAgreed : MethodName := ⟨RX6, "isAgreed", "(LWindCabinet$Republic;LWindCabinet$Rows;III)Z"⟩
abbrev cX6_manyAgreed : ByteArray := prog_1_method_33_code
def yX6_manyAgreed : MethodName := ⟨RX6, "manyAgreed", "(LWindCabinet$Republic;LWindCabinet$Rows;II)I"⟩
abbrev cX6_bestAgreed : ByteArray := prog_1_method_34_code
def yX6_bestAgreed : MethodName := ⟨RX6, "bestAgreed", "(LWindCabinet$Republic;LWindCabinet$Rows;IIZ)I"⟩
abbrev cX6_rank : ByteArray := prog_1_method_35_code
def yX6_rank : MethodName := ⟨RX6, "rank", "(IZ)I"⟩
abbrev cX6_power : ByteArray := prog_1_method_36_code
def yX6_power : MethodName := ⟨RX6, "power", "(IIZ)I"⟩
abbrev cX6_rowsDecided : ByteArray := prog_1_method_37_code
def yX6_rowsDecided : MethodName := ⟨RX6, "rowsDecided", "(LWindCabinet$Republic;I)I"⟩
abbrev cX6_coalition : ByteArray := prog_1_method_38_code
def yX6_coalition : MethodName := ⟨RX6, "coalition", "(II)I"⟩
abbrev cX6_keyMinisters : ByteArray := prog_1_method_39_code
def yX6_keyMinisters : MethodName := ⟨RX6, "keyMinisters", "(LWindCabinet$Republic;)I"⟩
abbrev cX6_leastCoalition : ByteArray := prog_1_method_40_code
def yX6_leastCoalition : MethodName := ⟨RX6, "leastCoalition", "(LWindCabinet$Republic;I)I"⟩
abbrev cX6_isLeastCoalition : ByteArray := prog_1_method_41_code
def yX6_isLeastCoalition : MethodName := ⟨RX6, "isLeastCoalition", "(LWindCabinet$Republic;I)Z"⟩
abbrev cX6_bribe : ByteArray := prog_1_method_42_code
def yX6_bribe : MethodName := ⟨RX6, "bribe", "(IIIIIIZ)I"⟩
abbrev cX6_bribeOf : ByteArray := prog_1_method_43_code
def yX6_bribeOf : MethodName := ⟨RX6, "bribeOf", "(LWindCabinet$Republic;IIII)I"⟩
abbrev cX6_lobby : ByteArray := prog_1_method_44_code
def yX6_lobby : MethodName := ⟨RX6, "lobby", "(IIIIIII)I"⟩
abbrev cX6_isRest : ByteArray := prog_1_method_45_code
def yX6_isRest : MethodName := ⟨RX6, "isRest", "(LWindCabinet$Republic;III)Z"⟩
abbrev cX6_gain : ByteArray := prog_1_method_46_code
def yX6_gain : MethodName := ⟨RX6, "gain", "(LWindCabinet$Republic;IIIZ)I"⟩
abbrev cX6_boughtBy : ByteArray := prog_1_method_47_code
def yX6_boughtBy : MethodName := ⟨RX6, "boughtBy", "(LWindCabinet$Republic;III)I"⟩
abbrev cX6_bargain : ByteArray := prog_1_method_48_code
def yX6_bargain : MethodName := ⟨RX6, "bargain", "(III)I"⟩
abbrev cX6_leavers : ByteArray := prog_1_method_49_code
def yX6_leavers : MethodName := ⟨RX6, "leavers", "(LWindCabinet$Republic;LWindCabinet$Rows;Z)I"⟩
abbrev cX6_sharesOf : ByteArray := prog_1_method_50_code
def yX6_sharesOf : MethodName := ⟨RX6, "sharesOf", "(LWindCabinet$Republic;LWindCabinet$Rows;I)I"⟩
abbrev cX6_nature : ByteArray := prog_1_method_51_code
def yX6_nature : MethodName := ⟨RX6, "nature", "(III)I"⟩
abbrev cX6_firstWrong : ByteArray := prog_1_method_52_code
def yX6_firstWrong : MethodName := ⟨RX6, "firstWrong", "(LWindCabinet$Republic;LWindCabinet$Rows;)I"⟩
abbrev cX6_mend : ByteArray := prog_1_method_53_code
def yX6_mend : MethodName := ⟨RX6, "mend", "(LWindCabinet$Republic;LWindCabinet$Rows;)I"⟩
abbrev cX6_seats : ByteArray := prog_1_method_54_code
def yX6_seats : MethodName := ⟨RX6, "seats", "(III)I"⟩
abbrev cX6_findFitting : ByteArray := prog_1_method_55_code
def yX6_findFitting : MethodName := ⟨RX6, "findFitting", "(LWindCabinet$Republic;LWindCabinet$Rows;)I"⟩
abbrev cX6_isFit : ByteArray := prog_1_method_56_code
def yX6_isFit : MethodName := ⟨RX6, "isFit", "(LWindCabinet$Republic;LWindCabinet$Rows;I)Z"⟩
abbrev cX6_tellingSeason : ByteArray := prog_1_method_57_code
def yX6_tellingSeason : MethodName := ⟨RX6, "tellingSeason", "(LWindCabinet$Republic;I)I"⟩
abbrev cX6_unlikeProposals : ByteArray := prog_1_method_58_code
def yX6_unlikeProposals : MethodName := ⟨RX6, "unlikeProposals", "(LWindCabinet$Republic;II)I"⟩
abbrev cX6_reshuffle : ByteArray := prog_1_method_59_code
def yX6_reshuffle : MethodName := ⟨RX6, "reshuffle", "(IZ)I"⟩
abbrev cX6_wetSeasons : ByteArray := prog_1_method_60_code
def yX6_wetSeasons : MethodName := ⟨RX6, "wetSeasons", "(LWindCabinet$Republic;I)I"⟩
abbrev cX6_fits : ByteArray := prog_1_method_61_code
def yX6_fits : MethodName := ⟨RX6, "fits", "(IIIII)I"⟩
abbrev cX6_areThere : ByteArray := prog_1_method_62_code
def yX6_areThere : MethodName := ⟨RX6, "areThere", "(LWindCabinet$Republic;LWindCabinet$Rows;)Z"⟩
abbrev cX6_unfit : ByteArray := prog_1_method_63_code
def yX6_unfit : MethodName := ⟨RX6, "unfit", "(LWindCabinet$Republic;LWindCabinet$Rows;III)I"⟩
abbrev cX6_manyFitting : ByteArray := prog_1_method_64_code
def yX6_manyFitting : MethodName := ⟨RX6, "manyFitting", "(LWindCabinet$Republic;LWindCabinet$Rows;IIZ)I"⟩
abbrev cX6_likelyRain : ByteArray := prog_1_method_65_code
def yX6_likelyRain : MethodName := ⟨RX6, "likelyRain", "(LWindCabinet$Republic;LWindCabinet$Rows;IIZ)I"⟩
abbrev cX6_extreme : ByteArray := prog_1_method_66_code
def yX6_extreme : MethodName := ⟨RX6, "extreme", "(LWindCabinet$Republic;LWindCabinet$Rows;IIIZ)I"⟩
abbrev cX6_lies : ByteArray := prog_1_method_67_code
def yX6_lies : MethodName := ⟨RX6, "lies", "(LWindCabinet$Republic;LWindCabinet$Rows;II)I"⟩
abbrev cX6_isSeason : ByteArray := prog_1_method_68_code
def yX6_isSeason : MethodName := ⟨RX6, "isSeason", "(I)Z"⟩
abbrev cX6_isAmount : ByteArray := prog_1_method_69_code
def yX6_isAmount : MethodName := ⟨RX6, "isAmount", "(I)Z"⟩
abbrev cX6_dayOf : ByteArray := prog_1_method_70_code
def yX6_dayOf : MethodName := ⟨RX6, "dayOf", "(III)I"⟩
abbrev cX6_numberOf : ByteArray := prog_1_method_71_code
def yX6_numberOf : MethodName := ⟨RX6, "numberOf", "(III)I"⟩
abbrev cX6_amount : ByteArray := prog_1_method_72_code
def yX6_amount : MethodName := ⟨RX6, "amount", "(II)I"⟩
abbrev cX6_has : ByteArray := prog_1_method_73_code
def yX6_has : MethodName := ⟨RX6, "has", "(II)Z"⟩
abbrev cX6_cell : ByteArray := prog_1_method_74_code
def yX6_cell : MethodName := ⟨RX6, "cell", "([II)I"⟩
abbrev cX6_put : ByteArray := prog_1_method_75_code
def yX6_put : MethodName := ⟨RX6, "put", "([III)V"⟩
abbrev cX6_copy : ByteArray := prog_1_method_76_code
def yX6_copy : MethodName := ⟨RX6, "copy", "([I[I)V"⟩
abbrev cX6_fraction : ByteArray := prog_1_method_77_code
def yX6_fraction : MethodName := ⟨RX6, "fraction", "(IIZ)I"⟩
abbrev cX6_commonDivisor : ByteArray := prog_1_method_78_code
def yX6_commonDivisor : MethodName := ⟨RX6, "commonDivisor", "(II)I"⟩
def RX7 : String := "WindCabinetModel"
def TX7 : u_T := fun k => match k with
  | 0 => ("WindCabinetModel", "all", "[I", true)
  | 1 => ("WindCabinetModel", "has", "[Z", true)
  | 2 => ("WindCabinetModel", "size", "I", false)
  | 3 => ("WindCabinetModel", "next", "I", false)
  | 4 => ("WindCabinetModel", "where", "I", false)
  | 5 => ("WindCabinetModel", "token", "I", false)
  | 6 => ("WindCabinetModel", "number", "I", false)
  | 7 => ("WindCabinetModel", "word", "I", false)
  | 8 => ("WindCabinetModel", "wrong", "Z", false)
  | 9 => ("WindCabinetModel", "greatest", "I", false)
  | 10 => ("WindCabinetModel", "read", "[I", true)
  | 11 => ("WindCabinetModel", "r0", "I", false)
  | 12 => ("WindCabinetModel", "rain", "I", false)
  | 13 => ("WindCabinetModel", "wind", "I", false)
  | 14 => ("WindCabinetModel", "sun", "I", false)
  | 15 => ("WindCabinetModel", "mover", "I", false)
  | 16 => ("WindCabinetModel", "season", "I", false)
  | 17 => ("WindCabinetModel", "o0", "I", false)
  | 18 => ("WindCabinetModel", "there", "I", false)
  | 19 => ("WindCabinetModel", "resigned", "I", false)
  | 20 => ("WindCabinetModel", "cloud", "I", false)
  | 21 => ("WindCabinetModel", "ground", "I", false)
  | 22 => ("WindCabinetModel", "heat", "I", false)
  | 23 => ("WindCabinetModel", "days", "I", false)
  | 24 => ("WindCabinetModel", "committees", "I", false)
  | 25 => ("WindCabinetModel", "latest", "I", false)
  | 26 => ("WindCabinetModel", "done", "I", false)
  | 27 => ("WindCabinetModel", "office", "[I", true)
  | 28 => ("WindCabinetModel", "anger", "[I", true)
  | 29 => ("WindCabinetModel", "y0", "I", false)
  | 30 => ("WindCabinetModel", "s0", "I", false)
  | 31 => ("WindCabinetModel", "less", "[I", true)
  | 32 => ("WindCabinetModel", "met", "[Z", true)
  | 33 => ("WindCabinetModel", "k0", "I", false)
  | _ => ("WindCabinetModel", "x0", "I", false)
def tyX7 : Nat → FieldType := fun k => match k with
  | 0 => .array .int
  | 1 => .array .boolean
  | 2 => .int
  | 3 => .int
  | 4 => .int
  | 5 => .int
  | 6 => .int
  | 7 => .int
  | 8 => .boolean
  | 9 => .int
  | 10 => .array .int
  | 11 => .int
  | 12 => .int
  | 13 => .int
  | 14 => .int
  | 15 => .int
  | 16 => .int
  | 17 => .int
  | 18 => .int
  | 19 => .int
  | 20 => .int
  | 21 => .int
  | 22 => .int
  | 23 => .int
  | 24 => .int
  | 25 => .int
  | 26 => .int
  | 27 => .array .int
  | 28 => .array .int
  | 29 => .int
  | 30 => .int
  | 31 => .array .int
  | 32 => .array .boolean
  | 33 => .int
  | _ => .int
abbrev wsX70 : List Cond := u_ws RX7 TX7 35
theorem nmX7 : ∀ a, a < 35 → ∀ b, b < 35 → a ≠ b → (TX7 a).2.1 ≠ (TX7 b).2.1 := by decide +kernel
theorem tyX7_ok : ∀ k, k < 35 → parseFieldDescriptor (TX7 k).2.2.1 = some (tyX7 k) := by decide +kernel
abbrev cX7_init : ByteArray := prog_9_method_1_code
def yX7_init : MethodName := ⟨RX7, "<init>", "()V"⟩
abbrev cX7_isIn : ByteArray := prog_9_method_2_code
def yX7_isIn : MethodName := ⟨RX7, "isIn", "(III)Z"⟩
abbrev cX7_feed : ByteArray := prog_9_method_3_code
def yX7_feed : MethodName := ⟨RX7, "feed", "(IIIII)I"⟩
abbrev cX7_end : ByteArray := prog_9_method_4_code
def yX7_end : MethodName := ⟨RX7, "end", "(I)I"⟩
abbrev cX7_byteAt : ByteArray := prog_9_method_5_code
def yX7_byteAt : MethodName := ⟨RX7, "byteAt", "(I)I"⟩
abbrev cX7_isLetter : ByteArray := prog_9_method_6_code
def yX7_isLetter : MethodName := ⟨RX7, "isLetter", "(I)Z"⟩
abbrev cX7_isDigit : ByteArray := prog_9_method_7_code
def yX7_isDigit : MethodName := ⟨RX7, "isDigit", "(I)Z"⟩
abbrev cX7_four : ByteArray := prog_9_method_8_code
def yX7_four : MethodName := ⟨RX7, "four", "(IIII)J"⟩
abbrev cX7_eight : ByteArray := prog_9_method_9_code
def yX7_eight : MethodName := ⟨RX7, "eight", "(IIIIIIII)J"⟩
abbrev cX7_wordOf : ByteArray := prog_9_method_10_code
def yX7_wordOf : MethodName := ⟨RX7, "wordOf", "(J)I"⟩
abbrev cX7_kindOrSeason : ByteArray := prog_9_method_11_code
def yX7_kindOrSeason : MethodName := ⟨RX7, "kindOrSeason", "(J)I"⟩
abbrev cX7_otherWord : ByteArray := prog_9_method_12_code
def yX7_otherWord : MethodName := ⟨RX7, "otherWord", "(J)I"⟩
abbrev cX7_advance : ByteArray := prog_9_method_13_code
def yX7_advance : MethodName := ⟨RX7, "advance", "()V"⟩
abbrev cX7_ends : ByteArray := prog_9_method_14_code
def yX7_ends : MethodName := ⟨RX7, "ends", "()V"⟩
abbrev cX7_also : ByteArray := prog_9_method_15_code
def yX7_also : MethodName := ⟨RX7, "also", "(II)V"⟩
abbrev cX7_numbered : ByteArray := prog_9_method_16_code
def yX7_numbered : MethodName := ⟨RX7, "numbered", "(II)I"⟩
abbrev cX7_takes : ByteArray := prog_9_method_17_code
def yX7_takes : MethodName := ⟨RX7, "takes", "(II)I"⟩
abbrev cX7_endsLine : ByteArray := prog_9_method_18_code
def yX7_endsLine : MethodName := ⟨RX7, "endsLine", "()V"⟩
abbrev cX7_kindTold : ByteArray := prog_9_method_19_code
def yX7_kindTold : MethodName := ⟨RX7, "kindTold", "()I"⟩
abbrev cX7_seasonTold : ByteArray := prog_9_method_20_code
def yX7_seasonTold : MethodName := ⟨RX7, "seasonTold", "()I"⟩
abbrev cX7_ministerTold : ByteArray := prog_9_method_21_code
def yX7_ministerTold : MethodName := ⟨RX7, "ministerTold", "()I"⟩
abbrev cX7_ministerLine : ByteArray := prog_9_method_22_code
def yX7_ministerLine : MethodName := ⟨RX7, "ministerLine", "(I)V"⟩
abbrev cX7_wantLine : ByteArray := prog_9_method_23_code
def yX7_wantLine : MethodName := ⟨RX7, "wantLine", "()V"⟩
abbrev cX7_feudLine : ByteArray := prog_9_method_24_code
def yX7_feudLine : MethodName := ⟨RX7, "feudLine", "()V"⟩
abbrev cX7_republicLine : ByteArray := prog_9_method_25_code
def yX7_republicLine : MethodName := ⟨RX7, "republicLine", "()V"⟩
abbrev cX7_adds : ByteArray := prog_9_method_26_code
def yX7_adds : MethodName := ⟨RX7, "adds", "(IIIIII)V"⟩
abbrev cX7_noLine : ByteArray := prog_9_method_27_code
def yX7_noLine : MethodName := ⟨RX7, "noLine", "()V"⟩
abbrev cX7_orderLine : ByteArray := prog_9_method_28_code
def yX7_orderLine : MethodName := ⟨RX7, "orderLine", "()V"⟩
abbrev cX7_yearLine : ByteArray := prog_9_method_29_code
def yX7_yearLine : MethodName := ⟨RX7, "yearLine", "()V"⟩
abbrev cX7_leakLine : ByteArray := prog_9_method_30_code
def yX7_leakLine : MethodName := ⟨RX7, "leakLine", "()V"⟩
abbrev cX7_summerLine : ByteArray := prog_9_method_31_code
def yX7_summerLine : MethodName := ⟨RX7, "summerLine", "()V"⟩
abbrev cX7_bargainLine : ByteArray := prog_9_method_32_code
def yX7_bargainLine : MethodName := ⟨RX7, "bargainLine", "()V"⟩
abbrev cX7_placeOf : ByteArray := prog_9_method_33_code
def yX7_placeOf : MethodName := ⟨RX7, "placeOf", "(II)I"⟩
abbrev cX7_sizeOf : ByteArray := prog_9_method_34_code
def yX7_sizeOf : MethodName := ⟨RX7, "sizeOf", "(I)I"⟩
abbrev cX7_isOf : ByteArray := prog_9_method_35_code
def yX7_isOf : MethodName := ⟨RX7, "isOf", "(II)Z"⟩
abbrev cX7_clears : ByteArray := prog_9_method_36_code
def yX7_clears : MethodName := ⟨RX7, "clears", "(I)V"⟩
abbrev cX7_text : ByteArray := prog_9_method_37_code
def yX7_text : MethodName := ⟨RX7, "text", "(II)I"⟩
abbrev cX7_fault : ByteArray := prog_9_method_38_code
def yX7_fault : MethodName := ⟨RX7, "fault", "(I)I"⟩
abbrev cX7_isRepublic : ByteArray := prog_9_method_39_code
def yX7_isRepublic : MethodName := ⟨RX7, "isRepublic", "(I)Z"⟩
abbrev cX7_of : ByteArray := prog_9_method_40_code
def yX7_of : MethodName := ⟨RX7, "of", "(I)I"⟩
abbrev cX7_ministers : ByteArray := prog_9_method_41_code
def yX7_ministers : MethodName := ⟨RX7, "ministers", "()I"⟩
abbrev cX7_isMinister : ByteArray := prog_9_method_42_code
def yX7_isMinister : MethodName := ⟨RX7, "isMinister", "(I)Z"⟩
abbrev cX7_ofMinister : ByteArray := prog_9_method_43_code
def yX7_ofMinister : MethodName := ⟨RX7, "ofMinister", "(II)I"⟩
abbrev cX7_wants : ByteArray := prog_9_method_44_code
def yX7_wants : MethodName := ⟨RX7, "wants", "(III)I"⟩
abbrev cX7_republic : ByteArray := prog_9_method_45_code
def yX7_republic : MethodName := ⟨RX7, "republic", "(II)I"⟩
abbrev cX7_minister : ByteArray := prog_9_method_46_code
def yX7_minister : MethodName := ⟨RX7, "minister", "(III)I"⟩
abbrev cX7_amountOf : ByteArray := prog_9_method_47_code
def yX7_amountOf : MethodName := ⟨RX7, "amountOf", "(II)I"⟩
abbrev cX7_talksOf : ByteArray := prog_9_method_48_code
def yX7_talksOf : MethodName := ⟨RX7, "talksOf", "(I)V"⟩
abbrev cX7_size : ByteArray := prog_9_method_49_code
def yX7_size : MethodName := ⟨RX7, "size", "(I)I"⟩
abbrev cX7_offOf : ByteArray := prog_9_method_50_code
def yX7_offOf : MethodName := ⟨RX7, "offOf", "(I)I"⟩
abbrev cX7_yields : ByteArray := prog_9_method_51_code
def yX7_yields : MethodName := ⟨RX7, "yields", "(I)I"⟩
abbrev cX7_agrees : ByteArray := prog_9_method_52_code
def yX7_agrees : MethodName := ⟨RX7, "agrees", "(I)Z"⟩
abbrev cX7_agreeing : ByteArray := prog_9_method_53_code
def yX7_agreeing : MethodName := ⟨RX7, "agreeing", "()I"⟩
abbrev cX7_votesOf : ByteArray := prog_9_method_54_code
def yX7_votesOf : MethodName := ⟨RX7, "votesOf", "(I)I"⟩
abbrev cX7_vetoes : ByteArray := prog_9_method_55_code
def yX7_vetoes : MethodName := ⟨RX7, "vetoes", "()I"⟩
abbrev cX7_isPassed : ByteArray := prog_9_method_56_code
def yX7_isPassed : MethodName := ⟨RX7, "isPassed", "(I)Z"⟩
abbrev cX7_areAmounts : ByteArray := prog_9_method_57_code
def yX7_areAmounts : MethodName := ⟨RX7, "areAmounts", "(III)Z"⟩
abbrev cX7_isMotion : ByteArray := prog_9_method_58_code
def yX7_isMotion : MethodName := ⟨RX7, "isMotion", "(IIIIII)Z"⟩
abbrev cX7_off : ByteArray := prog_9_method_59_code
def yX7_off : MethodName := ⟨RX7, "off", "(IIIIII)I"⟩
abbrev cX7_vote : ByteArray := prog_9_method_60_code
def yX7_vote : MethodName := ⟨RX7, "vote", "(IIIIIIZ)I"⟩
abbrev cX7_areOrders : ByteArray := prog_9_method_61_code
def yX7_areOrders : MethodName := ⟨RX7, "areOrders", "(I)Z"⟩
abbrev cX7_orderOf : ByteArray := prog_9_method_62_code
def yX7_orderOf : MethodName := ⟨RX7, "orderOf", "(II)I"⟩
abbrev cX7_order : ByteArray := prog_9_method_63_code
def yX7_order : MethodName := ⟨RX7, "order", "(III)I"⟩
abbrev cX7_amount : ByteArray := prog_9_method_64_code
def yX7_amount : MethodName := ⟨RX7, "amount", "(I)I"⟩
abbrev cX7_isBroken : ByteArray := prog_9_method_65_code
def yX7_isBroken : MethodName := ⟨RX7, "isBroken", "(II)Z"⟩
abbrev cX7_firstBroken : ByteArray := prog_9_method_66_code
def yX7_firstBroken : MethodName := ⟨RX7, "firstBroken", "(I)I"⟩
abbrev cX7_broken : ByteArray := prog_9_method_67_code
def yX7_broken : MethodName := ⟨RX7, "broken", "(IIIIII)I"⟩
abbrev cX7_begins : ByteArray := prog_9_method_68_code
def yX7_begins : MethodName := ⟨RX7, "begins", "()V"⟩
abbrev cX7_canNature : ByteArray := prog_9_method_69_code
def yX7_canNature : MethodName := ⟨RX7, "canNature", "()Z"⟩
abbrev cX7_goes : ByteArray := prog_9_method_70_code
def yX7_goes : MethodName := ⟨RX7, "goes", "()V"⟩
abbrev cX7_committee : ByteArray := prog_9_method_71_code
def yX7_committee : MethodName := ⟨RX7, "committee", "()V"⟩
abbrev cX7_angers : ByteArray := prog_9_method_72_code
def yX7_angers : MethodName := ⟨RX7, "angers", "(I)V"⟩
abbrev cX7_moves : ByteArray := prog_9_method_73_code
def yX7_moves : MethodName := ⟨RX7, "moves", "()V"⟩
abbrev cX7_deeds : ByteArray := prog_9_method_74_code
def yX7_deeds : MethodName := ⟨RX7, "deeds", "()I"⟩
abbrev cX7_deedOf : ByteArray := prog_9_method_75_code
def yX7_deedOf : MethodName := ⟨RX7, "deedOf", "(II)I"⟩
abbrev cX7_deed : ByteArray := prog_9_method_76_code
def yX7_deed : MethodName := ⟨RX7, "deed", "(III)I"⟩
abbrev cX7_isThere : ByteArray := prog_9_method_77_code
def yX7_isThere : MethodName := ⟨RX7, "isThere", "(I)Z"⟩
abbrev cX7_can : ByteArray := prog_9_method_78_code
def yX7_can : MethodName := ⟨RX7, "can", "(I)Z"⟩
abbrev cX7_does : ByteArray := prog_9_method_79_code
def yX7_does : MethodName := ⟨RX7, "does", "(I)V"⟩
abbrev cX7_areTold : ByteArray := prog_9_method_80_code
def yX7_areTold : MethodName := ⟨RX7, "areTold", "(III)Z"⟩
abbrev cX7_runs : ByteArray := prog_9_method_81_code
def yX7_runs : MethodName := ⟨RX7, "runs", "(I)V"⟩
abbrev cX7_stop : ByteArray := prog_9_method_82_code
def yX7_stop : MethodName := ⟨RX7, "stop", "(III)I"⟩
abbrev cX7_state : ByteArray := prog_9_method_83_code
def yX7_state : MethodName := ⟨RX7, "state", "(IIIII)I"⟩
abbrev cX7_isAgreed : ByteArray := prog_9_method_84_code
def yX7_isAgreed : MethodName := ⟨RX7, "isAgreed", "(IZ)Z"⟩
abbrev cX7_rank : ByteArray := prog_9_method_85_code
def yX7_rank : MethodName := ⟨RX7, "rank", "(IZ)I"⟩
abbrev cX7_agreed : ByteArray := prog_9_method_86_code
def yX7_agreed : MethodName := ⟨RX7, "agreed", "(IIIII)I"⟩
abbrev cX7_common : ByteArray := prog_9_method_87_code
def yX7_common : MethodName := ⟨RX7, "common", "(II)I"⟩
abbrev cX7_part : ByteArray := prog_9_method_88_code
def yX7_part : MethodName := ⟨RX7, "part", "(IIZ)I"⟩
abbrev cX7_factorial : ByteArray := prog_9_method_89_code
def yX7_factorial : MethodName := ⟨RX7, "factorial", "(I)I"⟩
abbrev cX7_bits : ByteArray := prog_9_method_90_code
def yX7_bits : MethodName := ⟨RX7, "bits", "(I)I"⟩
abbrev cX7_everybody : ByteArray := prog_9_method_91_code
def yX7_everybody : MethodName := ⟨RX7, "everybody", "()I"⟩
abbrev cX7_isEnough : ByteArray := prog_9_method_92_code
def yX7_isEnough : MethodName := ⟨RX7, "isEnough", "(I)Z"⟩
abbrev cX7_power : ByteArray := prog_9_method_93_code
def yX7_power : MethodName := ⟨RX7, "power", "(IIZ)I"⟩
abbrev cX7_key : ByteArray := prog_9_method_94_code
def yX7_key : MethodName := ⟨RX7, "key", "()I"⟩
abbrev cX7_isLeast : ByteArray := prog_9_method_95_code
def yX7_isLeast : MethodName := ⟨RX7, "isLeast", "(I)Z"⟩
abbrev cX7_coalition : ByteArray := prog_9_method_96_code
def yX7_coalition : MethodName := ⟨RX7, "coalition", "(II)I"⟩
abbrev cX7_costOf : ByteArray := prog_9_method_97_code
def yX7_costOf : MethodName := ⟨RX7, "costOf", "(I)I"⟩
abbrev cX7_bribe : ByteArray := prog_9_method_98_code
def yX7_bribe : MethodName := ⟨RX7, "bribe", "(IIIIIIZ)I"⟩
abbrev cX7_priceOf : ByteArray := prog_9_method_99_code
def yX7_priceOf : MethodName := ⟨RX7, "priceOf", "(I)I"⟩
abbrev cX7_gainOf : ByteArray := prog_9_method_100_code
def yX7_gainOf : MethodName := ⟨RX7, "gainOf", "(IIZ)I"⟩
abbrev cX7_isRest : ByteArray := prog_9_method_101_code
def yX7_isRest : MethodName := ⟨RX7, "isRest", "(II)Z"⟩
abbrev cX7_lobby : ByteArray := prog_9_method_102_code
def yX7_lobby : MethodName := ⟨RX7, "lobby", "(IIIIIII)I"⟩
abbrev cX7_bargain : ByteArray := prog_9_method_103_code
def yX7_bargain : MethodName := ⟨RX7, "bargain", "(III)I"⟩
abbrev cX7_isSummer : ByteArray := prog_9_method_104_code
def yX7_isSummer : MethodName := ⟨RX7, "isSummer", "(I)Z"⟩
abbrev cX7_summerDays : ByteArray := prog_9_method_105_code
def yX7_summerDays : MethodName := ⟨RX7, "summerDays", "()I"⟩
abbrev cX7_dayOf : ByteArray := prog_9_method_106_code
def yX7_dayOf : MethodName := ⟨RX7, "dayOf", "(II)I"⟩
abbrev cX7_numberOf : ByteArray := prog_9_method_107_code
def yX7_numberOf : MethodName := ⟨RX7, "numberOf", "(I)I"⟩
abbrev cX7_was : ByteArray := prog_9_method_108_code
def yX7_was : MethodName := ⟨RX7, "was", "(III)I"⟩
abbrev cX7_wrongDay : ByteArray := prog_9_method_109_code
def yX7_wrongDay : MethodName := ⟨RX7, "wrongDay", "()I"⟩
abbrev cX7_isHeatRight : ByteArray := prog_9_method_110_code
def yX7_isHeatRight : MethodName := ⟨RX7, "isHeatRight", "()Z"⟩
abbrev cX7_cloudAfter : ByteArray := prog_9_method_111_code
def yX7_cloudAfter : MethodName := ⟨RX7, "cloudAfter", "(III)I"⟩
abbrev cX7_mends : ByteArray := prog_9_method_112_code
def yX7_mends : MethodName := ⟨RX7, "mends", "()V"⟩
abbrev cX7_fallsOn : ByteArray := prog_9_method_113_code
def yX7_fallsOn : MethodName := ⟨RX7, "fallsOn", "(I)I"⟩
abbrev cX7_nature : ByteArray := prog_9_method_114_code
def yX7_nature : MethodName := ⟨RX7, "nature", "(III)I"⟩
abbrev cX7_areSeats : ByteArray := prog_9_method_115_code
def yX7_areSeats : MethodName := ⟨RX7, "areSeats", "(I)Z"⟩
abbrev cX7_proposal : ByteArray := prog_9_method_116_code
def yX7_proposal : MethodName := ⟨RX7, "proposal", "(II)I"⟩
abbrev cX7_isSat : ByteArray := prog_9_method_117_code
def yX7_isSat : MethodName := ⟨RX7, "isSat", "(I)Z"⟩
abbrev cX7_unlike : ByteArray := prog_9_method_118_code
def yX7_unlike : MethodName := ⟨RX7, "unlike", "(I)I"⟩
abbrev cX7_seats : ByteArray := prog_9_method_119_code
def yX7_seats : MethodName := ⟨RX7, "seats", "(III)I"⟩
abbrev cX7_rainy : ByteArray := prog_9_method_120_code
def yX7_rainy : MethodName := ⟨RX7, "rainy", "(I)I"⟩
abbrev cX7_reshuffle : ByteArray := prog_9_method_121_code
def yX7_reshuffle : MethodName := ⟨RX7, "reshuffle", "(IZ)I"⟩
abbrev cX7_leakOf : ByteArray := prog_9_method_122_code
def yX7_leakOf : MethodName := ⟨RX7, "leakOf", "(II)I"⟩
abbrev cX7_leak : ByteArray := prog_9_method_123_code
def yX7_leak : MethodName := ⟨RX7, "leak", "(III)I"⟩
abbrev cX7_isFit : ByteArray := prog_9_method_124_code
def yX7_isFit : MethodName := ⟨RX7, "isFit", "(II)Z"⟩
abbrev cX7_fitting : ByteArray := prog_9_method_125_code
def yX7_fitting : MethodName := ⟨RX7, "fitting", "(I)I"⟩
abbrev cX7_extreme : ByteArray := prog_9_method_126_code
def yX7_extreme : MethodName := ⟨RX7, "extreme", "(IZ)I"⟩
abbrev cX7_rainyFit : ByteArray := prog_9_method_127_code
def yX7_rainyFit : MethodName := ⟨RX7, "rainyFit", "()I"⟩
abbrev cX7_fits : ByteArray := prog_9_method_128_code
def yX7_fits : MethodName := ⟨RX7, "fits", "(IIIII)I"⟩
abbrev cX7_below : ByteArray := prog_9_method_129_code
def yX7_below : MethodName := ⟨RX7, "below", "(I)I"⟩
abbrev cX7_thereAt : ByteArray := prog_9_method_130_code
def yX7_thereAt : MethodName := ⟨RX7, "thereAt", "(I)I"⟩
abbrev cX7_drawn : ByteArray := prog_9_method_131_code
def yX7_drawn : MethodName := ⟨RX7, "drawn", "(IIII)I"⟩
abbrev cX7_count : ByteArray := prog_9_method_132_code
def yX7_count : MethodName := ⟨RX7, "count", "(I)I"⟩
abbrev cX7_image : ByteArray := prog_9_method_133_code
def yX7_image : MethodName := ⟨RX7, "image", "(I)Z"⟩
abbrev cX7_again : ByteArray := prog_9_method_134_code
def yX7_again : MethodName := ⟨RX7, "again", "(I)Z"⟩
def RJx145de : String := "java/io/Serializable"
def RJx9f9b0 : String := "java/lang/CharSequence"
def RJxb160c : String := "java/lang/Comparable"
def RJ6 : String := "java/lang/Integer"
abbrev cJ6_bitCount_0f7a4 : ByteArray := prog_10_method_49_code
def yJ6_bitCount_0f7a4 : MethodName := ⟨RJ6, "bitCount", "(I)I"⟩
def RJ9 : String := "java/lang/Math"
abbrev cJ9_abs_0f7a4 : ByteArray := prog_11_method_59_code
def yJ9_abs_0f7a4 : MethodName := ⟨RJ9, "abs", "(I)I"⟩
abbrev cJ9_max_7cf53 : ByteArray := prog_11_method_65_code
def yJ9_max_7cf53 : MethodName := ⟨RJ9, "max", "(II)I"⟩
abbrev cJ9_min_7cf53 : ByteArray := prog_11_method_69_code
def yJ9_min_7cf53 : MethodName := ⟨RJ9, "min", "(II)I"⟩
def RJ0 : String := "java/lang/String"
abbrev cJ0_length_8abf5 : ByteArray := prog_12_method_54_code
def yJ0_length_8abf5 : MethodName := ⟨RJ0, "length", "()I"⟩
abbrev cJ0_isEmpty_aae02 : ByteArray := prog_12_method_55_code
def yJ0_isEmpty_aae02 : MethodName := ⟨RJ0, "isEmpty", "()Z"⟩
abbrev cJ0_charAt_5068e : ByteArray := prog_12_method_56_code
def yJ0_charAt_5068e : MethodName := ⟨RJ0, "charAt", "(I)C"⟩
abbrev cJ0_coder_7d493 : ByteArray := prog_12_method_152_code
def yJ0_coder_7d493 : MethodName := ⟨RJ0, "coder", "()B"⟩
abbrev cJ0_isLatin1_aae02 : ByteArray := prog_12_method_154_code
def yJ0_isLatin1_aae02 : MethodName := ⟨RJ0, "isLatin1", "()Z"⟩
abbrev cJ0_checkIndex_df160 : ByteArray := prog_12_method_155_code
def yJ0_checkIndex_df160 : MethodName := ⟨RJ0, "checkIndex", "(II)V"⟩
def RJ1 : String := "java/lang/StringLatin1"
abbrev cJ1_charAt_3b067 : ByteArray := prog_13_method_2_code
def yJ1_charAt_3b067 : MethodName := ⟨RJ1, "charAt", "([BI)C"⟩
def RJ2 : String := "java/lang/StringUTF16"
abbrev cJ2_getChar_3b067 : ByteArray := prog_14_method_5_code
def yJ2_getChar_3b067 : MethodName := ⟨RJ2, "getChar", "([BI)C"⟩
abbrev cJ2_length_9d52b : ByteArray := prog_14_method_6_code
def yJ2_length_9d52b : MethodName := ⟨RJ2, "length", "([B)I"⟩
abbrev cJ2_charAt_3b067 : ByteArray := prog_14_method_83_code
def yJ2_charAt_3b067 : MethodName := ⟨RJ2, "charAt", "([BI)C"⟩
abbrev cJ2_checkIndex_2214a : ByteArray := prog_14_method_91_code
def yJ2_checkIndex_2214a : MethodName := ⟨RJ2, "checkIndex", "(I[B)V"⟩
def RJ10 : String := "java/lang/System"
def RJxfd54e : String := "java/lang/constant/Constable"
def RJx3cf43 : String := "java/lang/constant/ConstantDesc"
def RJ7 : String := "java/util/Arrays"
abbrev cJ7_fill_53178 : ByteArray := prog_16_method_103_code
def yJ7_fill_53178 : MethodName := ⟨RJ7, "fill", "([II)V"⟩
def RJ3 : String := "jdk/internal/util/Preconditions"
abbrev cJ3_checkIndex_8e157 : ByteArray := prog_17_method_11_code
def yJ3_checkIndex_8e157 : MethodName := ⟨RJ3, "checkIndex", "(IILjava/util/function/BiFunction;)I"⟩
def RL : String := "WindCabinetLaw"
abbrev cL_law : ByteArray := code
def yL_law : MethodName := ⟨RL, "law", "([I)Z"⟩
abbrev vwCl : List vw_C := [(RX0, TX0, 13), (RX1, TX1, 12), (RX2, TX2, 14), (RX3, TX3, 2), (RX4, TX4, 3), (RX5, TX5, 7), (RX6, TX6, 8), (RX7, TX7, 35)]
def lw_law_R : String := RL
/-- private members of nest mates that the code calls -/
def wc_nestL : List (String × Nat × MethodName × String) := [("WindCabinet$Told", 34, ⟨"WindCabinet$Republic", "<init>", "()V"⟩, "WindCabinet"), ("WindCabinet$Told", 35, ⟨"WindCabinet$Rows", "<init>", "()V"⟩, "WindCabinet"), ("WindCabinet", 22, ⟨"WindCabinet$Reader", "<init>", "()V"⟩, "WindCabinet"), ("WindCabinet$Reader", 11, ⟨"WindCabinet$Republic", "<init>", "()V"⟩, "WindCabinet"), ("WindCabinet$Reader", 20, ⟨"WindCabinet$Rows", "<init>", "()V"⟩, "WindCabinet"), ("WindCabinet", 29, ⟨"WindCabinet$Course", "<init>", "()V"⟩, "WindCabinet"), ("WindCabinet$Course", 11, ⟨"WindCabinet$Sky", "<init>", "()V"⟩, "WindCabinet"), ("WindCabinet", 36, ⟨"WindCabinet$Sky", "<init>", "()V"⟩, "WindCabinet"), ("WindCabinet$Reader", 32, ⟨"WindCabinet", "copy", "([I[I)V"⟩, "WindCabinet"), ("WindCabinet$Reader", 156, ⟨"WindCabinet", "cell", "([II)I"⟩, "WindCabinet"), ("WindCabinet$Reader", 175, ⟨"WindCabinet", "put", "([III)V"⟩, "WindCabinet"), ("WindCabinet$Republic", 65, ⟨"WindCabinet", "cell", "([II)I"⟩, "WindCabinet"), ("WindCabinet$Republic", 73, ⟨"WindCabinet", "put", "([III)V"⟩, "WindCabinet"), ("WindCabinet$Rows", 33, ⟨"WindCabinet", "put", "([III)V"⟩, "WindCabinet"), ("WindCabinet$Rows", 29, ⟨"WindCabinet", "cell", "([II)I"⟩, "WindCabinet"), ("WindCabinet$Republic", 61, ⟨"WindCabinet", "copy", "([I[I)V"⟩, "WindCabinet"), ("WindCabinet$Rows", 25, ⟨"WindCabinet", "copy", "([I[I)V"⟩, "WindCabinet"), ("WindCabinet$Told", 36, ⟨"WindCabinet", "copy", "([I[I)V"⟩, "WindCabinet"), ("WindCabinet$Republic", 81, ⟨"WindCabinet", "amount", "(II)I"⟩, "WindCabinet"), ("WindCabinet$Republic", 91, ⟨"WindCabinet", "has", "(II)Z"⟩, "WindCabinet"), ("WindCabinet$Course", 52, ⟨"WindCabinet", "copy", "([I[I)V"⟩, "WindCabinet"), ("WindCabinet$Rows", 41, ⟨"WindCabinet", "numberOf", "(III)I"⟩, "WindCabinet"), ("WindCabinet$Course", 90, ⟨"WindCabinet", "has", "(II)Z"⟩, "WindCabinet"), ("WindCabinet$Sky", 26, ⟨"WindCabinet", "amount", "(II)I"⟩, "WindCabinet"), ("WindCabinet$Course", 98, ⟨"WindCabinet", "firstBroken", "(LWindCabinet$Rows;III)I"⟩, "WindCabinet"), ("WindCabinet$Course", 165, ⟨"WindCabinet", "amount", "(II)I"⟩, "WindCabinet"), ("WindCabinet$Course", 144, ⟨"WindCabinet", "cell", "([II)I"⟩, "WindCabinet"), ("WindCabinet$Course", 119, ⟨"WindCabinet", "put", "([III)V"⟩, "WindCabinet"), ("WindCabinet$Course", 159, ⟨"WindCabinet", "numberOf", "(III)I"⟩, "WindCabinet"), ("WindCabinet$Republic", 112, ⟨"WindCabinet", "numberOf", "(III)I"⟩, "WindCabinet")]
def wc_nests : List Cond := wc_nestL.map (fun t => .methodLinkNest t.1 t.2.1 t.2.2.1 t.2.2.2)
theorem wc_nests_form : ∀ q ∈ wc_nests, ∃ (a : String) (i : Nat) (x : MethodName) (b : String), q = .methodLinkNest a i x b := by
  intro q hq
  obtain ⟨t, -, rfl⟩ := List.mem_map.mp hq
  exact ⟨_, _, _, _, rfl⟩
/-- the words of the tables that a contract may carry -/
def wc_B : List Cond := lw_tbl.filter goodWord
def wc_seg : Nat → List Cond
  | 1 => tables_1_1
  | 2 => tables_1_2
  | 3 => tables_1_3
  | 4 => tables_1_4
  | 5 => tables_1_5
  | 6 => tables_1_6
  | 7 => tables_1_7
  | 11 => k2_sels lw_privs_1
  | 12 => k2_sels lw_privs_2
  | 13 => k2_sels lw_privs_3
  | 14 => k2_sels lw_privs_4
  | 15 => k2_sels lw_privs_5
  | 16 => k2_sels lw_privs_6
  | 17 => k2_sels lw_privs_7
  | 18 => k2_sels lw_privs_8
  | 19 => k2_sels lw_privs_9
  | _ => []
theorem wc_seg_in (k : Nat) : ∀ w ∈ wc_seg k, w ∈ lw_tbl := by
  have hp : ∀ (l : List (MethodName × Nat)), (∀ q ∈ l, q ∈ lw_privs) → ∀ w ∈ k2_sels l, w ∈ lw_tbl := by
    intro l hl w hw
    obtain ⟨q, hq, rfl⟩ := List.mem_map.mp hw
    exact List.mem_append_left _ (List.mem_map.mpr ⟨q, hl q hq, rfl⟩)
  intro w hw
  unfold wc_seg at hw
  split at hw
  · exact List.mem_append_right _ (by unfold tables_1; simp [hw])
  · exact List.mem_append_right _ (by unfold tables_1; simp [hw])
  · exact List.mem_append_right _ (by unfold tables_1; simp [hw])
  · exact List.mem_append_right _ (by unfold tables_1; simp [hw])
  · exact List.mem_append_right _ (by unfold tables_1; simp [hw])
  · exact List.mem_append_right _ (by unfold tables_1; simp [hw])
  · exact List.mem_append_right _ (by unfold tables_1; simp [hw])
  · exact hp _ (fun q hq => by unfold lw_privs; simp only [List.mem_append]; simp [hq]) w hw
  · exact hp _ (fun q hq => by unfold lw_privs; simp only [List.mem_append]; simp [hq]) w hw
  · exact hp _ (fun q hq => by unfold lw_privs; simp only [List.mem_append]; simp [hq]) w hw
  · exact hp _ (fun q hq => by unfold lw_privs; simp only [List.mem_append]; simp [hq]) w hw
  · exact hp _ (fun q hq => by unfold lw_privs; simp only [List.mem_append]; simp [hq]) w hw
  · exact hp _ (fun q hq => by unfold lw_privs; simp only [List.mem_append]; simp [hq]) w hw
  · exact hp _ (fun q hq => by unfold lw_privs; simp only [List.mem_append]; simp [hq]) w hw
  · exact hp _ (fun q hq => by unfold lw_privs; simp only [List.mem_append]; simp [hq]) w hw
  · exact hp _ (fun q hq => by unfold lw_privs; simp only [List.mem_append]; simp [hq]) w hw
  · cases hw
theorem wc_Bm {x : Cond} (q : Nat × Nat) (h : (wc_seg q.1)[q.2]? = some x) (hg : goodWord x = true) : x ∈ wc_B := List.mem_filter.mpr ⟨wc_seg_in q.1 _ (List.mem_of_getElem? h), hg⟩
theorem wc_Bl {ws : List Cond} (ps : List (Nat × Nat)) (hp : ws = ps.filterMap (fun i => (wc_seg i.1)[i.2]?)) (hg : ws.all goodWord = true) : ∀ w ∈ ws, w ∈ wc_B := by
  intro w hw
  have h1 := List.all_eq_true.mp hg w hw
  rw [hp] at hw
  obtain ⟨i, -, hi⟩ := List.mem_filterMap.mp hw
  exact wc_Bm i hi h1
theorem wc_Bt : ∀ w ∈ wc_B, w ∈ lw_tbl := fun w h => (List.mem_filter.mp h).1
theorem wc_BG {ws : List Cond} (h : ∀ w ∈ ws, w ∈ wc_B) : GoodIn wc_B ws := fun w hw => ⟨h w hw, good_of_word (List.mem_filter.mp (h w hw)).2⟩
theorem wuX0 : ∀ w ∈ u_ws RX0 TX0 13, w ∈ wc_B := wc_Bl [(2, 6), (2, 8), (2, 10), (2, 12), (2, 14), (2, 16), (2, 18), (2, 20), (2, 22), (2, 24), (2, 26), (2, 28), (2, 30)] (by decide +kernel) (by decide +kernel)
theorem wuX1 : ∀ w ∈ u_ws RX1 TX1 12, w ∈ wc_B := wc_Bl [(1, 171), (1, 173), (1, 175), (1, 177), (1, 179), (1, 181), (1, 183), (1, 185), (1, 187), (1, 189), (1, 191), (1, 193)] (by decide +kernel) (by decide +kernel)
theorem wuX2 : ∀ w ∈ u_ws RX2 TX2 14, w ∈ wc_B := wc_Bl [(1, 74), (1, 76), (1, 78), (1, 80), (1, 82), (1, 84), (1, 86), (1, 88), (1, 90), (1, 92), (1, 94), (1, 96), (1, 98), (1, 100)] (by decide +kernel) (by decide +kernel)
theorem wuX3 : ∀ w ∈ u_ws RX3 TX3 2, w ∈ wc_B := wc_Bl [(1, 112), (1, 114)] (by decide +kernel) (by decide +kernel)
theorem wuX4 : ∀ w ∈ u_ws RX4 TX4 3, w ∈ wc_B := wc_Bl [(1, 215), (1, 217), (1, 219)] (by decide +kernel) (by decide +kernel)
theorem wuX5 : ∀ w ∈ u_ws RX5 TX5 7, w ∈ wc_B := wc_Bl [(1, 129), (1, 131), (1, 133), (1, 135), (1, 137), (1, 139), (1, 141)] (by decide +kernel) (by decide +kernel)
theorem wuX6 : ∀ w ∈ u_ws RX6 TX6 8, w ∈ wc_B := wc_Bl [(2, 43), (2, 45), (2, 47), (2, 49), (2, 51), (2, 53), (2, 55), (2, 57)] (by decide +kernel) (by decide +kernel)
theorem wuX7 : ∀ w ∈ u_ws RX7 TX7 35, w ∈ wc_B := wc_Bl [(5, 51), (5, 53), (5, 55), (5, 57), (5, 59), (5, 61), (5, 63), (5, 65), (5, 67), (5, 69), (5, 71), (5, 73), (5, 75), (5, 77), (5, 79), (5, 81), (5, 83), (5, 85), (5, 87), (5, 89), (5, 91), (5, 93), (5, 95), (5, 97), (5, 99), (5, 101), (5, 103), (5, 105), (5, 107), (5, 109), (5, 111), (5, 113), (5, 115), (5, 117), (5, 119)] (by decide +kernel) (by decide +kernel)
end
section
/-! VALUES, CELLS, WORLDS BY NUMBER: what the law makes lies at the addresses from gZ on, one cell behind another; cell k of a world is the cell at gZ + k. Constants (static rows, the script) lie ahead of it. -/
abbrev EV : Type := Int32 ⊕ (Int64 ⊕ (Option Nat ⊕ Nat))
abbrev EC : Type := (Nat × List EV) ⊕ ((Nat × Nat × (Nat → Int32)) ⊕ (Nat × Nat × (Nat → Option Nat)))
abbrev EW : Type := List EC
abbrev EG : Type := va_G × (Nat → ClassId) × Nat × (Nat → Nat) × (Nat → Nat) × (Nat → Nat → Int32)
abbrev eI (x : Int32) : EV := .inl x
abbrev eJ (x : Int64) : EV := .inr (.inl x)
abbrev eO (o : Option Nat) : EV := .inr (.inr (.inl o))
abbrev eN : EV := .inr (.inr (.inl none))
abbrev eR (k : Nat) : EV := .inr (.inr (.inl (some k)))
abbrev eK (c : Nat) : EV := .inr (.inr (.inr c))
abbrev cO (ci : Nat) (fs : List EV) : EC := .inl (ci, fs)
abbrev cI (t n : Nat) (f : Nat → Int32) : EC := .inr (.inl (t, n, f))
abbrev cQ (t n : Nat) (f : Nat → Option Nat) : EC := .inr (.inr (t, n, f))
abbrev gD (G : EG) : va_G := G.1
abbrev gY (G : EG) (t : Nat) : ClassId := G.2.1 t
abbrev gZ (G : EG) : Nat := G.2.2.1
abbrev gA (G : EG) (k : Nat) : Nat := G.2.2.2.1 k
abbrev gL (G : EG) (k : Nat) : Nat := G.2.2.2.2.1 k
abbrev gF (G : EG) (k : Nat) : Nat → Int32 := G.2.2.2.2.2 k
def wc_tys (G : EG) : List (ClassId × FieldType) := [(gY G 0, .int), (gY G 1, .boolean), (gY G 2, .object RX2), (gY G 3, .object RX3), (gY G 4, .object RX5)]
def wc_v (G : EG) : EV → Value
  | .inl x => .int x
  | .inr (.inl x) => .long x
  | .inr (.inr (.inl none)) => .null
  | .inr (.inr (.inl (some k))) => .ref (gZ G + k)
  | .inr (.inr (.inr k)) => .ref (gA G k)
def wc_c (G : EG) : EC → va_E
  | .inl (ci, fs) => .inr (ci, fs.map (wc_v G))
  | .inr (.inl (t, n, f)) => .inl (gY G t, n, .inl f)
  | .inr (.inr (t, n, f)) => .inl (gY G t, n, .inr (.inr (.inr (.inr (fun i => (f i).map (fun k => gZ G + k))))))
def wc_l (G : EG) (w : EW) : va_W := w.mapIdx (fun k c => (gZ G + k, wc_c G c))
def wc_A (G : EG) : Nat → Prop := fun q => gZ G ≤ q
def wc_sl : EC → Nat
  | .inl (_, fs) => fs.length
  | .inr (.inl (_, n, _)) => n
  | .inr (.inr (_, n, _)) => n
def wc_SL (w : EW) : Nat := (w.map wc_sl).sum
theorem wc_l_get {G : EG} {w : EW} {k : Nat} {c : EC} (h : w[k]? = some c) : (wc_l G w)[k]? = some (gZ G + k, wc_c G c) := by
  simp [wc_l, List.getElem?_mapIdx, h]
theorem wc_l_of {G : EG} {w : EW} {k : Nat} {q : Nat × va_E} (h : (wc_l G w)[k]? = some q) : ∃ c, w[k]? = some c ∧ q = (gZ G + k, wc_c G c) := by
  simp only [wc_l, List.getElem?_mapIdx, Option.map_eq_some_iff] at h
  obtain ⟨c, h1, h2⟩ := h
  exact ⟨c, h1, h2.symm⟩
theorem wc_l_set {G : EG} {w : EW} {k : Nat} {c : EC} : (wc_l G w).set k (gZ G + k, wc_c G c) = wc_l G (w.set k c) := by
  apply List.ext_getElem?
  intro i
  simp only [wc_l, List.getElem?_mapIdx, List.getElem?_set, List.length_mapIdx]
  by_cases h : k = i
  · subst h
    by_cases h2 : k < w.length
    · simp [h2]
    · simp [h2]
  · simp [h]
theorem wc_l_push {G : EG} {w : EW} {c : EC} : wc_l G w ++ [(gZ G + w.length, wc_c G c)] = wc_l G (w ++ [c]) := by
  simp [wc_l, List.mapIdx_append]
theorem wc_D {G : EG} {w : EW} : va_D (wc_A G) (wc_l G w) := by
  refine ⟨fun i j p q hi hj hpq => ?_, fun k q hk => ?_⟩
  · obtain ⟨c, -, e1⟩ := wc_l_of hi
    obtain ⟨d, -, e2⟩ := wc_l_of hj
    rw [e1, e2] at hpq
    have : gZ G + i = gZ G + j := hpq
    omega
  · obtain ⟨c, -, e1⟩ := wc_l_of hk
    rw [e1]
    exact Nat.le_add_right _ _
theorem wc_SL_set {w : EW} {k : Nat} {c d : EC} (hk : w[k]? = some c) (h : wc_sl d = wc_sl c) : wc_SL (w.set k d) = wc_SL w := by
  unfold wc_SL
  congr 1
  apply List.ext_getElem?
  intro i
  rw [List.getElem?_map, List.getElem?_map, List.getElem?_set]
  by_cases hi : k = i
  · subst hi
    obtain ⟨hl, hc⟩ := List.getElem?_eq_some_iff.mp hk
    simp [hl, h, hc]
  · simp [hi]
theorem wc_SL_push {w : EW} {c : EC} : wc_SL (w ++ [c]) = wc_SL w + wc_sl c := by simp [wc_SL]
/-! locals -/
def wc_LR (G : EG) (nL : Nat) (ls : List (Option EV)) (arr : Array Slot) : Prop := arr.size = nL ∧ lv_wf arr ∧ ∀ (i : Nat) (v : EV), ls[i]? = some (some v) → arr[i]? = some (.val (wc_v G v))
def wc_clr (ls : List (Option EV)) (i : Nat) : List (Option EV) := match i with
  | 0 => ls
  | j + 1 => match ls[j]? with
    | some (some (.inr (.inl _))) => ls.set j none
    | _ => ls
def wc_st (ls : List (Option EV)) (i : Nat) (v : EV) : List (Option EV) := (wc_clr ls i).set i (some v)
def wc_st2 (ls : List (Option EV)) (i : Nat) (v : EV) : List (Option EV) := ((wc_clr ls i).set i (some v)).set (i + 1) none
def wc_ll (G : EG) (ls : List (Option EV)) : List (Nat × Value) := (List.range ls.length).filterMap (fun i => match ls[i]? with | some (some v) => some (i, wc_v G v) | _ => none)
theorem wc_ll_in {G : EG} {ls : List (Option EV)} {i : Nat} {v : EV} (h : ls[i]? = some (some v)) : (i, wc_v G v) ∈ wc_ll G ls := by
  refine List.mem_filterMap.mpr ⟨i, List.mem_range.mpr (List.getElem?_eq_some_iff.mp h).1, ?_⟩
  rw [h]
theorem wc_LR_has {G : EG} {nL : Nat} {ls : List (Option EV)} {arr : Array Slot} (h : wc_LR G nL ls arr) : lv_has arr nL (wc_ll G ls) := by
  refine ⟨h.1, h.2.1, fun q hq => ?_⟩
  obtain ⟨i, -, hi⟩ := List.mem_filterMap.mp hq
  cases hl : ls[i]? with
  | none => rw [hl] at hi; cases hi
  | some o => cases o with
    | none => rw [hl] at hi; cases hi
    | some v =>
      rw [hl] at hi
      cases hi
      exact h.2.2 i v hl
theorem wc_clr_of {ls : List (Option EV)} {i j : Nat} {v : EV} (h : (wc_clr ls i)[j]? = some (some v)) : ls[j]? = some (some v) ∧ (j + 1 = i → ∀ x : Int64, v ≠ .inr (.inl x)) := by
  cases i with
  | zero => exact ⟨h, fun q => by omega⟩
  | succ k =>
    simp only [wc_clr] at h
    split at h
    next x hx =>
      rw [List.getElem?_set] at h
      by_cases e : k = j
      · subst e
        simp only [if_true] at h
        split at h <;> cases h
      · rw [if_neg e] at h
        exact ⟨h, fun q => by omega⟩
    next hx =>
      refine ⟨h, fun q x e => ?_⟩
      have : j = k := by omega
      subst this
      subst e
      exact hx x h
theorem wc_cat2 {G : EG} {v : EV} (h : (wc_v G v).category = 2) : ∃ x : Int64, v = .inr (.inl x) := by
  rcases v with x | x | x | x
  · cases h
  · exact ⟨x, rfl⟩
  · cases x <;> cases h
  · cases h
theorem wc_LR_st {G : EG} {nL : Nat} {ls : List (Option EV)} {arr arr' : Array Slot} {i : Nat} {v : EV} (h : lv_has arr' nL ((i, wc_v G v) :: (wc_ll G ls).filter (fun q => !(q.1 == i) && !(q.1 + 1 == i && q.2.category == 2)))) : wc_LR G nL (wc_st ls i v) arr' := by
  refine ⟨h.1, h.2.1, fun j u hj => ?_⟩
  unfold wc_st at hj
  rw [List.getElem?_set] at hj
  by_cases e : i = j
  · subst e
    simp only [if_true] at hj
    split at hj
    · cases hj
      exact h.2.2 (i, wc_v G v) List.mem_cons_self
    · cases hj
  · rw [if_neg e] at hj
    obtain ⟨h1, h2⟩ := wc_clr_of hj
    refine h.2.2 (j, wc_v G u) (List.mem_cons_of_mem _ (List.mem_filter.mpr ⟨wc_ll_in h1, ?_⟩))
    have e1 : (j == i) = false := by simpa using fun q => e q.symm
    by_cases e2 : j + 1 = i
    · have e3 : ((wc_v G u).category == 2) = false := by
        by_cases e4 : (wc_v G u).category = 2
        · obtain ⟨x, hx⟩ := wc_cat2 e4
          exact absurd hx (h2 e2 x)
        · simpa using e4
      simp [e1, e3]
    · have e3 : (j + 1 == i) = false := by simpa using e2
      simp [e1, e3]
theorem wc_LR_st2 {G : EG} {nL : Nat} {ls : List (Option EV)} {arr arr' : Array Slot} {i : Nat} {v : EV} (h : lv_has arr' nL ((i, wc_v G v) :: (wc_ll G ls).filter (fun q => !(q.1 == i) && (!(q.1 == i + 1) && !(q.1 + 1 == i && q.2.category == 2))))) : wc_LR G nL (wc_st2 ls i v) arr' := by
  refine ⟨h.1, h.2.1, fun j u hj => ?_⟩
  unfold wc_st2 at hj
  rw [List.getElem?_set] at hj
  by_cases e0 : i + 1 = j
  · subst e0
    simp only [if_true] at hj
    split at hj <;> cases hj
  rw [if_neg e0, List.getElem?_set] at hj
  by_cases e : i = j
  · subst e
    simp only [if_true] at hj
    split at hj
    · cases hj
      exact h.2.2 (i, wc_v G v) List.mem_cons_self
    · cases hj
  · rw [if_neg e] at hj
    obtain ⟨h1, h2⟩ := wc_clr_of hj
    refine h.2.2 (j, wc_v G u) (List.mem_cons_of_mem _ (List.mem_filter.mpr ⟨wc_ll_in h1, ?_⟩))
    have e1 : (j == i) = false := by simpa using fun q => e q.symm
    have e5 : (j == i + 1) = false := by simpa using fun q => e0 q.symm
    by_cases e2 : j + 1 = i
    · have e3 : ((wc_v G u).category == 2) = false := by
        by_cases e4 : (wc_v G u).category = 2
        · obtain ⟨x, hx⟩ := wc_cat2 e4
          exact absurd hx (h2 e2 x)
        · simpa using e4
      simp [e1, e3, e5]
    · have e3 : (j + 1 == i) = false := by simpa using e2
      simp [e1, e3, e5]
/-! the environment: what never moves -/
def wc_E (G : EG) (U : State) : Prop := va_K (gD G) vwCl (wc_tys G) U ∧ (∀ q ∈ wc_nests, va_Nw q U) ∧ (∀ k : Nat, k < 3 → va_T .int (gA G k) (gL G k) (fun j => .int (gF G k j)) (wc_A G) U U.heap) ∧ va_Z RX6 "MOST_OF_A_TEXT" "[I" (.ref (gA G 0)) (wc_A G) U U.heap ∧ va_Z RX6 "FACTORIALS" "[I" (.ref (gA G 1)) (wc_A G) U U.heap ∧ va_AO RX2 U ∧ va_AO RX3 U ∧ va_AO RX5 U
theorem wc_E_moved {G : EG} {s U : State} (h : wc_E G s) (hW : s.WarmedH U.vm) (hq : ∀ a : Nat, a < s.heap.size → ¬ wc_A G a → U.heap[a]? = s.heap[a]?) : wc_E G U := by
  obtain ⟨h1, h2, h3, h4, h5, h6, h7, h8⟩ := h
  refine ⟨va_K.moved hW.alike h1, fun q hn => ?_, fun k hk => ((h3 k hk).moved hW.alike).kept hq, (h4.moved hW.alike).kept hq, (h5.moved hW.alike).kept hq, h6.moved hW.alike, h7.moved hW.alike, h8.moved hW.alike⟩
  obtain ⟨a, i, x, b, rfl⟩ := wc_nests_form q hn
  exact va_Nw.warmM hW (h2 _ hn)
theorem wc_E_calling {G : EG} {U : State} (h : wc_E G U) (g : JFrame) (mk : MethodId) (a : Array Value) : wc_E G (U.calling g mk a) := by
  obtain ⟨h1, h2, h3, h4, h5, h6, h7, h8⟩ := h
  exact ⟨va_K.moved (u := U) (U := U.calling g mk a) (Vm.Alike.refl U.vm) h1, fun q hn => by obtain ⟨x1, x2, x3, x4, rfl⟩ := wc_nests_form q hn; exact va_Nw.same (u := U) rfl rfl (h2 _ hn), fun k hk => va_T.moved (u := U) (U := U.calling g mk a) (Vm.Alike.refl U.vm) (h3 k hk), va_Z.moved (u := U) (U := U.calling g mk a) (Vm.Alike.refl U.vm) h4, va_Z.moved (u := U) (U := U.calling g mk a) (Vm.Alike.refl U.vm) h5, va_AO.moved (u := U) (U := U.calling g mk a) (Vm.Alike.refl U.vm) h6, va_AO.moved (u := U) (U := U.calling g mk a) (Vm.Alike.refl U.vm) h7, va_AO.moved (u := U) (U := U.calling g mk a) (Vm.Alike.refl U.vm) h8⟩
/-! THE JUDGEMENT -/
def WW (p : Program) (l : Launch) (e : Env) (R : Room) (s : State) (m : MethodId) (args : Array Value) (below : List Frame) (meth : Method) (c : Code) (Q : State → Prop) (G : EG) (nL n0 s0 rc rs pc : Nat) (ls : List (Option EV)) (st : List EV) (w : EW) : Prop :=
  ∀ (H : Heap) (locs : List Loc) (arr : Array Slot), n0 ≤ w.length → s0 ≤ wc_SL w → w.length + rc = n0 + R.cells → wc_SL w + rs = s0 + R.slots → va_P (gD G) vwCl (wc_l G w) H → va_S (wc_A G) s.heap H locs → wc_LR G nL ls arr → W p l e R s m args below meth c H locs (w.length - n0) (wc_SL w - s0) Q (F0 m pc arr (st.map (wc_v G)))
def wc_C (p : Program) (s : State) (m : MethodId) (args : Array Value) (meth : Method) (c : Code) (G : EG) (own : String) (cc : ByteArray) (nL n0 : Nat) : Prop :=
  p.tables.exec = Jvm.exec ∧ c.code = cc ∧ c.maxLocals = nL ∧ s.vm.findClass own = some m.cls ∧ (∀ w ∈ wc_B, w.before args s = true) ∧ wc_E G s ∧ s.heap.size = gZ G + n0 ∧ meth.locks = false
def wc_fld (own : String) (idx ci j : Nat) : Prop := ∃ (C : String) (T : u_T) (N : Nat), vwCl[ci]? = some (C, T, N) ∧ j < N ∧ Cond.fieldLink own idx (T j).1 (T j).2.1 (T j).2.2.1 ∈ wc_B ∧ ∀ w ∈ u_ws C T N, w ∈ wc_B
def wc_fpt (own : String) (idx ci j : Nat) (fin : Bool) (ty : FieldType) : Prop := ∃ (C : String) (T : u_T) (N : Nat) (ty0 : Nat → FieldType), vwCl[ci]? = some (C, T, N) ∧ j < N ∧ Cond.fieldLink own idx (T j).1 (T j).2.1 (T j).2.2.1 ∈ wc_B ∧ (∀ w ∈ u_ws C T N, w ∈ wc_B) ∧ (∀ k, k < N → parseFieldDescriptor (T k).2.2.1 = some (ty0 k)) ∧ (∀ a, a < N → ∀ b, b < N → a ≠ b → (T a).2.1 ≠ (T b).2.1) ∧ (T j).2.2.2 = fin ∧ parseFieldDescriptor (T j).2.2.1 = some ty ∧ (T j).1 = C
section WC
variable {p : Program} {l : Launch} {e : Env} {R : Room} {s : State} {m : MethodId} {args : Array Value} {below : List Frame} {meth : Method} {c : Code} {Q : State → Prop} {G : EG} {own : String} {cc : ByteArray} {nL n0 s0 rc rs pc : Nat} {ls : List (Option EV)} {st : List EV} {w : EW}
theorem ww_iconst (K : wc_C p s m args meth c G own cc nL n0) {n : Int} {v : Int32} (hd : decode cc pc = .ok (.iconst n, 1)) (hv : Int32.ofInt n = v) (k : WW p l e R s m args below meth c Q G nL n0 s0 rc rs (pc + 1) (ls) (eI v :: st) (w)) : WW p l e R s m args below meth c Q G nL n0 s0 rc rs (pc) (ls) (st) (w) := fun H locs arr h1 h2 h3 h4 hP hS hL => lv_iconst K.1 K.2.1  hd hv (k H locs arr h1 h2 h3 h4 hP hS hL)
theorem ww_bipush (K : wc_C p s m args meth c G own cc nL n0) {n : Int} {v : Int32} (hd : decode cc pc = .ok (.bipush n, 2)) (hv : (Int8.ofInt n).toInt32 = v) (k : WW p l e R s m args below meth c Q G nL n0 s0 rc rs (pc + 2) (ls) (eI v :: st) (w)) : WW p l e R s m args below meth c Q G nL n0 s0 rc rs (pc) (ls) (st) (w) := fun H locs arr h1 h2 h3 h4 hP hS hL => lv_bipush K.1 K.2.1  hd hv (k H locs arr h1 h2 h3 h4 hP hS hL)
theorem ww_sipush (K : wc_C p s m args meth c G own cc nL n0) {n : Int} {v : Int32} (hd : decode cc pc = .ok (.sipush n, 3)) (hv : (Int16.ofInt n).toInt32 = v) (k : WW p l e R s m args below meth c Q G nL n0 s0 rc rs (pc + 3) (ls) (eI v :: st) (w)) : WW p l e R s m args below meth c Q G nL n0 s0 rc rs (pc) (ls) (st) (w) := fun H locs arr h1 h2 h3 h4 hP hS hL => lv_sipush K.1 K.2.1  hd hv (k H locs arr h1 h2 h3 h4 hP hS hL)
theorem ww_lconst (K : wc_C p s m args meth c G own cc nL n0) {n : Fin 2} {v : Int64} (hd : decode cc pc = .ok (.lconst n, 1)) (hv : Int64.ofNat (n : Nat) = v) (k : WW p l e R s m args below meth c Q G nL n0 s0 rc rs (pc + 1) (ls) (eJ v :: st) (w)) : WW p l e R s m args below meth c Q G nL n0 s0 rc rs (pc) (ls) (st) (w) := fun H locs arr h1 h2 h3 h4 hP hS hL => lv_lconst K.1 K.2.1  hd hv (k H locs arr h1 h2 h3 h4 hP hS hL)
theorem ww_null (K : wc_C p s m args meth c G own cc nL n0) (hd : decode cc pc = .ok (.aconst_null, 1)) (k : WW p l e R s m args below meth c Q G nL n0 s0 rc rs (pc + 1) (ls) (eN :: st) (w)) : WW p l e R s m args below meth c Q G nL n0 s0 rc rs (pc) (ls) (st) (w) := fun H locs arr h1 h2 h3 h4 hP hS hL => lv_null K.1 K.2.1 hd (k H locs arr h1 h2 h3 h4 hP hS hL)
theorem ww_iadd (K : wc_C p s m args meth c G own cc nL n0) {x y : Int32} (hd : decode cc pc = .ok (.iadd, 1))  (k : WW p l e R s m args below meth c Q G nL n0 s0 rc rs (pc + 1) (ls) (eI (x + y) :: st) (w)) : WW p l e R s m args below meth c Q G nL n0 s0 rc rs (pc) (ls) (eI y :: eI x :: st) (w) := fun H locs arr h1 h2 h3 h4 hP hS hL => lv_iadd K.1 K.2.1  hd  (k H locs arr h1 h2 h3 h4 hP hS hL)
theorem ww_isub (K : wc_C p s m args meth c G own cc nL n0) {x y : Int32} (hd : decode cc pc = .ok (.isub, 1))  (k : WW p l e R s m args below meth c Q G nL n0 s0 rc rs (pc + 1) (ls) (eI (x - y) :: st) (w)) : WW p l e R s m args below meth c Q G nL n0 s0 rc rs (pc) (ls) (eI y :: eI x :: st) (w) := fun H locs arr h1 h2 h3 h4 hP hS hL => lv_isub K.1 K.2.1  hd  (k H locs arr h1 h2 h3 h4 hP hS hL)
theorem ww_imul (K : wc_C p s m args meth c G own cc nL n0) {x y : Int32} (hd : decode cc pc = .ok (.imul, 1))  (k : WW p l e R s m args below meth c Q G nL n0 s0 rc rs (pc + 1) (ls) (eI (x * y) :: st) (w)) : WW p l e R s m args below meth c Q G nL n0 s0 rc rs (pc) (ls) (eI y :: eI x :: st) (w) := fun H locs arr h1 h2 h3 h4 hP hS hL => lv_imul K.1 K.2.1  hd  (k H locs arr h1 h2 h3 h4 hP hS hL)
theorem ww_iand (K : wc_C p s m args meth c G own cc nL n0) {x y : Int32} (hd : decode cc pc = .ok (.iand, 1))  (k : WW p l e R s m args below meth c Q G nL n0 s0 rc rs (pc + 1) (ls) (eI (x &&& y) :: st) (w)) : WW p l e R s m args below meth c Q G nL n0 s0 rc rs (pc) (ls) (eI y :: eI x :: st) (w) := fun H locs arr h1 h2 h3 h4 hP hS hL => lv_iand K.1 K.2.1  hd  (k H locs arr h1 h2 h3 h4 hP hS hL)
theorem ww_ior (K : wc_C p s m args meth c G own cc nL n0) {x y : Int32} (hd : decode cc pc = .ok (.ior, 1))  (k : WW p l e R s m args below meth c Q G nL n0 s0 rc rs (pc + 1) (ls) (eI (x ||| y) :: st) (w)) : WW p l e R s m args below meth c Q G nL n0 s0 rc rs (pc) (ls) (eI y :: eI x :: st) (w) := fun H locs arr h1 h2 h3 h4 hP hS hL => lv_ior K.1 K.2.1  hd  (k H locs arr h1 h2 h3 h4 hP hS hL)
theorem ww_ixor (K : wc_C p s m args meth c G own cc nL n0) {x y : Int32} (hd : decode cc pc = .ok (.ixor, 1))  (k : WW p l e R s m args below meth c Q G nL n0 s0 rc rs (pc + 1) (ls) (eI (x ^^^ y) :: st) (w)) : WW p l e R s m args below meth c Q G nL n0 s0 rc rs (pc) (ls) (eI y :: eI x :: st) (w) := fun H locs arr h1 h2 h3 h4 hP hS hL => lv_ixor K.1 K.2.1  hd  (k H locs arr h1 h2 h3 h4 hP hS hL)
theorem ww_ishl (K : wc_C p s m args meth c G own cc nL n0) {x y : Int32} (hd : decode cc pc = .ok (.ishl, 1))  (k : WW p l e R s m args below meth c Q G nL n0 s0 rc rs (pc + 1) (ls) (eI (x <<< (y &&& 31)) :: st) (w)) : WW p l e R s m args below meth c Q G nL n0 s0 rc rs (pc) (ls) (eI y :: eI x :: st) (w) := fun H locs arr h1 h2 h3 h4 hP hS hL => lv_ishl K.1 K.2.1  hd  (k H locs arr h1 h2 h3 h4 hP hS hL)
theorem ww_ishr (K : wc_C p s m args meth c G own cc nL n0) {x y : Int32} (hd : decode cc pc = .ok (.ishr, 1))  (k : WW p l e R s m args below meth c Q G nL n0 s0 rc rs (pc + 1) (ls) (eI (x >>> (y &&& 31)) :: st) (w)) : WW p l e R s m args below meth c Q G nL n0 s0 rc rs (pc) (ls) (eI y :: eI x :: st) (w) := fun H locs arr h1 h2 h3 h4 hP hS hL => lv_ishr K.1 K.2.1  hd  (k H locs arr h1 h2 h3 h4 hP hS hL)
theorem ww_idiv (K : wc_C p s m args meth c G own cc nL n0) {x y : Int32} (hd : decode cc pc = .ok (.idiv, 1)) (hne : ¬ y = 0) (k : WW p l e R s m args below meth c Q G nL n0 s0 rc rs (pc + 1) (ls) (eI (x / y) :: st) (w)) : WW p l e R s m args below meth c Q G nL n0 s0 rc rs (pc) (ls) (eI y :: eI x :: st) (w) := fun H locs arr h1 h2 h3 h4 hP hS hL => lv_idiv K.1 K.2.1  hd hne (k H locs arr h1 h2 h3 h4 hP hS hL)
theorem ww_irem (K : wc_C p s m args meth c G own cc nL n0) {x y : Int32} (hd : decode cc pc = .ok (.irem, 1)) (hne : ¬ y = 0) (k : WW p l e R s m args below meth c Q G nL n0 s0 rc rs (pc + 1) (ls) (eI (x - x / y * y) :: st) (w)) : WW p l e R s m args below meth c Q G nL n0 s0 rc rs (pc) (ls) (eI y :: eI x :: st) (w) := fun H locs arr h1 h2 h3 h4 hP hS hL => lv_irem K.1 K.2.1  hd hne (k H locs arr h1 h2 h3 h4 hP hS hL)
theorem ww_ineg (K : wc_C p s m args meth c G own cc nL n0) {x : Int32} (hd : decode cc pc = .ok (.ineg, 1))  (k : WW p l e R s m args below meth c Q G nL n0 s0 rc rs (pc + 1) (ls) (eI (-x) :: st) (w)) : WW p l e R s m args below meth c Q G nL n0 s0 rc rs (pc) (ls) (eI x :: st) (w) := fun H locs arr h1 h2 h3 h4 hP hS hL => lv_ineg K.1 K.2.1  hd  (k H locs arr h1 h2 h3 h4 hP hS hL)
theorem ww_iushr (K : wc_C p s m args meth c G own cc nL n0) {x y : Int32} (hd : decode cc pc = .ok (.iushr, 1))  (k : WW p l e R s m args below meth c Q G nL n0 s0 rc rs (pc + 1) (ls) (eI (x.toUInt32 >>> (y.toUInt32 &&& Int32.toUInt32 31)).toInt32 :: st) (w)) : WW p l e R s m args below meth c Q G nL n0 s0 rc rs (pc) (ls) (eI y :: eI x :: st) (w) := fun H locs arr h1 h2 h3 h4 hP hS hL => lv_iushr K.1 K.2.1  hd rfl (k H locs arr h1 h2 h3 h4 hP hS hL)
theorem ww_i2l (K : wc_C p s m args meth c G own cc nL n0) {x : Int32} (hd : decode cc pc = .ok (.i2l, 1))  (k : WW p l e R s m args below meth c Q G nL n0 s0 rc rs (pc + 1) (ls) (eJ x.toInt64 :: st) (w)) : WW p l e R s m args below meth c Q G nL n0 s0 rc rs (pc) (ls) (eI x :: st) (w) := fun H locs arr h1 h2 h3 h4 hP hS hL => lv_i2l K.1 K.2.1  hd rfl (k H locs arr h1 h2 h3 h4 hP hS hL)
theorem ww_i2c (K : wc_C p s m args meth c G own cc nL n0) {x : Int32} (hd : decode cc pc = .ok (.i2c, 1))  (k : WW p l e R s m args below meth c Q G nL n0 s0 rc rs (pc + 1) (ls) (eI (x.toUInt32 % 65536).toInt32 :: st) (w)) : WW p l e R s m args below meth c Q G nL n0 s0 rc rs (pc) (ls) (eI x :: st) (w) := fun H locs arr h1 h2 h3 h4 hP hS hL => lv_i2c K.1 K.2.1  hd rfl (k H locs arr h1 h2 h3 h4 hP hS hL)
theorem ww_ladd (K : wc_C p s m args meth c G own cc nL n0) {x y : Int64} (hd : decode cc pc = .ok (.ladd, 1))  (k : WW p l e R s m args below meth c Q G nL n0 s0 rc rs (pc + 1) (ls) (eJ (x + y) :: st) (w)) : WW p l e R s m args below meth c Q G nL n0 s0 rc rs (pc) (ls) (eJ y :: eJ x :: st) (w) := fun H locs arr h1 h2 h3 h4 hP hS hL => lv_ladd K.1 K.2.1  hd  (k H locs arr h1 h2 h3 h4 hP hS hL)
theorem ww_lsub (K : wc_C p s m args meth c G own cc nL n0) {x y : Int64} (hd : decode cc pc = .ok (.lsub, 1))  (k : WW p l e R s m args below meth c Q G nL n0 s0 rc rs (pc + 1) (ls) (eJ (x - y) :: st) (w)) : WW p l e R s m args below meth c Q G nL n0 s0 rc rs (pc) (ls) (eJ y :: eJ x :: st) (w) := fun H locs arr h1 h2 h3 h4 hP hS hL => lv_lsub K.1 K.2.1  hd  (k H locs arr h1 h2 h3 h4 hP hS hL)
theorem ww_lmul (K : wc_C p s m args meth c G own cc nL n0) {x y : Int64} (hd : decode cc pc = .ok (.lmul, 1))  (k : WW p l e R s m args below meth c Q G nL n0 s0 rc rs (pc + 1) (ls) (eJ (x * y) :: st) (w)) : WW p l e R s m args below meth c Q G nL n0 s0 rc rs (pc) (ls) (eJ y :: eJ x :: st) (w) := fun H locs arr h1 h2 h3 h4 hP hS hL => lv_lmul K.1 K.2.1  hd  (k H locs arr h1 h2 h3 h4 hP hS hL)
theorem ww_lcmp (K : wc_C p s m args meth c G own cc nL n0) {x y : Int64} (hd : decode cc pc = .ok (.lcmp, 1))  (k : WW p l e R s m args below meth c Q G nL n0 s0 rc rs (pc + 1) (ls) (eI (lg_cmp x y) :: st) (w)) : WW p l e R s m args below meth c Q G nL n0 s0 rc rs (pc) (ls) (eJ y :: eJ x :: st) (w) := fun H locs arr h1 h2 h3 h4 hP hS hL => W.lcmp K.1 K.2.1  hd  (k H locs arr h1 h2 h3 h4 hP hS hL)
def wc_c1 : EV → Prop
  | .inr (.inl _) => False
  | _ => True
theorem wc_c1_cat {v : EV} (h : wc_c1 v) : (wc_v G v).category = 1 := by
  rcases v with x | x | x | x
  · rfl
  · exact h.elim
  · cases x <;> rfl
  · rfl
theorem ww_dup (K : wc_C p s m args meth c G own cc nL n0) {v : EV} (hd : decode cc pc = .ok (.dup, 1)) (hv : wc_c1 v) (k : WW p l e R s m args below meth c Q G nL n0 s0 rc rs (pc + 1) (ls) (v :: v :: st) (w)) : WW p l e R s m args below meth c Q G nL n0 s0 rc rs (pc) (ls) (v :: st) (w) := fun H locs arr h1 h2 h3 h4 hP hS hL => lv_dup K.1 K.2.1 hd (wc_c1_cat hv) (k H locs arr h1 h2 h3 h4 hP hS hL)
theorem ww_pop (K : wc_C p s m args meth c G own cc nL n0) {v : EV} (hd : decode cc pc = .ok (.pop, 1)) (hv : wc_c1 v) (k : WW p l e R s m args below meth c Q G nL n0 s0 rc rs (pc + 1) (ls) (st) (w)) : WW p l e R s m args below meth c Q G nL n0 s0 rc rs (pc) (ls) (v :: st) (w) := fun H locs arr h1 h2 h3 h4 hP hS hL => lv_pop K.1 K.2.1 hd (wc_c1_cat hv) (k H locs arr h1 h2 h3 h4 hP hS hL)
theorem ww_dup2 (K : wc_C p s m args meth c G own cc nL n0) {v u : EV} (hd : decode cc pc = .ok (.dup2, 1)) (hv : wc_c1 v) (hu : wc_c1 u) (k : WW p l e R s m args below meth c Q G nL n0 s0 rc rs (pc + 1) (ls) (v :: u :: v :: u :: st) (w)) : WW p l e R s m args below meth c Q G nL n0 s0 rc rs (pc) (ls) (v :: u :: st) (w) := fun H locs arr h1 h2 h3 h4 hP hS hL => lv_dup2_11 K.1 K.2.1 hd (wc_c1_cat hv) (wc_c1_cat hu) (k H locs arr h1 h2 h3 h4 hP hS hL)
theorem ww_iload_n (K : wc_C p s m args meth c G own cc nL n0) {k : Fin 4} {x : Int32} (hd : decode cc pc = .ok (.iload_n k, 1)) (hl : ls[(k : Nat)]? = some (some (eI x))) (kk : WW p l e R s m args below meth c Q G nL n0 s0 rc rs (pc + 1) (ls) (eI x :: st) (w)) : WW p l e R s m args below meth c Q G nL n0 s0 rc rs (pc) (ls) (st) (w) := fun H locs arr h1 h2 h3 h4 hP hS hL => lv_iload_n K.1 K.2.1 hd rfl (hL.2.2 _ _ hl) (kk H locs arr h1 h2 h3 h4 hP hS hL)
theorem ww_iload (K : wc_C p s m args meth c G own cc nL n0) {i : Nat} {x : Int32} (hd : decode cc pc = .ok (.iload i, 2)) (hl : ls[i]? = some (some (eI x))) (kk : WW p l e R s m args below meth c Q G nL n0 s0 rc rs (pc + 2) (ls) (eI x :: st) (w)) : WW p l e R s m args below meth c Q G nL n0 s0 rc rs (pc) (ls) (st) (w) := fun H locs arr h1 h2 h3 h4 hP hS hL => lv_iload K.1 K.2.1 hd (hL.2.2 _ _ hl) (kk H locs arr h1 h2 h3 h4 hP hS hL)
theorem ww_lload_n (K : wc_C p s m args meth c G own cc nL n0) {k : Fin 4} {x : Int64} (hd : decode cc pc = .ok (.lload_n k, 1)) (hl : ls[(k : Nat)]? = some (some (eJ x))) (kk : WW p l e R s m args below meth c Q G nL n0 s0 rc rs (pc + 1) (ls) (eJ x :: st) (w)) : WW p l e R s m args below meth c Q G nL n0 s0 rc rs (pc) (ls) (st) (w) := fun H locs arr h1 h2 h3 h4 hP hS hL => lv_lload_n K.1 K.2.1 hd rfl (hL.2.2 _ _ hl) (kk H locs arr h1 h2 h3 h4 hP hS hL)
theorem ww_lload (K : wc_C p s m args meth c G own cc nL n0) {i : Nat} {x : Int64} (hd : decode cc pc = .ok (.lload i, 2)) (hl : ls[i]? = some (some (eJ x))) (kk : WW p l e R s m args below meth c Q G nL n0 s0 rc rs (pc + 2) (ls) (eJ x :: st) (w)) : WW p l e R s m args below meth c Q G nL n0 s0 rc rs (pc) (ls) (st) (w) := fun H locs arr h1 h2 h3 h4 hP hS hL => lv_lload K.1 K.2.1 hd (hL.2.2 _ _ hl) (kk H locs arr h1 h2 h3 h4 hP hS hL)
theorem ww_aload_n (K : wc_C p s m args meth c G own cc nL n0) {k : Fin 4} {x : Nat} (hd : decode cc pc = .ok (.aload_n k, 1)) (hl : ls[(k : Nat)]? = some (some (eR x))) (kk : WW p l e R s m args below meth c Q G nL n0 s0 rc rs (pc + 1) (ls) (eR x :: st) (w)) : WW p l e R s m args below meth c Q G nL n0 s0 rc rs (pc) (ls) (st) (w) := fun H locs arr h1 h2 h3 h4 hP hS hL => lv_aload_n K.1 K.2.1 hd rfl (hL.2.2 _ _ hl) (kk H locs arr h1 h2 h3 h4 hP hS hL)
theorem ww_aload (K : wc_C p s m args meth c G own cc nL n0) {i : Nat} {x : Nat} (hd : decode cc pc = .ok (.aload i, 2)) (hl : ls[i]? = some (some (eR x))) (kk : WW p l e R s m args below meth c Q G nL n0 s0 rc rs (pc + 2) (ls) (eR x :: st) (w)) : WW p l e R s m args below meth c Q G nL n0 s0 rc rs (pc) (ls) (st) (w) := fun H locs arr h1 h2 h3 h4 hP hS hL => lv_aload K.1 K.2.1 hd (hL.2.2 _ _ hl) (kk H locs arr h1 h2 h3 h4 hP hS hL)
theorem ww_aload_nN (K : wc_C p s m args meth c G own cc nL n0) {k : Fin 4} (hd : decode cc pc = .ok (.aload_n k, 1)) (hl : ls[(k : Nat)]? = some (some eN)) (kk : WW p l e R s m args below meth c Q G nL n0 s0 rc rs (pc + 1) (ls) (eN :: st) (w)) : WW p l e R s m args below meth c Q G nL n0 s0 rc rs (pc) (ls) (st) (w) := fun H locs arr h1 h2 h3 h4 hP hS hL => lv_aload_nN K.1 K.2.1 hd rfl (hL.2.2 _ _ hl) (kk H locs arr h1 h2 h3 h4 hP hS hL)
theorem ww_aloadN (K : wc_C p s m args meth c G own cc nL n0) {i : Nat} (hd : decode cc pc = .ok (.aload i, 2)) (hl : ls[i]? = some (some eN)) (kk : WW p l e R s m args below meth c Q G nL n0 s0 rc rs (pc + 2) (ls) (eN :: st) (w)) : WW p l e R s m args below meth c Q G nL n0 s0 rc rs (pc) (ls) (st) (w) := fun H locs arr h1 h2 h3 h4 hP hS hL => lv_aloadN K.1 K.2.1 hd (hL.2.2 _ _ hl) (kk H locs arr h1 h2 h3 h4 hP hS hL)
theorem ww_aload_nK (K : wc_C p s m args meth c G own cc nL n0) {k : Fin 4} {x : Nat} (hd : decode cc pc = .ok (.aload_n k, 1)) (hl : ls[(k : Nat)]? = some (some (eK x))) (kk : WW p l e R s m args below meth c Q G nL n0 s0 rc rs (pc + 1) (ls) (eK x :: st) (w)) : WW p l e R s m args below meth c Q G nL n0 s0 rc rs (pc) (ls) (st) (w) := fun H locs arr h1 h2 h3 h4 hP hS hL => lv_aload_n K.1 K.2.1 hd rfl (hL.2.2 _ _ hl) (kk H locs arr h1 h2 h3 h4 hP hS hL)
theorem ww_aloadK (K : wc_C p s m args meth c G own cc nL n0) {i : Nat} {x : Nat} (hd : decode cc pc = .ok (.aload i, 2)) (hl : ls[i]? = some (some (eK x))) (kk : WW p l e R s m args below meth c Q G nL n0 s0 rc rs (pc + 2) (ls) (eK x :: st) (w)) : WW p l e R s m args below meth c Q G nL n0 s0 rc rs (pc) (ls) (st) (w) := fun H locs arr h1 h2 h3 h4 hP hS hL => lv_aload K.1 K.2.1 hd (hL.2.2 _ _ hl) (kk H locs arr h1 h2 h3 h4 hP hS hL)
theorem ww_istore_n (K : wc_C p s m args meth c G own cc nL n0) {k : Fin 4} {x : Int32} {ls2 : List (Option EV)} (hd : decode cc pc = .ok (.istore_n k, 1)) (hn : (k : Nat) < nL) (hl : wc_st ls k (eI x) = ls2) (kk : WW p l e R s m args below meth c Q G nL n0 s0 rc rs (pc + 1) (ls2) (st) (w)) : WW p l e R s m args below meth c Q G nL n0 s0 rc rs (pc) (ls) (eI x :: st) (w) := fun H locs arr h1 h2 h3 h4 hP hS hL => lv_istore_n K.1 K.2.1 hd rfl (wc_LR_has hL) hn rfl (fun arr2 ha => kk H locs arr2 h1 h2 h3 h4 hP hS (hl ▸ wc_LR_st (arr := arr) ha))
theorem ww_istore (K : wc_C p s m args meth c G own cc nL n0) {i : Nat} {x : Int32} {ls2 : List (Option EV)} (hd : decode cc pc = .ok (.istore i, 2)) (hn : i < nL) (hl : wc_st ls i (eI x) = ls2) (kk : WW p l e R s m args below meth c Q G nL n0 s0 rc rs (pc + 2) (ls2) (st) (w)) : WW p l e R s m args below meth c Q G nL n0 s0 rc rs (pc) (ls) (eI x :: st) (w) := fun H locs arr h1 h2 h3 h4 hP hS hL => lv_istore K.1 K.2.1 hd (wc_LR_has hL) hn rfl (fun arr2 ha => kk H locs arr2 h1 h2 h3 h4 hP hS (hl ▸ wc_LR_st (arr := arr) ha))
theorem ww_astore_n (K : wc_C p s m args meth c G own cc nL n0) {k : Fin 4} {x : Nat} {ls2 : List (Option EV)} (hd : decode cc pc = .ok (.astore_n k, 1)) (hn : (k : Nat) < nL) (hl : wc_st ls k (eR x) = ls2) (kk : WW p l e R s m args below meth c Q G nL n0 s0 rc rs (pc + 1) (ls2) (st) (w)) : WW p l e R s m args below meth c Q G nL n0 s0 rc rs (pc) (ls) (eR x :: st) (w) := fun H locs arr h1 h2 h3 h4 hP hS hL => lv_astore_n K.1 K.2.1 hd rfl (wc_LR_has hL) hn rfl (fun arr2 ha => kk H locs arr2 h1 h2 h3 h4 hP hS (hl ▸ wc_LR_st (arr := arr) ha))
theorem ww_astore (K : wc_C p s m args meth c G own cc nL n0) {i : Nat} {x : Nat} {ls2 : List (Option EV)} (hd : decode cc pc = .ok (.astore i, 2)) (hn : i < nL) (hl : wc_st ls i (eR x) = ls2) (kk : WW p l e R s m args below meth c Q G nL n0 s0 rc rs (pc + 2) (ls2) (st) (w)) : WW p l e R s m args below meth c Q G nL n0 s0 rc rs (pc) (ls) (eR x :: st) (w) := fun H locs arr h1 h2 h3 h4 hP hS hL => lv_astore K.1 K.2.1 hd (wc_LR_has hL) hn rfl (fun arr2 ha => kk H locs arr2 h1 h2 h3 h4 hP hS (hl ▸ wc_LR_st (arr := arr) ha))
theorem ww_astore_nN (K : wc_C p s m args meth c G own cc nL n0) {k : Fin 4} {ls2 : List (Option EV)} (hd : decode cc pc = .ok (.astore_n k, 1)) (hn : (k : Nat) < nL) (hl : wc_st ls k eN = ls2) (kk : WW p l e R s m args below meth c Q G nL n0 s0 rc rs (pc + 1) (ls2) (st) (w)) : WW p l e R s m args below meth c Q G nL n0 s0 rc rs (pc) (ls) (eN :: st) (w) := fun H locs arr h1 h2 h3 h4 hP hS hL => lv_astore_nN K.1 K.2.1 hd rfl (wc_LR_has hL) hn rfl (fun arr2 ha => kk H locs arr2 h1 h2 h3 h4 hP hS (hl ▸ wc_LR_st (v := eN) (arr := arr) ha))
theorem ww_astoreN (K : wc_C p s m args meth c G own cc nL n0) {i : Nat} {ls2 : List (Option EV)} (hd : decode cc pc = .ok (.astore i, 2)) (hn : i < nL) (hl : wc_st ls i eN = ls2) (kk : WW p l e R s m args below meth c Q G nL n0 s0 rc rs (pc + 2) (ls2) (st) (w)) : WW p l e R s m args below meth c Q G nL n0 s0 rc rs (pc) (ls) (eN :: st) (w) := fun H locs arr h1 h2 h3 h4 hP hS hL => lv_astoreN K.1 K.2.1 hd (wc_LR_has hL) hn rfl (fun arr2 ha => kk H locs arr2 h1 h2 h3 h4 hP hS (hl ▸ wc_LR_st (v := eN) (arr := arr) ha))
theorem ww_lstore_n (K : wc_C p s m args meth c G own cc nL n0) {k : Fin 4} {x : Int64} {ls2 : List (Option EV)} (hd : decode cc pc = .ok (.lstore_n k, 1)) (hn : (k : Nat) + 1 < nL) (hl : wc_st2 ls k (eJ x) = ls2) (kk : WW p l e R s m args below meth c Q G nL n0 s0 rc rs (pc + 1) (ls2) (st) (w)) : WW p l e R s m args below meth c Q G nL n0 s0 rc rs (pc) (ls) (eJ x :: st) (w) := fun H locs arr h1 h2 h3 h4 hP hS hL => lv_lstore_n K.1 K.2.1 hd rfl (wc_LR_has hL) hn rfl (fun arr2 ha => kk H locs arr2 h1 h2 h3 h4 hP hS (hl ▸ wc_LR_st2 (arr := arr) ha))
theorem ww_iinc (K : wc_C p s m args meth c G own cc nL n0) {i : Nat} {n : Int} {x : Int32} {ls2 : List (Option EV)} (hd : decode cc pc = .ok (.iinc i n, 3)) (hn : i < nL) (hx : ls[i]? = some (some (eI x))) (hl : wc_st ls i (eI (x + Int32.ofInt n)) = ls2) (kk : WW p l e R s m args below meth c Q G nL n0 s0 rc rs (pc + 3) (ls2) (st) (w)) : WW p l e R s m args below meth c Q G nL n0 s0 rc rs (pc) (ls) (st) (w) := fun H locs arr h1 h2 h3 h4 hP hS hL => by
  obtain ⟨k, hk⟩ := List.getElem?_of_mem (wc_ll_in (G := G) hx)
  exact lv_iinc K.1 K.2.1 hd (wc_LR_has hL) hk rfl hn rfl (fun arr2 ha => kk H locs arr2 h1 h2 h3 h4 hP hS (hl ▸ wc_LR_st (v := eI (x + Int32.ofInt n)) (arr := arr) ha))
theorem ww_if_eq (K : wc_C p s m args meth c G own cc nL n0) {x : Int32} {off : Int} {tgt : Nat} (hd : decode cc pc = .ok (.ifCond .eq off, 3)) (ht : (pc : Int) + off = (tgt : Int)) (kt : x = 0 → WW p l e R s m args below meth c Q G nL n0 s0 rc rs (tgt) (ls) (st) (w)) (kf : ¬ x = 0 → WW p l e R s m args below meth c Q G nL n0 s0 rc rs (pc + 3) (ls) (st) (w)) : WW p l e R s m args below meth c Q G nL n0 s0 rc rs (pc) (ls) (eI x :: st) (w) := fun H locs arr h1 h2 h3 h4 hP hS hL => lv_if_eq K.1 K.2.1 hd ht (fun h => kt h H locs arr h1 h2 h3 h4 hP hS hL) (fun h => kf h H locs arr h1 h2 h3 h4 hP hS hL)
theorem ww_icmp_eq (K : wc_C p s m args meth c G own cc nL n0) {x y : Int32} {off : Int} {tgt : Nat} (hd : decode cc pc = .ok (.if_icmp .eq off, 3)) (ht : (pc : Int) + off = (tgt : Int)) (kt : x = y → WW p l e R s m args below meth c Q G nL n0 s0 rc rs (tgt) (ls) (st) (w)) (kf : ¬ x = y → WW p l e R s m args below meth c Q G nL n0 s0 rc rs (pc + 3) (ls) (st) (w)) : WW p l e R s m args below meth c Q G nL n0 s0 rc rs (pc) (ls) (eI y :: eI x :: st) (w) := fun H locs arr h1 h2 h3 h4 hP hS hL => lv_icmp_eq K.1 K.2.1 hd ht (fun h => kt h H locs arr h1 h2 h3 h4 hP hS hL) (fun h => kf h H locs arr h1 h2 h3 h4 hP hS hL)
theorem ww_if_ne (K : wc_C p s m args meth c G own cc nL n0) {x : Int32} {off : Int} {tgt : Nat} (hd : decode cc pc = .ok (.ifCond .ne off, 3)) (ht : (pc : Int) + off = (tgt : Int)) (kt : ¬ x = 0 → WW p l e R s m args below meth c Q G nL n0 s0 rc rs (tgt) (ls) (st) (w)) (kf : x = 0 → WW p l e R s m args below meth c Q G nL n0 s0 rc rs (pc + 3) (ls) (st) (w)) : WW p l e R s m args below meth c Q G nL n0 s0 rc rs (pc) (ls) (eI x :: st) (w) := fun H locs arr h1 h2 h3 h4 hP hS hL => lv_if_ne K.1 K.2.1 hd ht (fun h => kt h H locs arr h1 h2 h3 h4 hP hS hL) (fun h => kf h H locs arr h1 h2 h3 h4 hP hS hL)
theorem ww_icmp_ne (K : wc_C p s m args meth c G own cc nL n0) {x y : Int32} {off : Int} {tgt : Nat} (hd : decode cc pc = .ok (.if_icmp .ne off, 3)) (ht : (pc : Int) + off = (tgt : Int)) (kt : ¬ x = y → WW p l e R s m args below meth c Q G nL n0 s0 rc rs (tgt) (ls) (st) (w)) (kf : x = y → WW p l e R s m args below meth c Q G nL n0 s0 rc rs (pc + 3) (ls) (st) (w)) : WW p l e R s m args below meth c Q G nL n0 s0 rc rs (pc) (ls) (eI y :: eI x :: st) (w) := fun H locs arr h1 h2 h3 h4 hP hS hL => lv_icmp_ne K.1 K.2.1 hd ht (fun h => kt h H locs arr h1 h2 h3 h4 hP hS hL) (fun h => kf h H locs arr h1 h2 h3 h4 hP hS hL)
theorem ww_if_lt (K : wc_C p s m args meth c G own cc nL n0) {x : Int32} {off : Int} {tgt : Nat} (hd : decode cc pc = .ok (.ifCond .lt off, 3)) (ht : (pc : Int) + off = (tgt : Int)) (kt : x < 0 → WW p l e R s m args below meth c Q G nL n0 s0 rc rs (tgt) (ls) (st) (w)) (kf : ¬ x < 0 → WW p l e R s m args below meth c Q G nL n0 s0 rc rs (pc + 3) (ls) (st) (w)) : WW p l e R s m args below meth c Q G nL n0 s0 rc rs (pc) (ls) (eI x :: st) (w) := fun H locs arr h1 h2 h3 h4 hP hS hL => lv_if_lt K.1 K.2.1 hd ht (fun h => kt h H locs arr h1 h2 h3 h4 hP hS hL) (fun h => kf h H locs arr h1 h2 h3 h4 hP hS hL)
theorem ww_icmp_lt (K : wc_C p s m args meth c G own cc nL n0) {x y : Int32} {off : Int} {tgt : Nat} (hd : decode cc pc = .ok (.if_icmp .lt off, 3)) (ht : (pc : Int) + off = (tgt : Int)) (kt : x < y → WW p l e R s m args below meth c Q G nL n0 s0 rc rs (tgt) (ls) (st) (w)) (kf : ¬ x < y → WW p l e R s m args below meth c Q G nL n0 s0 rc rs (pc + 3) (ls) (st) (w)) : WW p l e R s m args below meth c Q G nL n0 s0 rc rs (pc) (ls) (eI y :: eI x :: st) (w) := fun H locs arr h1 h2 h3 h4 hP hS hL => lv_icmp_lt K.1 K.2.1 hd ht (fun h => kt h H locs arr h1 h2 h3 h4 hP hS hL) (fun h => kf h H locs arr h1 h2 h3 h4 hP hS hL)
theorem ww_if_ge (K : wc_C p s m args meth c G own cc nL n0) {x : Int32} {off : Int} {tgt : Nat} (hd : decode cc pc = .ok (.ifCond .ge off, 3)) (ht : (pc : Int) + off = (tgt : Int)) (kt : 0 ≤ x → WW p l e R s m args below meth c Q G nL n0 s0 rc rs (tgt) (ls) (st) (w)) (kf : ¬ 0 ≤ x → WW p l e R s m args below meth c Q G nL n0 s0 rc rs (pc + 3) (ls) (st) (w)) : WW p l e R s m args below meth c Q G nL n0 s0 rc rs (pc) (ls) (eI x :: st) (w) := fun H locs arr h1 h2 h3 h4 hP hS hL => lv_if_ge K.1 K.2.1 hd ht (fun h => kt h H locs arr h1 h2 h3 h4 hP hS hL) (fun h => kf h H locs arr h1 h2 h3 h4 hP hS hL)
theorem ww_icmp_ge (K : wc_C p s m args meth c G own cc nL n0) {x y : Int32} {off : Int} {tgt : Nat} (hd : decode cc pc = .ok (.if_icmp .ge off, 3)) (ht : (pc : Int) + off = (tgt : Int)) (kt : y ≤ x → WW p l e R s m args below meth c Q G nL n0 s0 rc rs (tgt) (ls) (st) (w)) (kf : ¬ y ≤ x → WW p l e R s m args below meth c Q G nL n0 s0 rc rs (pc + 3) (ls) (st) (w)) : WW p l e R s m args below meth c Q G nL n0 s0 rc rs (pc) (ls) (eI y :: eI x :: st) (w) := fun H locs arr h1 h2 h3 h4 hP hS hL => lv_icmp_ge K.1 K.2.1 hd ht (fun h => kt h H locs arr h1 h2 h3 h4 hP hS hL) (fun h => kf h H locs arr h1 h2 h3 h4 hP hS hL)
theorem ww_if_gt (K : wc_C p s m args meth c G own cc nL n0) {x : Int32} {off : Int} {tgt : Nat} (hd : decode cc pc = .ok (.ifCond .gt off, 3)) (ht : (pc : Int) + off = (tgt : Int)) (kt : 0 < x → WW p l e R s m args below meth c Q G nL n0 s0 rc rs (tgt) (ls) (st) (w)) (kf : ¬ 0 < x → WW p l e R s m args below meth c Q G nL n0 s0 rc rs (pc + 3) (ls) (st) (w)) : WW p l e R s m args below meth c Q G nL n0 s0 rc rs (pc) (ls) (eI x :: st) (w) := fun H locs arr h1 h2 h3 h4 hP hS hL => lv_if_gt K.1 K.2.1 hd ht (fun h => kt h H locs arr h1 h2 h3 h4 hP hS hL) (fun h => kf h H locs arr h1 h2 h3 h4 hP hS hL)
theorem ww_icmp_gt (K : wc_C p s m args meth c G own cc nL n0) {x y : Int32} {off : Int} {tgt : Nat} (hd : decode cc pc = .ok (.if_icmp .gt off, 3)) (ht : (pc : Int) + off = (tgt : Int)) (kt : y < x → WW p l e R s m args below meth c Q G nL n0 s0 rc rs (tgt) (ls) (st) (w)) (kf : ¬ y < x → WW p l e R s m args below meth c Q G nL n0 s0 rc rs (pc + 3) (ls) (st) (w)) : WW p l e R s m args below meth c Q G nL n0 s0 rc rs (pc) (ls) (eI y :: eI x :: st) (w) := fun H locs arr h1 h2 h3 h4 hP hS hL => lv_icmp_gt K.1 K.2.1 hd ht (fun h => kt h H locs arr h1 h2 h3 h4 hP hS hL) (fun h => kf h H locs arr h1 h2 h3 h4 hP hS hL)
theorem ww_if_le (K : wc_C p s m args meth c G own cc nL n0) {x : Int32} {off : Int} {tgt : Nat} (hd : decode cc pc = .ok (.ifCond .le off, 3)) (ht : (pc : Int) + off = (tgt : Int)) (kt : x ≤ 0 → WW p l e R s m args below meth c Q G nL n0 s0 rc rs (tgt) (ls) (st) (w)) (kf : ¬ x ≤ 0 → WW p l e R s m args below meth c Q G nL n0 s0 rc rs (pc + 3) (ls) (st) (w)) : WW p l e R s m args below meth c Q G nL n0 s0 rc rs (pc) (ls) (eI x :: st) (w) := fun H locs arr h1 h2 h3 h4 hP hS hL => lv_if_le K.1 K.2.1 hd ht (fun h => kt h H locs arr h1 h2 h3 h4 hP hS hL) (fun h => kf h H locs arr h1 h2 h3 h4 hP hS hL)
theorem ww_icmp_le (K : wc_C p s m args meth c G own cc nL n0) {x y : Int32} {off : Int} {tgt : Nat} (hd : decode cc pc = .ok (.if_icmp .le off, 3)) (ht : (pc : Int) + off = (tgt : Int)) (kt : x ≤ y → WW p l e R s m args below meth c Q G nL n0 s0 rc rs (tgt) (ls) (st) (w)) (kf : ¬ x ≤ y → WW p l e R s m args below meth c Q G nL n0 s0 rc rs (pc + 3) (ls) (st) (w)) : WW p l e R s m args below meth c Q G nL n0 s0 rc rs (pc) (ls) (eI y :: eI x :: st) (w) := fun H locs arr h1 h2 h3 h4 hP hS hL => lv_icmp_le K.1 K.2.1 hd ht (fun h => kt h H locs arr h1 h2 h3 h4 hP hS hL) (fun h => kf h H locs arr h1 h2 h3 h4 hP hS hL)
theorem ww_goto (K : wc_C p s m args meth c G own cc nL n0) {off : Int} {tgt : Nat} (hd : decode cc pc = .ok (.goto off, 3)) (ht : (pc : Int) + off = (tgt : Int)) (k : WW p l e R s m args below meth c Q G nL n0 s0 rc rs (tgt) (ls) (st) (w)) : WW p l e R s m args below meth c Q G nL n0 s0 rc rs (pc) (ls) (st) (w) := fun H locs arr h1 h2 h3 h4 hP hS hL => lv_goto K.1 K.2.1 hd ht (k H locs arr h1 h2 h3 h4 hP hS hL)
theorem ww_ifnull (K : wc_C p s m args meth c G own cc nL n0) {x : Nat} {off : Int} (hd : decode cc pc = .ok (.ifnull off, 3)) (k : WW p l e R s m args below meth c Q G nL n0 s0 rc rs (pc + 3) (ls) (st) (w)) : WW p l e R s m args below meth c Q G nL n0 s0 rc rs (pc) (ls) (eR x :: st) (w) := fun H locs arr h1 h2 h3 h4 hP hS hL => lv_ifnull K.1 K.2.1 hd (k H locs arr h1 h2 h3 h4 hP hS hL)
theorem ww_ifnullN (K : wc_C p s m args meth c G own cc nL n0) {off : Int} {tgt : Nat} (hd : decode cc pc = .ok (.ifnull off, 3)) (ht : (pc : Int) + off = (tgt : Int)) (k : WW p l e R s m args below meth c Q G nL n0 s0 rc rs (tgt) (ls) (st) (w)) : WW p l e R s m args below meth c Q G nL n0 s0 rc rs (pc) (ls) (eN :: st) (w) := fun H locs arr h1 h2 h3 h4 hP hS hL => lv_ifnullN K.1 K.2.1 hd ht (k H locs arr h1 h2 h3 h4 hP hS hL)
theorem ww_ifnonnull (K : wc_C p s m args meth c G own cc nL n0) {x : Nat} {off : Int} {tgt : Nat} (hd : decode cc pc = .ok (.ifnonnull off, 3)) (ht : (pc : Int) + off = (tgt : Int)) (k : WW p l e R s m args below meth c Q G nL n0 s0 rc rs (tgt) (ls) (st) (w)) : WW p l e R s m args below meth c Q G nL n0 s0 rc rs (pc) (ls) (eR x :: st) (w) := fun H locs arr h1 h2 h3 h4 hP hS hL => lv_ifnonnull K.1 K.2.1 hd ht (k H locs arr h1 h2 h3 h4 hP hS hL)
theorem ww_ifnonnullN (K : wc_C p s m args meth c G own cc nL n0) {off : Int} (hd : decode cc pc = .ok (.ifnonnull off, 3)) (k : WW p l e R s m args below meth c Q G nL n0 s0 rc rs (pc + 3) (ls) (st) (w)) : WW p l e R s m args below meth c Q G nL n0 s0 rc rs (pc) (ls) (eN :: st) (w) := fun H locs arr h1 h2 h3 h4 hP hS hL => lv_ifnonnullN K.1 K.2.1 hd (k H locs arr h1 h2 h3 h4 hP hS hL)
theorem ww_tableOut (K : wc_C p s m args meth c G own cc nL n0) {dflt lo hi : Int} {offs : Array Int} {len : Nat} {x : Int32} {tgt : Nat} (hd : decode cc pc = .ok (.tableswitch dflt lo hi offs, len)) (h : x.toInt < lo ∨ hi < x.toInt) (ht : (pc : Int) + dflt = (tgt : Int)) (k : WW p l e R s m args below meth c Q G nL n0 s0 rc rs (tgt) (ls) (st) (w)) : WW p l e R s m args below meth c Q G nL n0 s0 rc rs (pc) (ls) (eI x :: st) (w) := fun H locs arr h1 h2 h3 h4 hP hS hL => lv_tableOut K.1 K.2.1 hd h ht (k H locs arr h1 h2 h3 h4 hP hS hL)
theorem ww_tableIn (K : wc_C p s m args meth c G own cc nL n0) {dflt lo hi : Int} {offs : Array Int} {len : Nat} {x : Int32} {off : Int} {tgt : Nat} (hd : decode cc pc = .ok (.tableswitch dflt lo hi offs, len)) (ha : ¬ x.toInt < lo) (hb : ¬ hi < x.toInt) (ho : offs[(x.toInt - lo).toNat]? = some off) (ht : (pc : Int) + off = (tgt : Int)) (k : WW p l e R s m args below meth c Q G nL n0 s0 rc rs (tgt) (ls) (st) (w)) : WW p l e R s m args below meth c Q G nL n0 s0 rc rs (pc) (ls) (eI x :: st) (w) := fun H locs arr h1 h2 h3 h4 hP hS hL => lv_tableIn K.1 K.2.1 hd ha hb ho ht (k H locs arr h1 h2 h3 h4 hP hS hL)
theorem ww_lookup (K : wc_C p s m args meth c G own cc nL n0) {dflt : Int} {ps : Array (Int × Int)} {len : Nat} {x : Int32} {off : Int} {tgt : Nat} (hd : decode cc pc = .ok (.lookupswitch dflt ps, len)) (hp : (ps.toList.zip (ps.toList.drop 1)).all (fun (a, next) => a.1 < next.1) = true) (ho : Op.lookupswitch.offset ps.toList dflt x.toInt = off) (ht : (pc : Int) + off = (tgt : Int)) (k : WW p l e R s m args below meth c Q G nL n0 s0 rc rs (tgt) (ls) (st) (w)) : WW p l e R s m args below meth c Q G nL n0 s0 rc rs (pc) (ls) (eI x :: st) (w) := fun H locs arr h1 h2 h3 h4 hP hS hL => lv_lookup K.1 K.2.1 hd hp ho ht (k H locs arr h1 h2 h3 h4 hP hS hL)
theorem ww_ldc (K : wc_C p s m args meth c G own cc nL n0) {idx : Nat} {v : Int32} (hd : decode cc pc = .ok (.ldc idx, 2)) (hw : Cond.constant own idx v ∈ wc_B) (k : WW p l e R s m args below meth c Q G nL n0 s0 rc rs (pc + 2) (ls) (eI v :: st) (w)) : WW p l e R s m args below meth c Q G nL n0 s0 rc rs (pc) (ls) (st) (w) := fun H locs arr h1 h2 h3 h4 hP hS hL => lv_ldc K.1 K.2.1 K.2.2.2.1 (K.2.2.2.2.1 _ hw) hd (k H locs arr h1 h2 h3 h4 hP hS hL)
theorem ww_ldcw (K : wc_C p s m args meth c G own cc nL n0) {idx : Nat} {v : Int32} (hd : decode cc pc = .ok (.ldc_w idx, 3)) (hw : Cond.constant own idx v ∈ wc_B) (k : WW p l e R s m args below meth c Q G nL n0 s0 rc rs (pc + 3) (ls) (eI v :: st) (w)) : WW p l e R s m args below meth c Q G nL n0 s0 rc rs (pc) (ls) (st) (w) := fun H locs arr h1 h2 h3 h4 hP hS hL => lv_ldcw K.1 K.2.1 K.2.2.2.1 (K.2.2.2.2.1 _ hw) hd (k H locs arr h1 h2 h3 h4 hP hS hL)
theorem ww_ldc2 (K : wc_C p s m args meth c G own cc nL n0) {idx : Nat} {v : Int64} (hd : decode cc pc = .ok (.ldc2_w idx, 3)) (hw : Cond.constantLong own idx v ∈ wc_B) (k : WW p l e R s m args below meth c Q G nL n0 s0 rc rs (pc + 3) (ls) (eJ v :: st) (w)) : WW p l e R s m args below meth c Q G nL n0 s0 rc rs (pc) (ls) (st) (w) := fun H locs arr h1 h2 h3 h4 hP hS hL => lv_ldc2 K.1 K.2.1 K.2.2.2.1 (K.2.2.2.2.1 _ hw) hd (k H locs arr h1 h2 h3 h4 hP hS hL)
theorem ww_get (K : wc_C p s m args meth c G own cc nL n0) {k ci j idx : Nat} {fs : List EV} {v : EV} (hd : decode cc pc = .ok (.getfield idx, 3)) (hF : wc_fld own idx ci j) (hk : w[k]? = some (cO ci fs)) (hv : fs[j]? = some v) (kk : WW p l e R s m args below meth c Q G nL n0 s0 rc rs (pc + 3) (ls) (v :: st) (w)) : WW p l e R s m args below meth c Q G nL n0 s0 rc rs (pc) (ls) (eR k :: st) (w) := fun H locs arr h1 h2 h3 h4 hP hS hL => by
  obtain ⟨C, T, N, f1, f2, f3, f4⟩ := hF
  exact va_get K.1 K.2.1 K.2.2.2.2.1 f4 K.2.2.2.1 K.2.2.2.2.2.1.1 hP k (wc_l_get hk) f1 j f2 (K.2.2.2.2.1 _ f3) (fun _ h9 => h9) (v := wc_v G v) (by rw [List.getElem?_map, hv]; rfl) hd (kk H locs arr h1 h2 h3 h4 hP hS hL)
theorem ww_put (K : wc_C p s m args meth c G own cc nL n0) {k ci j idx : Nat} {fs : List EV} {v : EV} {ty : FieldType} (hd : decode cc pc = .ok (.putfield idx, 3)) (hF : wc_fpt own idx ci j false ty) (hk : w[k]? = some (cO ci fs)) (hj : j < fs.length) (hn : narrow ty (wc_v G v) = wc_v G v) (hf : fits ty (wc_v G v) = true) (kk : WW p l e R s m args below meth c Q G nL n0 s0 rc rs (pc + 3) (ls) (st) (w.set k (cO ci (fs.set j v)))) : WW p l e R s m args below meth c Q G nL n0 s0 rc rs (pc) (ls) (v :: eR k :: st) (w) := fun H locs arr h1 h2 h3 h4 hP hS hL => by
  obtain ⟨C, T, N, ty0, f1, f2, f3, f4, f5, f6, f7, f8, -⟩ := hF
  refine va_put K.1 K.2.1 K.2.2.2.2.1 f4 ty0 f5 f6 K.2.2.2.1 K.2.2.2.2.2.1.1 hP wc_D hS k (wc_l_get hk) f1 j f2 (K.2.2.2.2.1 _ f3) (fun _ h9 => h9) f7 f8 hn hf (by rw [List.length_map]; exact hj) hd (fun H1 locs1 hP1 _ hS1 => ?_)
  have e1 : wc_c G (cO ci (fs.set j v)) = .inr (ci, (fs.map (wc_v G)).set j (wc_v G v)) := by simp [wc_c]
  rw [← e1, wc_l_set] at hP1
  have e2 := wc_SL_set (d := cO ci (fs.set j v)) hk (by simp [wc_sl])
  have hk2 := kk H1 locs1 arr (by rw [List.length_set]; exact h1) (by rw [e2]; exact h2) (by rw [List.length_set]; exact h3) (by rw [e2]; exact h4) hP1 hS1 hL
  rw [List.length_set, e2] at hk2
  exact hk2
theorem ww_putF (K : wc_C p s m args meth c G own cc nL n0) {k ci j idx : Nat} {fs : List EV} {v : EV} {ty : FieldType} (hin : meth.name = "<init>") (hd : decode cc pc = .ok (.putfield idx, 3)) (hF : wc_fpt own idx ci j true ty) (hC : ∀ q, vwCl[ci]? = some q → q.1 = own) (hk : w[k]? = some (cO ci fs)) (hj : j < fs.length) (hn : narrow ty (wc_v G v) = wc_v G v) (hf : fits ty (wc_v G v) = true) (kk : WW p l e R s m args below meth c Q G nL n0 s0 rc rs (pc + 3) (ls) (st) (w.set k (cO ci (fs.set j v)))) : WW p l e R s m args below meth c Q G nL n0 s0 rc rs (pc) (ls) (v :: eR k :: st) (w) := fun H locs arr h1 h2 h3 h4 hP hS hL => by
  obtain ⟨C, T, N, ty0, f1, f2, f3, f4, f5, f6, f7, f8, f9⟩ := hF
  refine va_putF K.1 K.2.1 K.2.2.2.2.1 f4 ty0 f5 f6 K.2.2.2.1 K.2.2.2.2.2.1.1 hP wc_D hS k (wc_l_get hk) f1 j f2 (K.2.2.2.2.1 _ f3) (fun _ h9 => h9) f7 hin (f9.trans (hC _ f1)) f8 hn hf (by rw [List.length_map]; exact hj) hd (fun H1 locs1 hP1 _ hS1 => ?_)
  have e1 : wc_c G (cO ci (fs.set j v)) = .inr (ci, (fs.map (wc_v G)).set j (wc_v G v)) := by simp [wc_c]
  rw [← e1, wc_l_set] at hP1
  have e2 := wc_SL_set (d := cO ci (fs.set j v)) hk (by simp [wc_sl])
  have hk2 := kk H1 locs1 arr (by rw [List.length_set]; exact h1) (by rw [e2]; exact h2) (by rw [List.length_set]; exact h3) (by rw [e2]; exact h4) hP1 hS1 hL
  rw [List.length_set, e2] at hk2
  exact hk2
theorem ww_getsM (K : wc_C p s m args meth c G own cc nL n0) {idx : Nat} (hd : decode cc pc = .ok (.getstatic idx, 3)) (hw : Cond.fieldLink own idx RX6 "MOST_OF_A_TEXT" "[I" ∈ wc_B) (k : WW p l e R s m args below meth c Q G nL n0 s0 rc rs (pc + 3) (ls) (eK 0 :: st) (w)) : WW p l e R s m args below meth c Q G nL n0 s0 rc rs (pc) (ls) (st) (w) := fun H locs arr h1 h2 h3 h4 hP hS hL => va_gets K.1 K.2.1 K.2.2.2.2.2.1.2.2.2.1 hS K.2.2.2.1 (K.2.2.2.2.1 _ hw) (fun _ h9 => h9) hd (k H locs arr h1 h2 h3 h4 hP hS hL)
theorem ww_getsF (K : wc_C p s m args meth c G own cc nL n0) {idx : Nat} (hd : decode cc pc = .ok (.getstatic idx, 3)) (hw : Cond.fieldLink own idx RX6 "FACTORIALS" "[I" ∈ wc_B) (k : WW p l e R s m args below meth c Q G nL n0 s0 rc rs (pc + 3) (ls) (eK 1 :: st) (w)) : WW p l e R s m args below meth c Q G nL n0 s0 rc rs (pc) (ls) (st) (w) := fun H locs arr h1 h2 h3 h4 hP hS hL => va_gets K.1 K.2.1 K.2.2.2.2.2.1.2.2.2.2.1 hS K.2.2.2.1 (K.2.2.2.2.1 _ hw) (fun _ h9 => h9) hd (k H locs arr h1 h2 h3 h4 hP hS hL)
theorem ww_iald (K : wc_C p s m args meth c G own cc nL n0) {k n : Nat} {f : Nat → Int32} {i : Int32} (hd : decode cc pc = .ok (.iaload, 1)) (hk : w[k]? = some (cI 0 n f)) (hin : vp_in i n) (kk : WW p l e R s m args below meth c Q G nL n0 s0 rc rs (pc + 1) (ls) (eI (f i.toNatClampNeg) :: st) (w)) : WW p l e R s m args below meth c Q G nL n0 s0 rc rs (pc) (ls) (eI i :: eR k :: st) (w) := fun H locs arr h1 h2 h3 h4 hP hS hL => va_iald K.1 K.2.1 K.2.2.2.2.2.1.1 hP k 0 (wc_l_get hk) rfl hin hd (kk H locs arr h1 h2 h3 h4 hP hS hL)
theorem ww_zald (K : wc_C p s m args meth c G own cc nL n0) {k n : Nat} {f : Nat → Int32} {i : Int32} (hd : decode cc pc = .ok (.baload, 1)) (hk : w[k]? = some (cI 1 n f)) (hin : vp_in i n) (kk : WW p l e R s m args below meth c Q G nL n0 s0 rc rs (pc + 1) (ls) (eI (f i.toNatClampNeg) :: st) (w)) : WW p l e R s m args below meth c Q G nL n0 s0 rc rs (pc) (ls) (eI i :: eR k :: st) (w) := fun H locs arr h1 h2 h3 h4 hP hS hL => va_zald K.1 K.2.1 K.2.2.2.2.2.1.1 hP k 1 (wc_l_get hk) rfl hin hd (kk H locs arr h1 h2 h3 h4 hP hS hL)
theorem ww_ialdK (K : wc_C p s m args meth c G own cc nL n0) {k : Nat} {i : Int32} (hd : decode cc pc = .ok (.iaload, 1)) (hk : k < 3) (hin : vp_in i (gL G k)) (kk : WW p l e R s m args below meth c Q G nL n0 s0 rc rs (pc + 1) (ls) (eI (gF G k i.toNatClampNeg) :: st) (w)) : WW p l e R s m args below meth c Q G nL n0 s0 rc rs (pc) (ls) (eI i :: eK k :: st) (w) := fun H locs arr h1 h2 h3 h4 hP hS hL => va_ti K.1 K.2.1 (K.2.2.2.2.2.1.2.2.1 k hk) hS hin rfl hd (kk H locs arr h1 h2 h3 h4 hP hS hL)
theorem ww_alenK (K : wc_C p s m args meth c G own cc nL n0) {k : Nat} (hd : decode cc pc = .ok (.arraylength, 1)) (hk : k < 3) (kk : WW p l e R s m args below meth c Q G nL n0 s0 rc rs (pc + 1) (ls) (eI (Int32.ofNat (gL G k)) :: st) (w)) : WW p l e R s m args below meth c Q G nL n0 s0 rc rs (pc) (ls) (eK k :: st) (w) := fun H locs arr h1 h2 h3 h4 hP hS hL => va_tlen K.1 K.2.1 (K.2.2.2.2.2.1.2.2.1 k hk) hS rfl hd (kk H locs arr h1 h2 h3 h4 hP hS hL)
theorem ww_alen (K : wc_C p s m args meth c G own cc nL n0) {k t n : Nat} {f : Nat → Int32} (hd : decode cc pc = .ok (.arraylength, 1)) (hk : w[k]? = some (cI t n f)) (ht : t < 5) (kk : WW p l e R s m args below meth c Q G nL n0 s0 rc rs (pc + 1) (ls) (eI (Int32.ofNat n) :: st) (w)) : WW p l e R s m args below meth c Q G nL n0 s0 rc rs (pc) (ls) (eR k :: st) (w) := fun H locs arr h1 h2 h3 h4 hP hS hL => by
  have h5 : ∃ ty, (wc_tys G)[t]? = some (gY G t, ty) := by
    rcases (by omega : t = 0 ∨ t = 1 ∨ t = 2 ∨ t = 3 ∨ t = 4) with rfl | rfl | rfl | rfl | rfl <;> exact ⟨_, rfl⟩
  obtain ⟨ty, h5⟩ := h5
  exact va_alen K.1 K.2.1 K.2.2.2.2.2.1.1 hP k t (wc_l_get hk) h5 rfl hd (kk H locs arr h1 h2 h3 h4 hP hS hL)
theorem ww_alenq (K : wc_C p s m args meth c G own cc nL n0) {k t n : Nat} {f : Nat → Option Nat} (hd : decode cc pc = .ok (.arraylength, 1)) (hk : w[k]? = some (cQ t n f)) (ht : t < 5) (kk : WW p l e R s m args below meth c Q G nL n0 s0 rc rs (pc + 1) (ls) (eI (Int32.ofNat n) :: st) (w)) : WW p l e R s m args below meth c Q G nL n0 s0 rc rs (pc) (ls) (eR k :: st) (w) := fun H locs arr h1 h2 h3 h4 hP hS hL => by
  have h5 : ∃ ty, (wc_tys G)[t]? = some (gY G t, ty) := by
    rcases (by omega : t = 0 ∨ t = 1 ∨ t = 2 ∨ t = 3 ∨ t = 4) with rfl | rfl | rfl | rfl | rfl <;> exact ⟨_, rfl⟩
  obtain ⟨ty, h5⟩ := h5
  exact va_alen K.1 K.2.1 K.2.2.2.2.2.1.1 hP k t (wc_l_get hk) h5 rfl hd (kk H locs arr h1 h2 h3 h4 hP hS hL)
theorem ww_iast (K : wc_C p s m args meth c G own cc nL n0) {k n : Nat} {f : Nat → Int32} {i x : Int32} (hd : decode cc pc = .ok (.iastore, 1)) (hk : w[k]? = some (cI 0 n f)) (hin : vp_in i n) (kk : WW p l e R s m args below meth c Q G nL n0 s0 rc rs (pc + 1) (ls) (st) (w.set k (cI 0 n (upd f i.toNatClampNeg x)))) : WW p l e R s m args below meth c Q G nL n0 s0 rc rs (pc) (ls) (eI x :: eI i :: eR k :: st) (w) := fun H locs arr h1 h2 h3 h4 hP hS hL => by
  refine va_iast K.1 K.2.1 K.2.2.2.2.2.1.1 hP wc_D hS k 0 (wc_l_get hk) rfl hin hd (fun H1 locs1 hP1 _ hS1 => ?_)
  have hP2 : va_P (gD G) vwCl (wc_l G (w.set k (cI 0 n (upd f i.toNatClampNeg x)))) H1 := by rw [← wc_l_set]; exact hP1
  have e2 := wc_SL_set (d := cI 0 n (upd f i.toNatClampNeg x)) hk rfl
  have hk2 := kk H1 locs1 arr (by rw [List.length_set]; exact h1) (by rw [e2]; exact h2) (by rw [List.length_set]; exact h3) (by rw [e2]; exact h4) hP2 hS1 hL
  rw [List.length_set, e2] at hk2
  exact hk2
theorem ww_zast (K : wc_C p s m args meth c G own cc nL n0) {k n : Nat} {f : Nat → Int32} {i x : Int32} (hd : decode cc pc = .ok (.bastore, 1)) (hk : w[k]? = some (cI 1 n f)) (hin : vp_in i n) (kk : WW p l e R s m args below meth c Q G nL n0 s0 rc rs (pc + 1) (ls) (st) (w.set k (cI 1 n (upd f i.toNatClampNeg (vp_nar .boolean x))))) : WW p l e R s m args below meth c Q G nL n0 s0 rc rs (pc) (ls) (eI x :: eI i :: eR k :: st) (w) := fun H locs arr h1 h2 h3 h4 hP hS hL => by
  refine va_zast K.1 K.2.1 K.2.2.2.2.2.1.1 hP wc_D hS k 1 (wc_l_get hk) rfl hin hd (fun H1 locs1 hP1 _ hS1 => ?_)
  have hP2 : va_P (gD G) vwCl (wc_l G (w.set k (cI 1 n (upd f i.toNatClampNeg (vp_nar .boolean x))))) H1 := by rw [← wc_l_set]; exact hP1
  have e2 := wc_SL_set (d := cI 1 n (upd f i.toNatClampNeg (vp_nar .boolean x))) hk rfl
  have hk2 := kk H1 locs1 arr (by rw [List.length_set]; exact h1) (by rw [e2]; exact h2) (by rw [List.length_set]; exact h3) (by rw [e2]; exact h4) hP2 hS1 hL
  rw [List.length_set, e2] at hk2
  exact hk2
theorem ww_aald2 (K : wc_C p s m args meth c G own cc nL n0) {k n : Nat} {f : Nat → Option Nat} {i : Int32} (hd : decode cc pc = .ok (.aaload, 1)) (hk : w[k]? = some (cQ 2 n f)) (hin : vp_in i n) (kk : WW p l e R s m args below meth c Q G nL n0 s0 rc rs (pc + 1) (ls) (eO (f i.toNatClampNeg) :: st) (w)) : WW p l e R s m args below meth c Q G nL n0 s0 rc rs (pc) (ls) (eI i :: eR k :: st) (w) := fun H locs arr h1 h2 h3 h4 hP hS hL => by
  refine va_aldq K.1 K.2.1 K.2.2.2.2.2.1.1 hP k 2 (wc_l_get hk) rfl hin hd ?_
  have h9 : va_rf ((f i.toNatClampNeg).map (fun k => gZ G + k)) = wc_v G (eO (f i.toNatClampNeg)) := by cases f i.toNatClampNeg <;> rfl
  rw [h9]
  exact kk H locs arr h1 h2 h3 h4 hP hS hL
theorem ww_aast2 (K : wc_C p s m args meth c G own cc nL n0) {k n v : Nat} {f : Nat → Option Nat} {i : Int32} {vs : List EV} (hd : decode cc pc = .ok (.aastore, 1)) (hk : w[k]? = some (cQ 2 n f)) (hv : w[v]? = some (cO 2 vs)) (hin : vp_in i n) (kk : WW p l e R s m args below meth c Q G nL n0 s0 rc rs (pc + 1) (ls) (st) (w.set k (cQ 2 n (va_up f i.toNatClampNeg (some v))))) : WW p l e R s m args below meth c Q G nL n0 s0 rc rs (pc) (ls) (eR v :: eI i :: eR k :: st) (w) := fun H locs arr h1 h2 h3 h4 hP hS hL => by
  refine va_astq K.1 K.2.1 K.2.2.2.2.2.1.1 hP wc_D hS k 2 v 2 (wc_l_get hk) (r := (RX2, TX2, 14)) rfl (wc_l_get hv) rfl hin hd (fun H1 locs1 hP1 _ hS1 => ?_)
  have e1 : wc_c G (cQ 2 n (va_up f i.toNatClampNeg (some v))) = .inl (gY G 2, n, .inr (.inr (.inr (.inr (va_up (fun j => (f j).map (fun k => gZ G + k)) i.toNatClampNeg (some (gZ G + v))))))) := by
    show Sum.inl _ = Sum.inl _
    congr 1
    congr 1
    congr 1
    congr 1
    congr 1
    congr 1
    congr 1
    funext j
    by_cases hj : j = i.toNatClampNeg
    · simp [va_up, hj]
    · simp [va_up, hj]
  have hP2 : va_P (gD G) vwCl (wc_l G (w.set k (cQ 2 n (va_up f i.toNatClampNeg (some v))))) H1 := by rw [← wc_l_set, e1]; exact hP1
  have e2 := wc_SL_set (d := cQ 2 n (va_up f i.toNatClampNeg (some v))) hk rfl
  have hk2 := kk H1 locs1 arr (by rw [List.length_set]; exact h1) (by rw [e2]; exact h2) (by rw [List.length_set]; exact h3) (by rw [e2]; exact h4) hP2 hS1 hL
  rw [List.length_set, e2] at hk2
  exact hk2
theorem ww_aald3 (K : wc_C p s m args meth c G own cc nL n0) {k n : Nat} {f : Nat → Option Nat} {i : Int32} (hd : decode cc pc = .ok (.aaload, 1)) (hk : w[k]? = some (cQ 3 n f)) (hin : vp_in i n) (kk : WW p l e R s m args below meth c Q G nL n0 s0 rc rs (pc + 1) (ls) (eO (f i.toNatClampNeg) :: st) (w)) : WW p l e R s m args below meth c Q G nL n0 s0 rc rs (pc) (ls) (eI i :: eR k :: st) (w) := fun H locs arr h1 h2 h3 h4 hP hS hL => by
  refine va_aldq K.1 K.2.1 K.2.2.2.2.2.1.1 hP k 3 (wc_l_get hk) rfl hin hd ?_
  have h9 : va_rf ((f i.toNatClampNeg).map (fun k => gZ G + k)) = wc_v G (eO (f i.toNatClampNeg)) := by cases f i.toNatClampNeg <;> rfl
  rw [h9]
  exact kk H locs arr h1 h2 h3 h4 hP hS hL
theorem ww_aast3 (K : wc_C p s m args meth c G own cc nL n0) {k n v : Nat} {f : Nat → Option Nat} {i : Int32} {vs : List EV} (hd : decode cc pc = .ok (.aastore, 1)) (hk : w[k]? = some (cQ 3 n f)) (hv : w[v]? = some (cO 3 vs)) (hin : vp_in i n) (kk : WW p l e R s m args below meth c Q G nL n0 s0 rc rs (pc + 1) (ls) (st) (w.set k (cQ 3 n (va_up f i.toNatClampNeg (some v))))) : WW p l e R s m args below meth c Q G nL n0 s0 rc rs (pc) (ls) (eR v :: eI i :: eR k :: st) (w) := fun H locs arr h1 h2 h3 h4 hP hS hL => by
  refine va_astq K.1 K.2.1 K.2.2.2.2.2.1.1 hP wc_D hS k 3 v 3 (wc_l_get hk) (r := (RX3, TX3, 2)) rfl (wc_l_get hv) rfl hin hd (fun H1 locs1 hP1 _ hS1 => ?_)
  have e1 : wc_c G (cQ 3 n (va_up f i.toNatClampNeg (some v))) = .inl (gY G 3, n, .inr (.inr (.inr (.inr (va_up (fun j => (f j).map (fun k => gZ G + k)) i.toNatClampNeg (some (gZ G + v))))))) := by
    show Sum.inl _ = Sum.inl _
    congr 1
    congr 1
    congr 1
    congr 1
    congr 1
    congr 1
    congr 1
    funext j
    by_cases hj : j = i.toNatClampNeg
    · simp [va_up, hj]
    · simp [va_up, hj]
  have hP2 : va_P (gD G) vwCl (wc_l G (w.set k (cQ 3 n (va_up f i.toNatClampNeg (some v))))) H1 := by rw [← wc_l_set, e1]; exact hP1
  have e2 := wc_SL_set (d := cQ 3 n (va_up f i.toNatClampNeg (some v))) hk rfl
  have hk2 := kk H1 locs1 arr (by rw [List.length_set]; exact h1) (by rw [e2]; exact h2) (by rw [List.length_set]; exact h3) (by rw [e2]; exact h4) hP2 hS1 hL
  rw [List.length_set, e2] at hk2
  exact hk2
theorem ww_aald4 (K : wc_C p s m args meth c G own cc nL n0) {k n : Nat} {f : Nat → Option Nat} {i : Int32} (hd : decode cc pc = .ok (.aaload, 1)) (hk : w[k]? = some (cQ 4 n f)) (hin : vp_in i n) (kk : WW p l e R s m args below meth c Q G nL n0 s0 rc rs (pc + 1) (ls) (eO (f i.toNatClampNeg) :: st) (w)) : WW p l e R s m args below meth c Q G nL n0 s0 rc rs (pc) (ls) (eI i :: eR k :: st) (w) := fun H locs arr h1 h2 h3 h4 hP hS hL => by
  refine va_aldq K.1 K.2.1 K.2.2.2.2.2.1.1 hP k 4 (wc_l_get hk) rfl hin hd ?_
  have h9 : va_rf ((f i.toNatClampNeg).map (fun k => gZ G + k)) = wc_v G (eO (f i.toNatClampNeg)) := by cases f i.toNatClampNeg <;> rfl
  rw [h9]
  exact kk H locs arr h1 h2 h3 h4 hP hS hL
theorem ww_aast4 (K : wc_C p s m args meth c G own cc nL n0) {k n v : Nat} {f : Nat → Option Nat} {i : Int32} {vs : List EV} (hd : decode cc pc = .ok (.aastore, 1)) (hk : w[k]? = some (cQ 4 n f)) (hv : w[v]? = some (cO 5 vs)) (hin : vp_in i n) (kk : WW p l e R s m args below meth c Q G nL n0 s0 rc rs (pc + 1) (ls) (st) (w.set k (cQ 4 n (va_up f i.toNatClampNeg (some v))))) : WW p l e R s m args below meth c Q G nL n0 s0 rc rs (pc) (ls) (eR v :: eI i :: eR k :: st) (w) := fun H locs arr h1 h2 h3 h4 hP hS hL => by
  refine va_astq K.1 K.2.1 K.2.2.2.2.2.1.1 hP wc_D hS k 4 v 5 (wc_l_get hk) (r := (RX5, TX5, 7)) rfl (wc_l_get hv) rfl hin hd (fun H1 locs1 hP1 _ hS1 => ?_)
  have e1 : wc_c G (cQ 4 n (va_up f i.toNatClampNeg (some v))) = .inl (gY G 4, n, .inr (.inr (.inr (.inr (va_up (fun j => (f j).map (fun k => gZ G + k)) i.toNatClampNeg (some (gZ G + v))))))) := by
    show Sum.inl _ = Sum.inl _
    congr 1
    congr 1
    congr 1
    congr 1
    congr 1
    congr 1
    congr 1
    funext j
    by_cases hj : j = i.toNatClampNeg
    · simp [va_up, hj]
    · simp [va_up, hj]
  have hP2 : va_P (gD G) vwCl (wc_l G (w.set k (cQ 4 n (va_up f i.toNatClampNeg (some v))))) H1 := by rw [← wc_l_set, e1]; exact hP1
  have e2 := wc_SL_set (d := cQ 4 n (va_up f i.toNatClampNeg (some v))) hk rfl
  have hk2 := kk H1 locs1 arr (by rw [List.length_set]; exact h1) (by rw [e2]; exact h2) (by rw [List.length_set]; exact h3) (by rw [e2]; exact h4) hP2 hS1 hL
  rw [List.length_set, e2] at hk2
  exact hk2
end WC
/-! CONTRACTS -/
def wc_in0 (as : List EV) : List (Option EV) := as.flatMap (fun v => match v with
  | .inr (.inl x) => [some (.inr (.inl x)), none]
  | v => [some v])
def wc_in (nL : Nat) (as : List EV) : List (Option EV) := wc_in0 as ++ List.replicate (nL - (wc_in0 as).length) none
theorem wc_in0_len {G : EG} (as : List EV) : (lg_sl (as.map (wc_v G))).length = (wc_in0 as).length := by
  induction as with
  | nil => rfl
  | cons v t ih =>
    have h1 : wc_in0 (v :: t) = wc_in0 [v] ++ wc_in0 t := by simp [wc_in0]
    have h2 : lg_sl ((v :: t).map (wc_v G)) = lg_sl [wc_v G v] ++ lg_sl (t.map (wc_v G)) := by simp [lg_sl]
    rw [h1, h2, List.length_append, List.length_append, ih]
    congr 1
    rcases v with x | x | x | x
    · rfl
    · rfl
    · cases x <;> rfl
    · rfl
theorem wc_in0_at {G : EG} : ∀ (as : List EV) (k i : Nat) (v : EV), (wc_in0 as)[i]? = some (some v) → (k + i, wc_v G v) ∈ lv_args k (as.map (wc_v G)) := by
  intro as
  induction as with
  | nil => intro k i v h; simp [wc_in0] at h
  | cons u t ih =>
    intro k i v h
    have h1 : wc_in0 (u :: t) = wc_in0 [u] ++ wc_in0 t := by simp [wc_in0]
    rw [h1] at h
    show (k + i, wc_v G v) ∈ (k, wc_v G u) :: lv_args (if (wc_v G u).category = 2 then k + 2 else k + 1) (t.map (wc_v G))
    by_cases hl : ∃ x : Int64, u = .inr (.inl x)
    · obtain ⟨x, rfl⟩ := hl
      match i, h with
      | 0, h => cases h; exact List.mem_cons_self
      | 1, h => cases h
      | i + 2, h =>
        have h2 : (wc_in0 t)[i]? = some (some v) := h
        have h3 := ih (k + 2) i v h2
        rw [show k + 2 + i = k + (i + 2) by omega] at h3
        exact List.mem_cons_of_mem _ h3
    · have hc : ¬ (wc_v G u).category = 2 := fun q => hl (wc_cat2 q)
      have h0 : wc_in0 [u] = [some u] := by
        rcases u with x | x | x | x
        · rfl
        · exact absurd ⟨x, rfl⟩ hl
        · rfl
        · rfl
      rw [h0] at h
      rw [if_neg hc]
      match i, h with
      | 0, h => cases h; exact List.mem_cons_self
      | i + 1, h =>
        have h2 : (wc_in0 t)[i]? = some (some v) := h
        have h3 := ih (k + 1) i v h2
        rw [show k + 1 + i = k + (i + 1) by omega] at h3
        exact List.mem_cons_of_mem _ h3
theorem wc_entry {G : EG} {nL : Nat} (as : List EV) (h : (wc_in0 as).length ≤ nL) : wc_LR G nL (wc_in nL as) ((lg_sl (as.map (wc_v G)) ++ List.replicate (nL - (lg_sl (as.map (wc_v G))).length) Slot.unset).toArray) := by
  have h1 := lv_entry (as.map (wc_v G)) (n := nL) (by rw [wc_in0_len]; exact h)
  refine ⟨h1.1, h1.2.1, fun i v hi => ?_⟩
  unfold wc_in at hi
  by_cases hl : i < (wc_in0 as).length
  · rw [List.getElem?_append_left hl] at hi
    have h2 := wc_in0_at (G := G) as 0 i v hi
    rw [Nat.zero_add] at h2
    exact h1.2.2 _ h2
  · rw [List.getElem?_append_right (by omega)] at hi
    have h3 := List.eq_of_mem_replicate (List.mem_of_getElem? hi)
    cases h3
def wc_Q (G : EG) (w : EW) (mc ms : Nat) (Qr : Option EV → EW → Prop) : Array Value → State → Outcome → State → Prop := fun _ st o t => (∃ (r : Option EV) (w' : EW), o = .returned (r.map (wc_v G)) ∧ Qr r w' ∧ w'.length = w.length + mc ∧ wc_SL w' = wc_SL w + ms ∧ va_P (gD G) vwCl (wc_l G w') t.heap) ∧ va_F (wc_A G) st t
def wc_Pc (G : EG) (as : List EV) (w : EW) : Array Value → State → Prop := fun v U => v = (as.map (wc_v G)).toArray ∧ wc_E G U ∧ U.heap.size = gZ G + w.length ∧ va_P (gD G) vwCl (wc_l G w) U.heap
def wc_ws (y : MethodName) (b : ByteArray) (nL : Nat) (ret : Option FieldType) : List Cond := .code y b nL ret :: wc_B
def wc_rm (d mc ms : Nat) : Room := { frames := d, cells := mc, slots := ms, locals := 40 * d }
/-- the method y, called with as in the world w, returns r and leaves the world w', and Qr r w'; mc cells of ms slots come -/
def Ct (G : EG) (l : Launch) (y : MethodName) (b : ByteArray) (nL : Nat) (ret : Option FieldType) (d mc ms : Nat) (as : List EV) (w : EW) (Qr : Option EV → EW → Prop) : Prop :=
  Met l y (wc_ws y b nL ret) (wc_rm d mc ms) (wc_Pc G as w) (wc_Q G w mc ms Qr) mc ms (wc_A G)
theorem Ct_of {G : EG} {l : Launch} {y : MethodName} {b : ByteArray} {nL : Nat} {ret : Option FieldType} {d mc ms : Nat} {as : List EV} {w : EW} {Qr : Option EV → EW → Prop} (hy : plainName y.cls = true) (hlen : (wc_in0 as).length ≤ nL)
    (body : ∀ (p : Program) (e : Env) (s : State) (m : MethodId) (args : Array Value) (below : List Frame) (meth : Method) (c : Code), wc_C p s m args meth c G y.cls b nL w.length → meth.sig.returnType = ret → meth.name = y.name →
      WW p l e (wc_rm d mc ms) s m args below meth c (MQ below (wc_Q G w mc ms Qr) args s mc ms (wc_A G)) G nL w.length (wc_SL w) mc ms 0 (wc_in nL as) [] w) : Ct G l y b nL ret d mc ms as w Qr := by
  refine Met.ofW (cc := b) (maxL := nL) (ret := ret) hy rfl ?_
  intro p e s m args below meth c s₁ B hml hv
  obtain ⟨rfl, hE, hsz, hP⟩ := hv
  have hts := atoms_spec (ws := wc_ws y b nL ret) B.pre
  have K : wc_C p s m (as.map (wc_v G)).toArray meth c G y.cls b nL w.length := ⟨B.exec, B.bytes, hml, findClass_of_methodNamed B.named, fun q h => hts q (List.mem_cons_of_mem _ h), hE, hsz, B.notSynchronized⟩
  have k := body p e s m _ below meth c K B.returns (name_of_methodNamed B.named B.method).1
  rw [lg_entry_eq]
  have h9 := k s.heap [] _ (Nat.le_refl _) (Nat.le_refl _) rfl rfl hP va_S.rf (wc_entry as hlen)
  rw [Nat.sub_self, Nat.sub_self] at h9
  exact h9
theorem Ct_weak {G : EG} {l : Launch} {y : MethodName} {b : ByteArray} {nL : Nat} {ret : Option FieldType} {d mc ms : Nat} {as : List EV} {w : EW} {Q1 Q2 : Option EV → EW → Prop} (h : Ct G l y b nL ret d mc ms as w Q1) (hq : ∀ r w', Q1 r w' → Q2 r w') : Ct G l y b nL ret d mc ms as w Q2 := by
  intro p e ha hcs hk s m args below hf hap hpc htr
  obtain ⟨n, o, g1, g2, g3, ⟨⟨r, w', h1, h2, h3⟩, h4⟩, h5⟩ := h p e ha hcs hk s m args below hf hap hpc htr
  exact ⟨n, o, g1, g2, g3, ⟨⟨r, w', h1, hq r w' h2, h3⟩, h4⟩, h5⟩
section WCR
variable {d mc ms : Nat} {Qr : Option EV → EW → Prop} {wE : EW}
variable {p : Program} {l : Launch} {e : Env} {R : Room} {s : State} {m : MethodId} {args : Array Value} {below : List Frame} {meth : Method} {c : Code} {Q : State → Prop} {G : EG} {own : String} {cc : ByteArray} {nL n0 s0 rc rs pc : Nat} {ls : List (Option EV)} {st : List EV} {w : EW}
theorem ww_iret (K : wc_C p s m args meth c G own cc nL wE.length) {x : Int32} (hd : decode cc pc = .ok (.ireturn, 1)) (hr : meth.sig.returnType = some .int) (hq : Qr (some (eI x)) w) : WW p l e (wc_rm d mc ms) s m args below meth c (MQ below (wc_Q G wE mc ms Qr) args s mc ms (wc_A G)) G nL wE.length (wc_SL wE) 0 0 (pc) (ls) ([eI x]) (w) := by
  intro H locs arr h1 h2 h3 h4 hP hS hL
  have hc : w.length = wE.length + mc := h3
  have hs : wc_SL w = wc_SL wE + ms := h4
  have e1 : w.length - wE.length = mc := by omega
  have e2 : wc_SL w - wc_SL wE = ms := by omega
  rw [e1, e2]
  exact W.iret K.1 K.2.1 hr  (fun t ht hW => ⟨⟨some (eI x), w, rfl, hq, hc, hs, by rw [ht]; exact hP⟩, hS.F ht⟩) hS.2.2 hd (hlocks := K.2.2.2.2.2.2.2)
theorem ww_zret (K : wc_C p s m args meth c G own cc nL wE.length) {x : Int32} (hn : narrow .boolean (.int x) = .int x) (hd : decode cc pc = .ok (.ireturn, 1)) (hr : meth.sig.returnType = some .boolean) (hq : Qr (some (eI x)) w) : WW p l e (wc_rm d mc ms) s m args below meth c (MQ below (wc_Q G wE mc ms Qr) args s mc ms (wc_A G)) G nL wE.length (wc_SL wE) 0 0 (pc) (ls) ([eI x]) (w) := by
  intro H locs arr h1 h2 h3 h4 hP hS hL
  have hc : w.length = wE.length + mc := h3
  have hs : wc_SL w = wc_SL wE + ms := h4
  have e1 : w.length - wE.length = mc := by omega
  have e2 : wc_SL w - wc_SL wE = ms := by omega
  rw [e1, e2]
  exact W.zret K.1 K.2.1 hr hn (fun t ht hW => ⟨⟨some (eI x), w, rfl, hq, hc, hs, by rw [ht]; exact hP⟩, hS.F ht⟩) hS.2.2 hd (hlocks := K.2.2.2.2.2.2.2)
theorem ww_lret (K : wc_C p s m args meth c G own cc nL wE.length) {x : Int64} (hd : decode cc pc = .ok (.lreturn, 1)) (hr : meth.sig.returnType = some .long) (hq : Qr (some (eJ x)) w) : WW p l e (wc_rm d mc ms) s m args below meth c (MQ below (wc_Q G wE mc ms Qr) args s mc ms (wc_A G)) G nL wE.length (wc_SL wE) 0 0 (pc) (ls) ([eJ x]) (w) := by
  intro H locs arr h1 h2 h3 h4 hP hS hL
  have hc : w.length = wE.length + mc := h3
  have hs : wc_SL w = wc_SL wE + ms := h4
  have e1 : w.length - wE.length = mc := by omega
  have e2 : wc_SL w - wc_SL wE = ms := by omega
  rw [e1, e2]
  exact W.lret K.1 K.2.1 hr  (fun t ht hW => ⟨⟨some (eJ x), w, rfl, hq, hc, hs, by rw [ht]; exact hP⟩, hS.F ht⟩) hS.2.2 hd (hlocks := K.2.2.2.2.2.2.2)
theorem ww_vret (K : wc_C p s m args meth c G own cc nL wE.length)  (hd : decode cc pc = .ok (.return_, 1)) (hr : meth.sig.returnType = none) (hq : Qr (none) w) : WW p l e (wc_rm d mc ms) s m args below meth c (MQ below (wc_Q G wE mc ms Qr) args s mc ms (wc_A G)) G nL wE.length (wc_SL wE) 0 0 (pc) (ls) ([]) (w) := by
  intro H locs arr h1 h2 h3 h4 hP hS hL
  have hc : w.length = wE.length + mc := h3
  have hs : wc_SL w = wc_SL wE + ms := h4
  have e1 : w.length - wE.length = mc := by omega
  have e2 : wc_SL w - wc_SL wE = ms := by omega
  rw [e1, e2]
  exact W.vret K.1 K.2.1 hr  (fun t ht hW => ⟨⟨none, w, rfl, hq, hc, hs, by rw [ht]; exact hP⟩, hS.F ht⟩) hS.2.2 hd (hlocks := K.2.2.2.2.2.2.2)
theorem ww_aretN (K : wc_C p s m args meth c G own cc nL wE.length) {rt : FieldType} (hrt : (∃ n, rt = .object n) ∨ ∃ t, rt = .array t) (hd : decode cc pc = .ok (.areturn, 1)) (hr : meth.sig.returnType = some rt) (hq : Qr (some eN) w) : WW p l e (wc_rm d mc ms) s m args below meth c (MQ below (wc_Q G wE mc ms Qr) args s mc ms (wc_A G)) G nL wE.length (wc_SL wE) 0 0 (pc) (ls) ([eN]) (w) := by
  intro H locs arr h1 h2 h3 h4 hP hS hL
  have hc : w.length = wE.length + mc := h3
  have hs : wc_SL w = wc_SL wE + ms := h4
  have e1 : w.length - wE.length = mc := by omega
  have e2 : wc_SL w - wc_SL wE = ms := by omega
  rw [e1, e2]
  exact W.aret K.1 K.2.1 hr hrt (Or.inl rfl) (fun t ht hW => ⟨⟨some eN, w, rfl, hq, hc, hs, by rw [ht]; exact hP⟩, hS.F ht⟩) hS.2.2 hd (hlocks := K.2.2.2.2.2.2.2)
theorem ww_aret (K : wc_C p s m args meth c G own cc nL wE.length) {rt : FieldType} {x : Nat} (hrt : (∃ n, rt = .object n) ∨ ∃ t, rt = .array t) (hd : decode cc pc = .ok (.areturn, 1)) (hr : meth.sig.returnType = some rt) (hq : Qr (some (eR x)) w) : WW p l e (wc_rm d mc ms) s m args below meth c (MQ below (wc_Q G wE mc ms Qr) args s mc ms (wc_A G)) G nL wE.length (wc_SL wE) 0 0 (pc) (ls) ([eR x]) (w) := by
  intro H locs arr h1 h2 h3 h4 hP hS hL
  have hc : w.length = wE.length + mc := h3
  have hs : wc_SL w = wc_SL wE + ms := h4
  have e1 : w.length - wE.length = mc := by omega
  have e2 : wc_SL w - wc_SL wE = ms := by omega
  rw [e1, e2]
  exact W.aret K.1 K.2.1 hr hrt (Or.inr ⟨_, rfl⟩) (fun t ht hW => ⟨⟨some (eR x), w, rfl, hq, hc, hs, by rw [ht]; exact hP⟩, hS.F ht⟩) hS.2.2 hd (hlocks := K.2.2.2.2.2.2.2)
end WCR
section WCC
variable {p : Program} {l : Launch} {e : Env} {R : Room} {s : State} {m : MethodId} {args : Array Value} {below : List Frame} {meth : Method} {c : Code} {Q : State → Prop} {G : EG} {own : String} {cc : ByteArray} {nL n0 s0 rc rs pc : Nat} {ls : List (Option EV)} {st : List EV} {w : EW}
theorem wc_size {T : State} (K : wc_C p s m args meth c G own cc nL n0) {H : Heap} {locs : List Loc} (h1 : n0 ≤ w.length) (hP : va_P (gD G) vwCl (wc_l G w) H) (hS : va_S (wc_A G) s.heap H locs) (hT : T.heap = H) (X : Stand p l e R s m args below meth c T locs (w.length - n0) (wc_SL w - s0)) : H.size = gZ G + w.length := by
  have h2 := X.heapSize
  rw [hT, K.2.2.2.2.2.2.1] at h2
  have h3 := hS.1
  rw [K.2.2.2.2.2.2.1] at h3
  have h4 : gZ G + w.length ≤ H.size := by
    cases hw : w[w.length - 1]? with
    | none =>
      have := List.getElem?_eq_none_iff.mp hw
      omega
    | some c0 =>
      have h5 : gZ G + (w.length - 1) < H.size := (hP (w.length - 1) _ (wc_l_get hw)).lt
      omega
  omega
theorem wc_cont {mc ms : Nat} {as : List EV} {Qr : Option EV → EW → Prop} {T : State} (K : wc_C p s m args meth c G own cc nL n0) {H : Heap} {locs : List Loc} {arr : Array Slot} {g : JFrame} (h1 : n0 ≤ w.length) (h2 : s0 ≤ wc_SL w) (h3 : w.length + (rc + mc) = n0 + R.cells) (h4 : wc_SL w + (rs + ms) = s0 + R.slots) (hS : va_S (wc_A G) s.heap H locs) (hL : wc_LR G nL ls arr) (hg : g = F0 m pc arr (g.stack)) {aa : Array Value}
    (hr : va_Run p l e R s m args below meth c H locs (w.length - n0) (wc_SL w - s0) mc ms g (st.map (wc_v G)) (wc_Q G w mc ms Qr aa) (wc_A G))
    (kk : ∀ (r : Option EV) (w' : EW), Qr r w' → w'.length = w.length + mc → wc_SL w' = wc_SL w + ms → WW p l e R s m args below meth c Q G nL n0 s0 rc rs (pc + 3) ls (r.toList ++ st) w')
    (hT : T.heap = H) (X : Stand p l e R s m args below meth c T locs (w.length - n0) (wc_SL w - s0)) : ∃ t, Steps p.tables e below (T.setTop g) t ∧ Q t := by
  obtain ⟨v, st₀, t, T', L, e0, X', hF, e1, e2, ⟨⟨r, w', hv, hq, hlen, hsl, hP'⟩, hz, hk⟩, st1⟩ := hr T hT X
  cases hv
  rw [e0] at hz hk
  have c1 : w.length - n0 + mc = w'.length - n0 := by omega
  have c2 : wc_SL w - s0 + ms = wc_SL w' - s0 := by omega
  rw [c1, c2] at X'
  have hS' : va_S (wc_A G) s.heap T'.heap (locs ++ L) := ⟨Nat.le_trans hS.1 (by rw [e1]; exact hz), fun q h3 h4 => by rw [e1, hk q (Nat.lt_of_lt_of_le h3 hS.1) h4]; exact hS.2.1 q h3 h4, fun q hq => by
    rcases List.mem_append.mp hq with h | h
    · exact hS.2.2 q h
    · exact hF q h⟩
  obtain ⟨t2, a1, b1⟩ := kk r w' hq hlen hsl T'.heap (locs ++ L) arr (by omega) (by omega) (by omega) (by omega) (by rw [e1]; exact hP') hS' hL T' rfl X'
  refine ⟨t2, st1 t2 ?_, b1⟩
  have hst : (r.toList ++ st).map (wc_v G) = (r.map (wc_v G)).toList ++ st.map (wc_v G) := by cases r <;> rfl
  rw [hst] at a1
  rw [hg]
  exact a1
theorem wc_pre {as : List EV} {mcx : Nat} (K : wc_C p s m args meth c G own cc nL n0) {H : Heap} {locs : List Loc} (hP : va_P (gD G) vwCl (wc_l G w) H) (hS : va_S (wc_A G) s.heap H locs) (hsz : H.size = gZ G + w.length) : FrameBlind (wc_Pc G as w) ∧ ∀ U : State, U.heap = H → s.WarmedH U.vm → wc_Pc G as w (as.map (wc_v G)).toArray U :=
  ⟨fun a U g mk h => ⟨h.1, wc_E_calling h.2.1 g mk a, h.2.2.1, h.2.2.2⟩, fun U hU hW => ⟨rfl, wc_E_moved K.2.2.2.2.2.1 hW (fun a h1 h2 => by rw [hU]; exact hS.2.1 a h1 h2), by rw [hU]; exact hsz, by rw [hU]; exact hP⟩⟩
def wc_rest (st : List EV) : Nat := (st.map (fun v => match v with | .inr (.inl _) => 2 | _ => 1)).sum
theorem wc_rest_ok {G : EG} (st : List EV) : ((st.map (wc_v G)).map fun v => v.category).sum = wc_rest st := by
  induction st with
  | nil => rfl
  | cons v t ih =>
    simp only [List.map_cons, List.sum_cons, wc_rest] at ih ⊢
    rw [ih]
    congr 1
    rcases v with x | x | x | x
    · rfl
    · rfl
    · cases x <;> rfl
    · rfl
/-- the callee's words at a call: of a static method, of an instance method, of a constructor; whose name another class of the nest says is private (N) -/
def wk_S (own : String) (idx : Nat) (y : MethodName) (b : ByteArray) (nL : Nat) (ret : Option FieldType) (n : Nat) : Prop := (∀ w ∈ [Cond.methodLink own idx y, .static y, .initialized y.cls, .code y b nL ret], w ∈ wc_B) ∧ y.cls ≠ "java/lang/invoke/MethodHandle" ∧ y.cls ≠ "java/lang/invoke/VarHandle" ∧ (parseMethodDescriptor y.desc).map (fun d => d.parameters.length) = some n
def wk_SN (own : String) (idx : Nat) (y : MethodName) (host : String) (b : ByteArray) (nL : Nat) (ret : Option FieldType) (n : Nat) : Prop := (∀ w ∈ [Cond.static y, .initialized y.cls, .code y b nL ret], w ∈ wc_B) ∧ Cond.methodLinkNest own idx y host ∈ wc_nests ∧ y.cls ≠ "java/lang/invoke/MethodHandle" ∧ y.cls ≠ "java/lang/invoke/VarHandle" ∧ (parseMethodDescriptor y.desc).map (fun d => d.parameters.length) = some n
def wk_V (own : String) (idx : Nat) (y : MethodName) (b : ByteArray) (nL : Nat) (ret : Option FieldType) (n : Nat) : Prop := (∀ w ∈ [Cond.methodLink own idx y, .instanceMethod y, .selects y.cls y y, .initialized y.cls, .code y b nL ret], w ∈ wc_B) ∧ y.cls ≠ "java/lang/invoke/MethodHandle" ∧ y.cls ≠ "java/lang/invoke/VarHandle" ∧ (parseMethodDescriptor y.desc).map (fun d => d.parameters.length) = some n
def wk_I (own : String) (idx : Nat) (y : MethodName) (b : ByteArray) (nL : Nat) (n : Nat) : Prop := (∀ w ∈ [Cond.methodLink own idx y, .instanceMethod y, .initialized y.cls, .code y b nL none], w ∈ wc_B) ∧ y.name = "<init>" ∧ y.cls ≠ "java/lang/invoke/MethodHandle" ∧ y.cls ≠ "java/lang/invoke/VarHandle" ∧ (parseMethodDescriptor y.desc).map (fun d => d.parameters.length) = some n
def wk_IN (own : String) (idx : Nat) (y : MethodName) (host : String) (b : ByteArray) (nL : Nat) (n : Nat) : Prop := (∀ w ∈ [Cond.instanceMethod y, .initialized y.cls, .code y b nL none], w ∈ wc_B) ∧ Cond.methodLinkNest own idx y host ∈ wc_nests ∧ y.name = "<init>" ∧ y.cls ≠ "java/lang/invoke/MethodHandle" ∧ y.cls ≠ "java/lang/invoke/VarHandle" ∧ (parseMethodDescriptor y.desc).map (fun d => d.parameters.length) = some n
theorem wc_goodws {y : MethodName} {b : ByteArray} {nL : Nat} {ret : Option FieldType} (h : Cond.code y b nL ret ∈ wc_B) : GoodIn wc_B (wc_ws y b nL ret) := wc_BG (fun w hw => (List.mem_cons.mp hw).elim (fun e => by rw [e]; exact h) id)
theorem ww_callS (K : wc_C p s m args meth c G own cc nL n0) {y : MethodName} {b : ByteArray} {nL2 d mc ms idx : Nat} {ret : Option FieldType} {as : List EV} {Qr : Option EV → EW → Prop} {st0 : List EV} (hd : decode cc pc = .ok (.invokestatic idx, 3)) (hw : wk_S own idx y b nL2 ret as.length) (hC : Ct G l y b nL2 ret d mc ms as w Qr) (hst0 : st0 = as.reverse ++ st) (hR : d + 1 ≤ R.frames ∧ 8 + (nL2 + 11) + 40 * d ≤ R.locals) (hrest : wc_rest st ≤ 8) (kk : ∀ (r : Option EV) (w2 : EW), Qr r w2 → w2.length = w.length + mc → wc_SL w2 = wc_SL w + ms → WW p l e R s m args below meth c Q G nL n0 s0 rc rs (pc + 3) (ls) (r.toList ++ st) (w2)) : WW p l e R s m args below meth c Q G nL n0 s0 (rc + mc) (rs + ms) (pc) (ls) (st0) (w) := by
  intro H locs arr h1 h2 h3 h4 hP hS hL
  intro T hT X
  have hcs : w.length - n0 + mc ≤ R.cells ∧ wc_SL w - s0 + ms ≤ R.slots := ⟨by omega, by omega⟩
  obtain ⟨w1, w2, w3, w4⟩ := hw
  have hsz := wc_size K h1 hP hS hT X
  subst hst0
  refine wc_cont (as := as) K h1 h2 h3 h4 hS hL (g := F0 m pc arr ((as.reverse ++ st).map (wc_v G))) rfl (va_runS (As := as.map (wc_v G)) (n := as.length) ⟨K.1, K.2.1, K.2.2.1, K.2.2.2.1, K.2.2.2.2.1⟩ hC (va_cwS as.length K.2.2.2.2.1 (fun q hq => ?_) rfl rfl rfl ⟨w2, w3, w4⟩ ⟨hR.1, hR.2⟩) (wc_pre (mcx := 0) K hP hS hsz) rfl (by rw [List.length_map]) hL.1 (by simp) (by show 2 * 0 + _ ≤ 8; rw [wc_rest_ok]; omega) hd hcs) kk hT X
  rcases List.mem_append.mp hq with hq | hq
  · exact wc_BG w1 q (by revert hq; simp only [List.mem_cons, List.not_mem_nil, or_false]; intro hq; rcases hq with h | h | h <;> simp [h])
  · exact wc_goodws (w1 _ (by simp)) q hq
theorem ww_callSN (K : wc_C p s m args meth c G own cc nL n0) {y : MethodName} {b : ByteArray} {nL2 d mc ms idx : Nat} {ret : Option FieldType} {as : List EV} {Qr : Option EV → EW → Prop} {st0 : List EV} {host : String} (hd : decode cc pc = .ok (.invokestatic idx, 3)) (hw : wk_SN own idx y host b nL2 ret as.length) (hC : Ct G l y b nL2 ret d mc ms as w Qr) (hst0 : st0 = as.reverse ++ st) (hR : d + 1 ≤ R.frames ∧ 8 + (nL2 + 11) + 40 * d ≤ R.locals) (hrest : wc_rest st ≤ 8) (kk : ∀ (r : Option EV) (w2 : EW), Qr r w2 → w2.length = w.length + mc → wc_SL w2 = wc_SL w + ms → WW p l e R s m args below meth c Q G nL n0 s0 rc rs (pc + 3) (ls) (r.toList ++ st) (w2)) : WW p l e R s m args below meth c Q G nL n0 s0 (rc + mc) (rs + ms) (pc) (ls) (st0) (w) := by
  intro H locs arr h1 h2 h3 h4 hP hS hL
  intro T hT X
  have hcs : w.length - n0 + mc ≤ R.cells ∧ wc_SL w - s0 + ms ≤ R.slots := ⟨by omega, by omega⟩
  obtain ⟨w1, wn, w2, w3, w4⟩ := hw
  have hsz := wc_size K h1 hP hS hT X
  subst hst0
  exact wc_cont (as := as) K h1 h2 h3 h4 hS hL (g := F0 m pc arr ((as.reverse ++ st).map (wc_v G))) rfl (va_runSN (As := as.map (wc_v G)) (n := as.length) ⟨K.1, K.2.1, K.2.2.1, K.2.2.2.1, K.2.2.2.2.1⟩ hC ⟨va_cnB as.length K.2.2.2.2.1 (wc_goodws (w1 _ (by simp))) rfl rfl rfl (K.2.2.2.2.2.1.2.1 _ wn) (K.2.2.2.2.1 _ (w1 _ (by simp))) ⟨w2, w3, w4⟩ ⟨hR.1, hR.2⟩, K.2.2.2.2.1 _ (w1 _ (by simp)), trivial⟩ (wc_pre (mcx := 0) K hP hS hsz) rfl (by rw [List.length_map]) hL.1 (by simp) (by show 2 * 0 + _ ≤ 8; rw [wc_rest_ok]; omega) hd hcs) kk hT X
theorem ww_callV (K : wc_C p s m args meth c G own cc nL n0) {y : MethodName} {b : ByteArray} {nL2 d mc ms idx : Nat} {ret : Option FieldType} {as : List EV} {Qr : Option EV → EW → Prop} {st0 : List EV} {k ci : Nat} {fs : List EV} (hd : decode cc pc = .ok (.invokevirtual idx, 3)) (hw : wk_V own idx y b nL2 ret as.length) (hk : w[k]? = some (cO ci fs)) (hci : ∃ q, vwCl[ci]? = some q ∧ q.1 = y.cls) (hC : Ct G l y b nL2 ret d mc ms (eR k :: as) w Qr) (hst0 : st0 = as.reverse ++ eR k :: st) (hR : d + 1 ≤ R.frames ∧ 8 + (nL2 + 11) + 40 * d ≤ R.locals) (hrest : wc_rest st ≤ 8) (kk : ∀ (r : Option EV) (w2 : EW), Qr r w2 → w2.length = w.length + mc → wc_SL w2 = wc_SL w + ms → WW p l e R s m args below meth c Q G nL n0 s0 rc rs (pc + 3) (ls) (r.toList ++ st) (w2)) : WW p l e R s m args below meth c Q G nL n0 s0 (rc + mc) (rs + ms) (pc) (ls) (st0) (w) := by
  intro H locs arr h1 h2 h3 h4 hP hS hL
  intro T hT X
  have hcs : w.length - n0 + mc ≤ R.cells ∧ wc_SL w - s0 + ms ≤ R.slots := ⟨by omega, by omega⟩
  obtain ⟨w1, w2, w3, w4⟩ := hw
  obtain ⟨qc, hq1, hq2⟩ := hci
  have hsz := wc_size K h1 hP hS hT X
  have hpre := wc_pre (mcx := 0) (as := eR k :: as) K hP hS hsz
  subst hst0
  refine wc_cont (as := eR k :: as) K h1 h2 h3 h4 hS hL (g := F0 m pc arr ((as.reverse ++ eR k :: st).map (wc_v G))) rfl (va_runV (C := y.cls) (b := gZ G + k) (As := as.map (wc_v G)) (n := as.length) ⟨K.1, K.2.1, K.2.2.1, K.2.2.2.1, K.2.2.2.2.1⟩ hC (cwV as.length K.2.2.2.2.1 (fun q hq => ?_) rfl rfl rfl ⟨rfl, w2, w3, w4⟩ ⟨hR.1, hR.2⟩) ⟨hpre.1, by rw [← hq2]; exact va_recv K.2.2.2.2.2.1.1 hP hq1 (wc_l_get hk), hpre.2⟩ rfl (by rw [List.length_map]) hL.1 (by simp [wc_v]) (by show 2 * 0 + _ ≤ 8; rw [wc_rest_ok]; omega) hd hcs) kk hT X
  rcases List.mem_append.mp hq with hq | hq
  · exact wc_BG w1 q (by revert hq; simp only [List.mem_cons, List.not_mem_nil, or_false]; intro hq; rcases hq with h | h | h | h <;> simp [h])
  · exact wc_goodws (w1 _ (by simp)) q hq
theorem ww_callI (K : wc_C p s m args meth c G own cc nL n0) {y : MethodName} {b : ByteArray} {nL2 d mc ms idx : Nat} {as : List EV} {Qr : Option EV → EW → Prop} {st0 : List EV} {k : Nat} (hd : decode cc pc = .ok (.invokespecial idx, 3)) (hw : wk_I own idx y b nL2 as.length) (hC : Ct G l y b nL2 none d mc ms (eR k :: as) w Qr) (hst0 : st0 = as.reverse ++ eR k :: st) (hR : d + 1 ≤ R.frames ∧ 8 + (nL2 + 11) + 40 * d ≤ R.locals) (hrest : wc_rest st ≤ 8) (kk : ∀ (r : Option EV) (w2 : EW), Qr r w2 → w2.length = w.length + mc → wc_SL w2 = wc_SL w + ms → WW p l e R s m args below meth c Q G nL n0 s0 rc rs (pc + 3) (ls) (r.toList ++ st) (w2)) : WW p l e R s m args below meth c Q G nL n0 s0 (rc + mc) (rs + ms) (pc) (ls) (st0) (w) := by
  intro H locs arr h1 h2 h3 h4 hP hS hL
  intro T hT X
  have hcs : w.length - n0 + mc ≤ R.cells ∧ wc_SL w - s0 + ms ≤ R.slots := ⟨by omega, by omega⟩
  obtain ⟨w1, wi, w2, w3, w4⟩ := hw
  have hsz := wc_size K h1 hP hS hT X
  subst hst0
  exact wc_cont (as := eR k :: as) K h1 h2 h3 h4 hS hL (g := F0 m pc arr ((as.reverse ++ eR k :: st).map (wc_v G))) rfl (va_runI (b := gZ G + k) (As := as.map (wc_v G)) (n := as.length) ⟨K.1, K.2.1, K.2.2.1, K.2.2.2.1, K.2.2.2.2.1⟩ hC (cwI as.length K.2.2.2.2.1 (wc_goodws (w1 _ (by simp))) rfl rfl rfl (K.2.2.2.2.1 _ (w1 _ (by simp))) (K.2.2.2.2.1 _ (w1 _ (by simp))) (K.2.2.2.2.1 _ (w1 _ (by simp))) wi ⟨w2, w3, w4⟩ ⟨hR.1, hR.2⟩) (wc_pre (mcx := 0) (as := eR k :: as) K hP hS hsz) rfl (by rw [List.length_map]) hL.1 (by simp [wc_v]) (by show 2 * 0 + _ ≤ 8; rw [wc_rest_ok]; omega) hd hcs) kk hT X
theorem ww_callIN (K : wc_C p s m args meth c G own cc nL n0) {y : MethodName} {host : String} {b : ByteArray} {nL2 d mc ms idx : Nat} {as : List EV} {Qr : Option EV → EW → Prop} {st0 : List EV} {k : Nat} (hd : decode cc pc = .ok (.invokespecial idx, 3)) (hw : wk_IN own idx y host b nL2 as.length) (hC : Ct G l y b nL2 none d mc ms (eR k :: as) w Qr) (hst0 : st0 = as.reverse ++ eR k :: st) (hR : d + 1 ≤ R.frames ∧ 8 + (nL2 + 11) + 40 * d ≤ R.locals) (hrest : wc_rest st ≤ 8) (kk : ∀ (r : Option EV) (w2 : EW), Qr r w2 → w2.length = w.length + mc → wc_SL w2 = wc_SL w + ms → WW p l e R s m args below meth c Q G nL n0 s0 rc rs (pc + 3) (ls) (r.toList ++ st) (w2)) : WW p l e R s m args below meth c Q G nL n0 s0 (rc + mc) (rs + ms) (pc) (ls) (st0) (w) := by
  intro H locs arr h1 h2 h3 h4 hP hS hL
  intro T hT X
  have hcs : w.length - n0 + mc ≤ R.cells ∧ wc_SL w - s0 + ms ≤ R.slots := ⟨by omega, by omega⟩
  obtain ⟨w1, wn, wi, w2, w3, w4⟩ := hw
  have hsz := wc_size K h1 hP hS hT X
  subst hst0
  exact wc_cont (as := eR k :: as) K h1 h2 h3 h4 hS hL (g := F0 m pc arr ((as.reverse ++ eR k :: st).map (wc_v G))) rfl (va_runIN (b := gZ G + k) (As := as.map (wc_v G)) (n := as.length) ⟨K.1, K.2.1, K.2.2.1, K.2.2.2.1, K.2.2.2.2.1⟩ hC ⟨va_cnB as.length K.2.2.2.2.1 (wc_goodws (w1 _ (by simp))) rfl rfl rfl (K.2.2.2.2.2.1.2.1 _ wn) (K.2.2.2.2.1 _ (w1 _ (by simp))) ⟨w2, w3, w4⟩ ⟨hR.1, hR.2⟩, wi, K.2.2.2.2.1 _ (w1 _ (by simp))⟩ (wc_pre (mcx := 0) (as := eR k :: as) K hP hS hsz) rfl (by rw [List.length_map]) hL.1 (by simp [wc_v]) (by show 2 * 0 + _ ≤ 8; rw [wc_rest_ok]; omega) hd hcs) kk hT X
end WCC
end
section
section WM
variable {p : Program} {l : Launch} {e : Env} {R : Room} {s : State} {m : MethodId} {args : Array Value} {below : List Frame} {meth : Method} {c : Code} {Q : State → Prop} {G : EG} {own : String} {cc : ByteArray} {nL n0 s0 rc rs pc : Nat} {ls : List (Option EV)} {st : List EV} {w : EW}
theorem wc_pushP {cx : EC} {H H1 : Heap} (hP : va_P (gD G) vwCl (wc_l G w) H) (hsz : H.size = gZ G + w.length) (o1 : ∀ q, q < H.size → H1[q]? = H[q]?) (hx : va_at (gD G) vwCl (gZ G + w.length, wc_c G cx) H1) : va_P (gD G) vwCl (wc_l G (w ++ [cx])) H1 := by
  rw [← wc_l_push]
  refine (hP.kept (fun k q hk => o1 q.1 (hP k q hk).lt)).app (fun k q hk => ?_)
  have hz : k < 1 := (List.getElem?_eq_some_iff.mp hk).1
  rw [show k = 0 by omega] at hk
  cases hk
  exact hx
theorem wc_pushS {H H1 : Heap} {locs : List Loc} (hS : va_S (wc_A G) s.heap H locs) (z1 : H1.size = H.size + 1) (o1 : ∀ q, q < H.size → H1[q]? = H[q]?) : va_S (wc_A G) s.heap H1 locs :=
  ⟨Nat.le_trans hS.1 (by omega), fun x h1 h2 => (o1 x (Nat.lt_of_lt_of_le h1 hS.1)).trans (hS.2.1 x h1 h2), hS.2.2⟩
def wk_N (own : String) (idx ci : Nat) (fs : List EV) : Prop := ∃ (C : String) (T : u_T) (N : Nat) (ty : Nat → FieldType), vwCl[ci]? = some (C, T, N) ∧ Cond.classLink own idx C ∈ wc_B ∧ Cond.instantiable C N ∈ wc_B ∧ Cond.initialized C ∈ wc_B ∧ (∀ w ∈ u_ws C T N, w ∈ wc_B) ∧ (∀ k, k < N → parseFieldDescriptor (T k).2.2.1 = some (ty k)) ∧ fs.length = N ∧ ∀ (G : EG) (j : Nat), j < N → defaultValue (ty j) = vp_V (fs.map (wc_v G)) j
theorem ww_new (K : wc_C p s m args meth c G own cc nL n0) {idx ci : Nat} {fs : List EV} (hd : decode cc pc = .ok (.new idx, 3)) (hN : wk_N own idx ci fs) (kk : WW p l e R s m args below meth c Q G nL n0 s0 rc rs (pc + 3) (ls) (eR w.length :: st) (w ++ [cO ci fs])) : WW p l e R s m args below meth c Q G nL n0 s0 (rc + 1) (rs + fs.length) (pc) (ls) (st) (w) := by
  intro H locs arr h1 h2 h3 h4 hP hS hL
  intro T hT X
  obtain ⟨C, TT, N, ty, f1, f2, f3, f4, f5, f6, f7, f8⟩ := hN
  have hsz := wc_size K h1 hP hS hT X
  have hKn := K.2.2.2.2.2.1.1.1 ci _ f1
  subst f7
  refine W.newcK (g := F0 m pc arr (st.map (wc_v G))) (Q := Q) K.1 K.2.1 K.2.2.2.1 (K.2.2.2.2.1 _ f2) (K.2.2.2.2.1 _ f3) (K.2.2.2.2.1 _ f4) rfl hd (by omega) (by omega) hKn.2.1 hsz (fun H1 kC hkC e1 z1 o1 => ?_) T hT X
  have hx : va_at (gD G) vwCl (gZ G + w.length, wc_c G (cO ci fs)) H1 := ⟨_, f1, (u_born ty K.2.2.2.2.1 f5 hKn hkC e1 f6).to (f8 G)⟩
  have h9 := kk H1 locs arr (by rw [List.length_append]; omega) (by rw [wc_SL_push]; omega) (by rw [List.length_append]; show w.length + 1 + rc = _; omega) (by rw [wc_SL_push]; show wc_SL w + fs.length + rs = _; omega) (wc_pushP hP hsz (fun q hq => o1 q (by omega)) hx) (wc_pushS hS (by omega) (fun q hq => o1 q (by omega))) hL
  have c1 : (w ++ [cO ci fs]).length - n0 = w.length - n0 + 1 := by rw [List.length_append]; show w.length + 1 - n0 = _; omega
  have c2 : wc_SL (w ++ [cO ci fs]) - s0 = wc_SL w - s0 + fs.length := by rw [wc_SL_push]; show wc_SL w + fs.length - s0 = _; omega
  rw [c1, c2] at h9
  exact h9
theorem ww_newI (K : wc_C p s m args meth c G own cc nL n0) {n : Int32} {N : Nat} (hd : decode cc pc = .ok (.newarray .int, 2)) (hw : Cond.arrayClass .int ∈ wc_B) (hn : ¬ n < 0) (hN : n.toNatClampNeg = N) (hb : N ≤ 100000) (kk : WW p l e R s m args below meth c Q G nL n0 s0 rc rs (pc + 2) (ls) (eR w.length :: st) (w ++ [cI 0 N (fun _ => 0)])) : WW p l e R s m args below meth c Q G nL n0 s0 (rc + 1) (rs + N) (pc) (ls) (eI n :: st) (w) := by
  intro H locs arr h1 h2 h3 h4 hP hS hL
  intro T hT X
  have hsz := wc_size K h1 hP hS hT X
  refine va_newaK (atype := .int) (g := F0 m pc arr ((eI n :: st).map (wc_v G))) (Q := Q) K.1 K.2.1 (K.2.2.2.2.1 _ hw) rfl hd rfl hn hN (by show N * _ ≤ _; simp only [newarray.typeOf, componentBytes]; omega) (by omega) (by omega) hsz (fun H1 cA e1 z1 o1 hAr hNm => ?_) T hT X
  have hcA : cA = gY G 0 := by
    have h8 : s.vm.findClass ("[" ++ (newarray.typeOf .int).toString) = some (gY G 0) := (K.2.2.2.2.2.1.1.2 0 _ rfl).2
    exact Option.some.inj (hNm.symm.trans h8)
  subst hcA
  have hx : va_at (gD G) vwCl (gZ G + w.length, wc_c G (cI 0 N (fun _ => 0))) H1 := by
    show H1[gZ G + w.length]? = some (vp_cell _ _)
    rw [e1, vp_cell_i]
    rfl
  have h9 := kk H1 locs arr (by rw [List.length_append]; omega) (by rw [wc_SL_push]; omega) (by rw [List.length_append]; show w.length + 1 + rc = _; omega) (by rw [wc_SL_push]; show wc_SL w + N + rs = _; omega) (wc_pushP hP hsz (fun q hq => o1 q (by omega)) hx) (wc_pushS hS (by omega) (fun q hq => o1 q (by omega))) hL
  have c1 : (w ++ [cI 0 N (fun _ => 0)]).length - n0 = w.length - n0 + 1 := by rw [List.length_append]; show w.length + 1 - n0 = _; omega
  have c2 : wc_SL (w ++ [cI 0 N (fun _ => 0)]) - s0 = wc_SL w - s0 + N := by rw [wc_SL_push]; show wc_SL w + N - s0 = _; omega
  rw [c1, c2] at h9
  exact h9
theorem ww_newZ (K : wc_C p s m args meth c G own cc nL n0) {n : Int32} {N : Nat} (hd : decode cc pc = .ok (.newarray .boolean, 2)) (hw : Cond.arrayClass .boolean ∈ wc_B) (hn : ¬ n < 0) (hN : n.toNatClampNeg = N) (hb : N ≤ 100000) (kk : WW p l e R s m args below meth c Q G nL n0 s0 rc rs (pc + 2) (ls) (eR w.length :: st) (w ++ [cI 1 N (fun _ => 0)])) : WW p l e R s m args below meth c Q G nL n0 s0 (rc + 1) (rs + N) (pc) (ls) (eI n :: st) (w) := by
  intro H locs arr h1 h2 h3 h4 hP hS hL
  intro T hT X
  have hsz := wc_size K h1 hP hS hT X
  refine va_newaK (atype := .boolean) (g := F0 m pc arr ((eI n :: st).map (wc_v G))) (Q := Q) K.1 K.2.1 (K.2.2.2.2.1 _ hw) rfl hd rfl hn hN (by show N * _ ≤ _; simp only [newarray.typeOf, componentBytes]; omega) (by omega) (by omega) hsz (fun H1 cA e1 z1 o1 hAr hNm => ?_) T hT X
  have hcA : cA = gY G 1 := by
    have h8 : s.vm.findClass ("[" ++ (newarray.typeOf .boolean).toString) = some (gY G 1) := (K.2.2.2.2.2.1.1.2 1 _ rfl).2
    exact Option.some.inj (hNm.symm.trans h8)
  subst hcA
  have hx : va_at (gD G) vwCl (gZ G + w.length, wc_c G (cI 1 N (fun _ => 0))) H1 := by
    show H1[gZ G + w.length]? = some (vp_cell _ _)
    rw [e1, vp_cell_i]
    rfl
  have h9 := kk H1 locs arr (by rw [List.length_append]; omega) (by rw [wc_SL_push]; omega) (by rw [List.length_append]; show w.length + 1 + rc = _; omega) (by rw [wc_SL_push]; show wc_SL w + N + rs = _; omega) (wc_pushP hP hsz (fun q hq => o1 q (by omega)) hx) (wc_pushS hS (by omega) (fun q hq => o1 q (by omega))) hL
  have c1 : (w ++ [cI 1 N (fun _ => 0)]).length - n0 = w.length - n0 + 1 := by rw [List.length_append]; show w.length + 1 - n0 = _; omega
  have c2 : wc_SL (w ++ [cI 1 N (fun _ => 0)]) - s0 = wc_SL w - s0 + N := by rw [wc_SL_push]; show wc_SL w + N - s0 = _; omega
  rw [c1, c2] at h9
  exact h9
theorem ww_newq2 (K : wc_C p s m args meth c G own cc nL n0) {idx : Nat} {n : Int32} {N : Nat} (hd : decode cc pc = .ok (.anewarray idx, 3)) (hw : Cond.classLink own idx RX2 ∈ wc_B) (hn : ¬ n < 0) (hN : n.toNatClampNeg = N) (hb : N ≤ 100000) (kk : WW p l e R s m args below meth c Q G nL n0 s0 rc rs (pc + 3) (ls) (eR w.length :: st) (w ++ [cQ 2 N (fun _ => none)])) : WW p l e R s m args below meth c Q G nL n0 s0 (rc + 1) (rs + N) (pc) (ls) (eI n :: st) (w) := by
  intro H locs arr h1 h2 h3 h4 hP hS hL
  intro T hT X
  subst hN
  have hsz := wc_size K h1 hP hS hT X
  refine W.anew (g := F0 m pc arr ((eI n :: st).map (wc_v G))) (Q := Q) K.1 K.2.1 K.2.2.2.1 (K.2.2.2.2.1 _ hw) (va_AO.use K.2.2.2.2.2.1.2.2.2.2.2.1) rfl hd rfl hn (by omega) (by omega) (by omega) (fun cA kA comp f1 f2 f3 f4 => ?_) T hT X
  have hcA : cA = gY G 2 := by
    have h8 : va_RA s (gY G 2) (.object RX2) := (K.2.2.2.2.2.1.1.2 2 _ rfl).2
    obtain ⟨kA', comp', g1, g2, g3, g4⟩ := h8
    exact Option.some.inj (f1.symm.trans g4)
  subst hcA
  generalize hH1 : H.push ({ cls := gY G 2, slots := Array.replicate n.toNatClampNeg .null, vm := .none } : Cell) = H1
  have z1 : H1.size = H.size + 1 := by rw [← hH1, Array.size_push]
  have e1 : H1[gZ G + w.length]? = some (arrV (gY G 2) n.toNatClampNeg (fun _ => .null)) := by rw [← hsz, ← hH1, Array.getElem?_push_size, ← arrV_new]
  have o1 : ∀ q : Nat, q < H.size → H1[q]? = H[q]? := fun q hq => by rw [← hH1, Array.getElem?_push, if_neg (Nat.ne_of_lt hq)]
  have hx : va_at (gD G) vwCl (gZ G + w.length, wc_c G (cQ 2 n.toNatClampNeg (fun _ => none))) H1 := by
    show H1[gZ G + w.length]? = some (vp_cell _ _)
    rw [e1, vp_cell_q]
    rfl
  have h9 := kk H1 locs arr (by rw [List.length_append]; omega) (by rw [wc_SL_push]; omega) (by rw [List.length_append]; show w.length + 1 + rc = _; omega) (by rw [wc_SL_push]; show wc_SL w + n.toNatClampNeg + rs = _; omega) (wc_pushP hP hsz o1 hx) (wc_pushS hS z1 o1) hL
  have c1 : (w ++ [cQ 2 n.toNatClampNeg (fun _ => none)]).length - n0 = w.length - n0 + 1 := by rw [List.length_append]; show w.length + 1 - n0 = _; omega
  have c2 : wc_SL (w ++ [cQ 2 n.toNatClampNeg (fun _ => none)]) - s0 = wc_SL w - s0 + n.toNatClampNeg := by rw [wc_SL_push]; show wc_SL w + n.toNatClampNeg - s0 = _; omega
  rw [c1, c2] at h9
  rw [hsz]
  exact h9
theorem ww_newq3 (K : wc_C p s m args meth c G own cc nL n0) {idx : Nat} {n : Int32} {N : Nat} (hd : decode cc pc = .ok (.anewarray idx, 3)) (hw : Cond.classLink own idx RX3 ∈ wc_B) (hn : ¬ n < 0) (hN : n.toNatClampNeg = N) (hb : N ≤ 100000) (kk : WW p l e R s m args below meth c Q G nL n0 s0 rc rs (pc + 3) (ls) (eR w.length :: st) (w ++ [cQ 3 N (fun _ => none)])) : WW p l e R s m args below meth c Q G nL n0 s0 (rc + 1) (rs + N) (pc) (ls) (eI n :: st) (w) := by
  intro H locs arr h1 h2 h3 h4 hP hS hL
  intro T hT X
  subst hN
  have hsz := wc_size K h1 hP hS hT X
  refine W.anew (g := F0 m pc arr ((eI n :: st).map (wc_v G))) (Q := Q) K.1 K.2.1 K.2.2.2.1 (K.2.2.2.2.1 _ hw) (va_AO.use K.2.2.2.2.2.1.2.2.2.2.2.2.1) rfl hd rfl hn (by omega) (by omega) (by omega) (fun cA kA comp f1 f2 f3 f4 => ?_) T hT X
  have hcA : cA = gY G 3 := by
    have h8 : va_RA s (gY G 3) (.object RX3) := (K.2.2.2.2.2.1.1.2 3 _ rfl).2
    obtain ⟨kA', comp', g1, g2, g3, g4⟩ := h8
    exact Option.some.inj (f1.symm.trans g4)
  subst hcA
  generalize hH1 : H.push ({ cls := gY G 3, slots := Array.replicate n.toNatClampNeg .null, vm := .none } : Cell) = H1
  have z1 : H1.size = H.size + 1 := by rw [← hH1, Array.size_push]
  have e1 : H1[gZ G + w.length]? = some (arrV (gY G 3) n.toNatClampNeg (fun _ => .null)) := by rw [← hsz, ← hH1, Array.getElem?_push_size, ← arrV_new]
  have o1 : ∀ q : Nat, q < H.size → H1[q]? = H[q]? := fun q hq => by rw [← hH1, Array.getElem?_push, if_neg (Nat.ne_of_lt hq)]
  have hx : va_at (gD G) vwCl (gZ G + w.length, wc_c G (cQ 3 n.toNatClampNeg (fun _ => none))) H1 := by
    show H1[gZ G + w.length]? = some (vp_cell _ _)
    rw [e1, vp_cell_q]
    rfl
  have h9 := kk H1 locs arr (by rw [List.length_append]; omega) (by rw [wc_SL_push]; omega) (by rw [List.length_append]; show w.length + 1 + rc = _; omega) (by rw [wc_SL_push]; show wc_SL w + n.toNatClampNeg + rs = _; omega) (wc_pushP hP hsz o1 hx) (wc_pushS hS z1 o1) hL
  have c1 : (w ++ [cQ 3 n.toNatClampNeg (fun _ => none)]).length - n0 = w.length - n0 + 1 := by rw [List.length_append]; show w.length + 1 - n0 = _; omega
  have c2 : wc_SL (w ++ [cQ 3 n.toNatClampNeg (fun _ => none)]) - s0 = wc_SL w - s0 + n.toNatClampNeg := by rw [wc_SL_push]; show wc_SL w + n.toNatClampNeg - s0 = _; omega
  rw [c1, c2] at h9
  rw [hsz]
  exact h9
theorem ww_newq4 (K : wc_C p s m args meth c G own cc nL n0) {idx : Nat} {n : Int32} {N : Nat} (hd : decode cc pc = .ok (.anewarray idx, 3)) (hw : Cond.classLink own idx RX5 ∈ wc_B) (hn : ¬ n < 0) (hN : n.toNatClampNeg = N) (hb : N ≤ 100000) (kk : WW p l e R s m args below meth c Q G nL n0 s0 rc rs (pc + 3) (ls) (eR w.length :: st) (w ++ [cQ 4 N (fun _ => none)])) : WW p l e R s m args below meth c Q G nL n0 s0 (rc + 1) (rs + N) (pc) (ls) (eI n :: st) (w) := by
  intro H locs arr h1 h2 h3 h4 hP hS hL
  intro T hT X
  subst hN
  have hsz := wc_size K h1 hP hS hT X
  refine W.anew (g := F0 m pc arr ((eI n :: st).map (wc_v G))) (Q := Q) K.1 K.2.1 K.2.2.2.1 (K.2.2.2.2.1 _ hw) (va_AO.use K.2.2.2.2.2.1.2.2.2.2.2.2.2) rfl hd rfl hn (by omega) (by omega) (by omega) (fun cA kA comp f1 f2 f3 f4 => ?_) T hT X
  have hcA : cA = gY G 4 := by
    have h8 : va_RA s (gY G 4) (.object RX5) := (K.2.2.2.2.2.1.1.2 4 _ rfl).2
    obtain ⟨kA', comp', g1, g2, g3, g4⟩ := h8
    exact Option.some.inj (f1.symm.trans g4)
  subst hcA
  generalize hH1 : H.push ({ cls := gY G 4, slots := Array.replicate n.toNatClampNeg .null, vm := .none } : Cell) = H1
  have z1 : H1.size = H.size + 1 := by rw [← hH1, Array.size_push]
  have e1 : H1[gZ G + w.length]? = some (arrV (gY G 4) n.toNatClampNeg (fun _ => .null)) := by rw [← hsz, ← hH1, Array.getElem?_push_size, ← arrV_new]
  have o1 : ∀ q : Nat, q < H.size → H1[q]? = H[q]? := fun q hq => by rw [← hH1, Array.getElem?_push, if_neg (Nat.ne_of_lt hq)]
  have hx : va_at (gD G) vwCl (gZ G + w.length, wc_c G (cQ 4 n.toNatClampNeg (fun _ => none))) H1 := by
    show H1[gZ G + w.length]? = some (vp_cell _ _)
    rw [e1, vp_cell_q]
    rfl
  have h9 := kk H1 locs arr (by rw [List.length_append]; omega) (by rw [wc_SL_push]; omega) (by rw [List.length_append]; show w.length + 1 + rc = _; omega) (by rw [wc_SL_push]; show wc_SL w + n.toNatClampNeg + rs = _; omega) (wc_pushP hP hsz o1 hx) (wc_pushS hS z1 o1) hL
  have c1 : (w ++ [cQ 4 n.toNatClampNeg (fun _ => none)]).length - n0 = w.length - n0 + 1 := by rw [List.length_append]; show w.length + 1 - n0 = _; omega
  have c2 : wc_SL (w ++ [cQ 4 n.toNatClampNeg (fun _ => none)]) - s0 = wc_SL w - s0 + n.toNatClampNeg := by rw [wc_SL_push]; show wc_SL w + n.toNatClampNeg - s0 = _; omega
  rw [c1, c2] at h9
  rw [hsz]
  exact h9
theorem ww_objInit (K : wc_C p s m args meth c G own cc nL n0) {idx k : Nat} (hd : decode cc pc = .ok (.invokespecial idx, 3)) (hw : ∀ w ∈ [Cond.methodLink own idx objectInit, .instanceMethod objectInit, .code objectInit ⟨#[0xb1]⟩ 1 none], w ∈ wc_B) (hR : 1 ≤ R.frames ∧ wc_rest st + 12 ≤ R.locals) (kk : WW p l e R s m args below meth c Q G nL n0 s0 rc rs (pc + 3) (ls) (st) (w)) : WW p l e R s m args below meth c Q G nL n0 s0 rc rs (pc) (ls) (eR k :: st) (w) := fun H locs arr h1 h2 h3 h4 hP hS hL =>
  W.objInit K.1 K.2.1 K.2.2.2.1 (K.2.2.2.2.1 _ (hw _ (by simp))) (K.2.2.2.2.1 _ (hw _ (by simp))) (K.2.2.2.2.1 _ (hw _ (by simp))) rfl (hL.1.trans K.2.2.1.symm) rfl hd hR.1 (by show 2 * 0 + _ + 12 ≤ _; rw [wc_rest_ok]; omega) (kk H locs arr h1 h2 h3 h4 hP hS hL)
theorem ww_mmin (K : wc_C p s m args meth c G own cc nL n0) {idx : Nat} {x y : Int32} (hd : decode cc pc = .ok (.invokestatic idx, 3)) (hw : ∀ w ∈ [Cond.methodLink own idx Lib.Math.min.name, .static Lib.Math.min.name, .initialized "java/lang/Math", .code Lib.Math.min.name Lib.Math.min.code 2 (some .int)], w ∈ wc_B) (hR : 1 ≤ R.frames ∧ wc_rest st + 13 ≤ R.locals) (kk : WW p l e R s m args below meth c Q G nL n0 s0 rc rs (pc + 3) (ls) (eI (if y < x then y else x) :: st) (w)) : WW p l e R s m args below meth c Q G nL n0 s0 rc rs (pc) (ls) (eI y :: eI x :: st) (w) := fun H locs arr h1 h2 h3 h4 hP hS hL =>
  va_mmin K.1 K.2.1 (K.2.2.1.trans hL.1.symm) K.2.2.2.1 (K.2.2.2.2.1 _ (hw _ (by simp))) (K.2.2.2.2.1 _ (hw _ (by simp))) (K.2.2.2.2.1 _ (hw _ (by simp))) (K.2.2.2.2.1 _ (hw _ (by simp))) hR.1 (by rw [wc_rest_ok]; exact hR.2) (by omega) (by omega) hd (kk H locs arr h1 h2 h3 h4 hP hS hL)
theorem ww_mmax (K : wc_C p s m args meth c G own cc nL n0) {idx : Nat} {x y : Int32} (hd : decode cc pc = .ok (.invokestatic idx, 3)) (hw : ∀ w ∈ [Cond.methodLink own idx Lib.Math.max.name, .static Lib.Math.max.name, .initialized "java/lang/Math", .code Lib.Math.max.name Lib.Math.max.code 2 (some .int)], w ∈ wc_B) (hR : 1 ≤ R.frames ∧ wc_rest st + 13 ≤ R.locals) (kk : WW p l e R s m args below meth c Q G nL n0 s0 rc rs (pc + 3) (ls) (eI (if x < y then y else x) :: st) (w)) : WW p l e R s m args below meth c Q G nL n0 s0 rc rs (pc) (ls) (eI y :: eI x :: st) (w) := fun H locs arr h1 h2 h3 h4 hP hS hL =>
  va_mmax K.1 K.2.1 (K.2.2.1.trans hL.1.symm) K.2.2.2.1 (K.2.2.2.2.1 _ (hw _ (by simp))) (K.2.2.2.2.1 _ (hw _ (by simp))) (K.2.2.2.2.1 _ (hw _ (by simp))) (K.2.2.2.2.1 _ (hw _ (by simp))) hR.1 (by rw [wc_rest_ok]; exact hR.2) (by omega) (by omega) hd (kk H locs arr h1 h2 h3 h4 hP hS hL)
theorem ww_mabs (K : wc_C p s m args meth c G own cc nL n0) {idx : Nat} {x : Int32} (hd : decode cc pc = .ok (.invokestatic idx, 3)) (hw : ∀ w ∈ [Cond.methodLink own idx Lib.Math.abs.name, .static Lib.Math.abs.name, .initialized "java/lang/Math", .code Lib.Math.abs.name Lib.Math.abs.code 1 (some .int)], w ∈ wc_B) (hR : 1 ≤ R.frames ∧ wc_rest st + 13 ≤ R.locals) (kk : WW p l e R s m args below meth c Q G nL n0 s0 rc rs (pc + 3) (ls) (eI (if 0 ≤ x then x else 0 - x) :: st) (w)) : WW p l e R s m args below meth c Q G nL n0 s0 rc rs (pc) (ls) (eI x :: st) (w) := fun H locs arr h1 h2 h3 h4 hP hS hL =>
  va_mabs K.1 K.2.1 (K.2.2.1.trans hL.1.symm) K.2.2.2.1 (K.2.2.2.2.1 _ (hw _ (by simp))) (K.2.2.2.2.1 _ (hw _ (by simp))) (K.2.2.2.2.1 _ (hw _ (by simp))) (K.2.2.2.2.1 _ (hw _ (by simp))) hR.1 (by rw [wc_rest_ok]; exact hR.2) (by omega) (by omega) hd (kk H locs arr h1 h2 h3 h4 hP hS hL)
theorem ww_copy (K : wc_C p s m args meth c G own cc nL n0) {idx k0 k1 n0' n1 : Nat} {f g : Nat → Int32} {sp dp n : Int32} (hd : decode cc pc = .ok (.invokestatic idx, 3)) (hw : ∀ w ∈ [Cond.methodLink own idx arraycopyName, .native arraycopyName, .static arraycopyName, .initialized "java/lang/System"], w ∈ wc_B) (hk0 : w[k0]? = some (cI 0 n0' f)) (hk1 : w[k1]? = some (cI 0 n1 g)) (g1 : ¬ sp < 0) (g2 : ¬ dp < 0) (g3 : ¬ n < 0) (g4 : sp.toNatClampNeg + n.toNatClampNeg ≤ n0') (g5 : dp.toNatClampNeg + n.toNatClampNeg ≤ n1) (hR : 1 ≤ R.frames ∧ wc_rest st + (nativeFrameWords "java/lang/System" "arraycopy" 5 + 11) ≤ R.locals) (kk : WW p l e R s m args below meth c Q G nL n0 s0 rc rs (pc + 3) (ls) (st) (w.set k1 (cI 0 n1 (va_cpy f g sp.toNatClampNeg dp.toNatClampNeg n.toNatClampNeg)))) : WW p l e R s m args below meth c Q G nL n0 s0 rc rs (pc) (ls) (eI n :: eI dp :: eR k1 :: eI sp :: eR k0 :: st) (w) := fun H locs arr h1 h2 h3 h4 hP hS hL => by
  refine va_copyi K.1 K.2.1 (K.2.2.1.trans hL.1.symm) K.2.2.2.1 (K.2.2.2.2.1 _ (hw _ (by simp))) (K.2.2.2.2.1 _ (hw _ (by simp))) (K.2.2.2.2.1 _ (hw _ (by simp))) (K.2.2.2.2.1 _ (hw _ (by simp))) K.2.2.2.2.2.1.1 hP wc_D hS k0 k1 0 0 (wc_l_get hk0) (wc_l_get hk1) rfl rfl rfl g1 g2 g3 g4 g5 (fun _ _ => rfl) hR.1 (by rw [wc_rest_ok]; exact hR.2) hd (fun H1 locs1 hP1 _ hS1 => ?_)
  have hP2 : va_P (gD G) vwCl (wc_l G (w.set k1 (cI 0 n1 (va_cpy f g sp.toNatClampNeg dp.toNatClampNeg n.toNatClampNeg)))) H1 := by rw [← wc_l_set]; exact hP1
  have e2 := wc_SL_set (d := cI 0 n1 (va_cpy f g sp.toNatClampNeg dp.toNatClampNeg n.toNatClampNeg)) hk1 rfl
  have hk2 := kk H1 locs1 arr (by rw [List.length_set]; exact h1) (by rw [e2]; exact h2) (by rw [List.length_set]; exact h3) (by rw [e2]; exact h4) hP2 hS1 hL
  rw [List.length_set, e2] at hk2
  exact hk2
end WM
end
section
/-- w2 is w but for the cells in S -/
def wc_same (S : List Nat) (w w2 : EW) : Prop := ∀ j : Nat, j ∉ S → w2[j]? = w[j]?
theorem wc_same.rf {S : List Nat} {w : EW} : wc_same S w w := fun _ _ => rfl
theorem wc_same.put {S : List Nat} {w w1 w2 : EW} {k : Nat} (h : wc_same S w w1) (hk : k ∈ S) (hn : ∀ j : Nat, j ≠ k → w2[j]? = w1[j]?) : wc_same S w w2 := fun j hj => (hn j (fun q => hj (q ▸ hk))).trans (h j hj)
theorem wc_same.call {S T : List Nat} {w w1 w2 : EW} (h : wc_same S w w1) (h2 : wc_same T w1 w2) (hT : ∀ j ∈ T, j ∈ S) : wc_same S w w2 := fun j hj => (h2 j (fun q => hj (hT j q))).trans (h j hj)
theorem wc_same.keep {S : List Nat} {w w2 : EW} {j : Nat} {cx : EC} (h : wc_same S w w2) (hw : w[j]? = some cx) (hj : j ∉ S) : w2[j]? = some cx := (h j hj).trans hw
theorem wc_set_at {w : EW} {k : Nat} {cx d : EC} (h : w[k]? = some cx) : (w.set k d)[k]? = some d := by
  rw [List.getElem?_set_self (List.getElem?_eq_some_iff.mp h).1]
theorem wc_set_ne {w : EW} {k : Nat} {d : EC} : ∀ j : Nat, j ≠ k → (w.set k d)[j]? = w[j]? := fun j hj => List.getElem?_set_ne (fun q => hj q.symm)
section WF
variable {p : Program} {l : Launch} {e : Env} {R : Room} {s : State} {m : MethodId} {args : Array Value} {below : List Frame} {meth : Method} {c : Code} {Q : State → Prop} {G : EG} {own : String} {cc : ByteArray} {nL n0 s0 rc rs pc : Nat} {ls : List (Option EV)} {st : List EV} {w : EW}
theorem ww_cS (K : wc_C p s m args meth c G own cc nL n0) {y : MethodName} {b : ByteArray} {nL2 d idx : Nat} {ret : Option FieldType} {as : List EV} {st0 : List EV} {v : EV} {w2 : EW} (hd : decode cc pc = .ok (.invokestatic idx, 3)) (hw : wk_S own idx y b nL2 ret as.length) (hC : Ct G l y b nL2 ret d 0 0 as w (fun r w3 => r = (some v) ∧ w3 = w2)) (hst0 : st0 = as.reverse ++ st) (hR : d + 1 ≤ R.frames ∧ 8 + (nL2 + 11) + 40 * d ≤ R.locals) (hrest : wc_rest st ≤ 8) (kk : WW p l e R s m args below meth c Q G nL n0 s0 rc rs (pc + 3) (ls) (v :: st) (w2)) : WW p l e R s m args below meth c Q G nL n0 s0 rc rs (pc) (ls) (st0) (w) :=
  ww_callS K hd hw hC hst0 hR hrest (fun r w3 hq _ _ => by obtain ⟨rfl, rfl⟩ := hq; exact kk)
theorem ww_xS (K : wc_C p s m args meth c G own cc nL n0) {y : MethodName} {b : ByteArray} {nL2 d idx : Nat} {ret : Option FieldType} {as : List EV} {st0 : List EV} {Pq : Int32 → EW → Prop} (hd : decode cc pc = .ok (.invokestatic idx, 3)) (hw : wk_S own idx y b nL2 ret as.length) (hC : Ct G l y b nL2 ret d 0 0 as w (fun r w3 => (∃ x : Int32, r = some (eI x) ∧ Pq x w3))) (hst0 : st0 = as.reverse ++ st) (hR : d + 1 ≤ R.frames ∧ 8 + (nL2 + 11) + 40 * d ≤ R.locals) (hrest : wc_rest st ≤ 8) (kk : ∀ (x : Int32) (w2 : EW), Pq x w2 → w2.length = w.length → WW p l e R s m args below meth c Q G nL n0 s0 rc rs (pc + 3) (ls) (eI x :: st) (w2)) : WW p l e R s m args below meth c Q G nL n0 s0 rc rs (pc) (ls) (st0) (w) :=
  ww_callS K hd hw hC hst0 hR hrest (fun r w3 hq hl _ => by obtain ⟨x, rfl, hq⟩ := hq; exact kk x w3 hq hl)
theorem ww_cSv (K : wc_C p s m args meth c G own cc nL n0) {y : MethodName} {b : ByteArray} {nL2 d idx : Nat} {ret : Option FieldType} {as : List EV} {st0 : List EV} {v : EV} {w2 : EW} (hd : decode cc pc = .ok (.invokestatic idx, 3)) (hw : wk_S own idx y b nL2 ret as.length) (hC : Ct G l y b nL2 ret d 0 0 as w (fun r w3 => r = none ∧ w3 = w2)) (hst0 : st0 = as.reverse ++ st) (hR : d + 1 ≤ R.frames ∧ 8 + (nL2 + 11) + 40 * d ≤ R.locals) (hrest : wc_rest st ≤ 8) (kk : WW p l e R s m args below meth c Q G nL n0 s0 rc rs (pc + 3) (ls) (st) (w2)) : WW p l e R s m args below meth c Q G nL n0 s0 rc rs (pc) (ls) (st0) (w) :=
  ww_callS K hd hw hC hst0 hR hrest (fun r w3 hq _ _ => by obtain ⟨rfl, rfl⟩ := hq; exact kk)
theorem ww_xSv (K : wc_C p s m args meth c G own cc nL n0) {y : MethodName} {b : ByteArray} {nL2 d idx : Nat} {ret : Option FieldType} {as : List EV} {st0 : List EV} {Pq : EW → Prop} (hd : decode cc pc = .ok (.invokestatic idx, 3)) (hw : wk_S own idx y b nL2 ret as.length) (hC : Ct G l y b nL2 ret d 0 0 as w (fun r w3 => (r = none ∧ Pq w3))) (hst0 : st0 = as.reverse ++ st) (hR : d + 1 ≤ R.frames ∧ 8 + (nL2 + 11) + 40 * d ≤ R.locals) (hrest : wc_rest st ≤ 8) (kk : ∀ w2 : EW, Pq w2 → w2.length = w.length → WW p l e R s m args below meth c Q G nL n0 s0 rc rs (pc + 3) (ls) (st) (w2)) : WW p l e R s m args below meth c Q G nL n0 s0 rc rs (pc) (ls) (st0) (w) :=
  ww_callS K hd hw hC hst0 hR hrest (fun r w3 hq hl _ => by obtain ⟨rfl, hq⟩ := hq; exact kk w3 hq hl)
theorem ww_cSN (K : wc_C p s m args meth c G own cc nL n0) {y : MethodName} {b : ByteArray} {nL2 d idx : Nat} {ret : Option FieldType} {as : List EV} {st0 : List EV} {host : String} {v : EV} {w2 : EW} (hd : decode cc pc = .ok (.invokestatic idx, 3)) (hw : wk_SN own idx y host b nL2 ret as.length) (hC : Ct G l y b nL2 ret d 0 0 as w (fun r w3 => r = (some v) ∧ w3 = w2)) (hst0 : st0 = as.reverse ++ st) (hR : d + 1 ≤ R.frames ∧ 8 + (nL2 + 11) + 40 * d ≤ R.locals) (hrest : wc_rest st ≤ 8) (kk : WW p l e R s m args below meth c Q G nL n0 s0 rc rs (pc + 3) (ls) (v :: st) (w2)) : WW p l e R s m args below meth c Q G nL n0 s0 rc rs (pc) (ls) (st0) (w) :=
  ww_callSN K hd hw hC hst0 hR hrest (fun r w3 hq _ _ => by obtain ⟨rfl, rfl⟩ := hq; exact kk)
theorem ww_xSN (K : wc_C p s m args meth c G own cc nL n0) {y : MethodName} {b : ByteArray} {nL2 d idx : Nat} {ret : Option FieldType} {as : List EV} {st0 : List EV} {host : String} {Pq : Int32 → EW → Prop} (hd : decode cc pc = .ok (.invokestatic idx, 3)) (hw : wk_SN own idx y host b nL2 ret as.length) (hC : Ct G l y b nL2 ret d 0 0 as w (fun r w3 => (∃ x : Int32, r = some (eI x) ∧ Pq x w3))) (hst0 : st0 = as.reverse ++ st) (hR : d + 1 ≤ R.frames ∧ 8 + (nL2 + 11) + 40 * d ≤ R.locals) (hrest : wc_rest st ≤ 8) (kk : ∀ (x : Int32) (w2 : EW), Pq x w2 → w2.length = w.length → WW p l e R s m args below meth c Q G nL n0 s0 rc rs (pc + 3) (ls) (eI x :: st) (w2)) : WW p l e R s m args below meth c Q G nL n0 s0 rc rs (pc) (ls) (st0) (w) :=
  ww_callSN K hd hw hC hst0 hR hrest (fun r w3 hq hl _ => by obtain ⟨x, rfl, hq⟩ := hq; exact kk x w3 hq hl)
theorem ww_cSNv (K : wc_C p s m args meth c G own cc nL n0) {y : MethodName} {b : ByteArray} {nL2 d idx : Nat} {ret : Option FieldType} {as : List EV} {st0 : List EV} {host : String} {v : EV} {w2 : EW} (hd : decode cc pc = .ok (.invokestatic idx, 3)) (hw : wk_SN own idx y host b nL2 ret as.length) (hC : Ct G l y b nL2 ret d 0 0 as w (fun r w3 => r = none ∧ w3 = w2)) (hst0 : st0 = as.reverse ++ st) (hR : d + 1 ≤ R.frames ∧ 8 + (nL2 + 11) + 40 * d ≤ R.locals) (hrest : wc_rest st ≤ 8) (kk : WW p l e R s m args below meth c Q G nL n0 s0 rc rs (pc + 3) (ls) (st) (w2)) : WW p l e R s m args below meth c Q G nL n0 s0 rc rs (pc) (ls) (st0) (w) :=
  ww_callSN K hd hw hC hst0 hR hrest (fun r w3 hq _ _ => by obtain ⟨rfl, rfl⟩ := hq; exact kk)
theorem ww_xSNv (K : wc_C p s m args meth c G own cc nL n0) {y : MethodName} {b : ByteArray} {nL2 d idx : Nat} {ret : Option FieldType} {as : List EV} {st0 : List EV} {host : String} {Pq : EW → Prop} (hd : decode cc pc = .ok (.invokestatic idx, 3)) (hw : wk_SN own idx y host b nL2 ret as.length) (hC : Ct G l y b nL2 ret d 0 0 as w (fun r w3 => (r = none ∧ Pq w3))) (hst0 : st0 = as.reverse ++ st) (hR : d + 1 ≤ R.frames ∧ 8 + (nL2 + 11) + 40 * d ≤ R.locals) (hrest : wc_rest st ≤ 8) (kk : ∀ w2 : EW, Pq w2 → w2.length = w.length → WW p l e R s m args below meth c Q G nL n0 s0 rc rs (pc + 3) (ls) (st) (w2)) : WW p l e R s m args below meth c Q G nL n0 s0 rc rs (pc) (ls) (st0) (w) :=
  ww_callSN K hd hw hC hst0 hR hrest (fun r w3 hq hl _ => by obtain ⟨rfl, hq⟩ := hq; exact kk w3 hq hl)
theorem ww_cV (K : wc_C p s m args meth c G own cc nL n0) {y : MethodName} {b : ByteArray} {nL2 d idx : Nat} {ret : Option FieldType} {as : List EV} {st0 : List EV} {k ci : Nat} {fs : List EV} {v : EV} {w2 : EW} (hd : decode cc pc = .ok (.invokevirtual idx, 3)) (hw : wk_V own idx y b nL2 ret as.length) (hk : w[k]? = some (cO ci fs)) (hci : ∃ q, vwCl[ci]? = some q ∧ q.1 = y.cls) (hC : Ct G l y b nL2 ret d 0 0 (eR k :: as) w (fun r w3 => r = (some v) ∧ w3 = w2)) (hst0 : st0 = as.reverse ++ eR k :: st) (hR : d + 1 ≤ R.frames ∧ 8 + (nL2 + 11) + 40 * d ≤ R.locals) (hrest : wc_rest st ≤ 8) (kk : WW p l e R s m args below meth c Q G nL n0 s0 rc rs (pc + 3) (ls) (v :: st) (w2)) : WW p l e R s m args below meth c Q G nL n0 s0 rc rs (pc) (ls) (st0) (w) :=
  ww_callV K hd hw hk hci hC hst0 hR hrest (fun r w3 hq _ _ => by obtain ⟨rfl, rfl⟩ := hq; exact kk)
theorem ww_xV (K : wc_C p s m args meth c G own cc nL n0) {y : MethodName} {b : ByteArray} {nL2 d idx : Nat} {ret : Option FieldType} {as : List EV} {st0 : List EV} {k ci : Nat} {fs : List EV} {Pq : Int32 → EW → Prop} (hd : decode cc pc = .ok (.invokevirtual idx, 3)) (hw : wk_V own idx y b nL2 ret as.length) (hk : w[k]? = some (cO ci fs)) (hci : ∃ q, vwCl[ci]? = some q ∧ q.1 = y.cls) (hC : Ct G l y b nL2 ret d 0 0 (eR k :: as) w (fun r w3 => (∃ x : Int32, r = some (eI x) ∧ Pq x w3))) (hst0 : st0 = as.reverse ++ eR k :: st) (hR : d + 1 ≤ R.frames ∧ 8 + (nL2 + 11) + 40 * d ≤ R.locals) (hrest : wc_rest st ≤ 8) (kk : ∀ (x : Int32) (w2 : EW), Pq x w2 → w2.length = w.length → WW p l e R s m args below meth c Q G nL n0 s0 rc rs (pc + 3) (ls) (eI x :: st) (w2)) : WW p l e R s m args below meth c Q G nL n0 s0 rc rs (pc) (ls) (st0) (w) :=
  ww_callV K hd hw hk hci hC hst0 hR hrest (fun r w3 hq hl _ => by obtain ⟨x, rfl, hq⟩ := hq; exact kk x w3 hq hl)
theorem ww_cVv (K : wc_C p s m args meth c G own cc nL n0) {y : MethodName} {b : ByteArray} {nL2 d idx : Nat} {ret : Option FieldType} {as : List EV} {st0 : List EV} {k ci : Nat} {fs : List EV} {v : EV} {w2 : EW} (hd : decode cc pc = .ok (.invokevirtual idx, 3)) (hw : wk_V own idx y b nL2 ret as.length) (hk : w[k]? = some (cO ci fs)) (hci : ∃ q, vwCl[ci]? = some q ∧ q.1 = y.cls) (hC : Ct G l y b nL2 ret d 0 0 (eR k :: as) w (fun r w3 => r = none ∧ w3 = w2)) (hst0 : st0 = as.reverse ++ eR k :: st) (hR : d + 1 ≤ R.frames ∧ 8 + (nL2 + 11) + 40 * d ≤ R.locals) (hrest : wc_rest st ≤ 8) (kk : WW p l e R s m args below meth c Q G nL n0 s0 rc rs (pc + 3) (ls) (st) (w2)) : WW p l e R s m args below meth c Q G nL n0 s0 rc rs (pc) (ls) (st0) (w) :=
  ww_callV K hd hw hk hci hC hst0 hR hrest (fun r w3 hq _ _ => by obtain ⟨rfl, rfl⟩ := hq; exact kk)
theorem ww_xVv (K : wc_C p s m args meth c G own cc nL n0) {y : MethodName} {b : ByteArray} {nL2 d idx : Nat} {ret : Option FieldType} {as : List EV} {st0 : List EV} {k ci : Nat} {fs : List EV} {Pq : EW → Prop} (hd : decode cc pc = .ok (.invokevirtual idx, 3)) (hw : wk_V own idx y b nL2 ret as.length) (hk : w[k]? = some (cO ci fs)) (hci : ∃ q, vwCl[ci]? = some q ∧ q.1 = y.cls) (hC : Ct G l y b nL2 ret d 0 0 (eR k :: as) w (fun r w3 => (r = none ∧ Pq w3))) (hst0 : st0 = as.reverse ++ eR k :: st) (hR : d + 1 ≤ R.frames ∧ 8 + (nL2 + 11) + 40 * d ≤ R.locals) (hrest : wc_rest st ≤ 8) (kk : ∀ w2 : EW, Pq w2 → w2.length = w.length → WW p l e R s m args below meth c Q G nL n0 s0 rc rs (pc + 3) (ls) (st) (w2)) : WW p l e R s m args below meth c Q G nL n0 s0 rc rs (pc) (ls) (st0) (w) :=
  ww_callV K hd hw hk hci hC hst0 hR hrest (fun r w3 hq hl _ => by obtain ⟨rfl, hq⟩ := hq; exact kk w3 hq hl)
theorem ww_putX (K : wc_C p s m args meth c G own cc nL n0) {k ci j idx : Nat} {fs : List EV} {v : EV} {ty : FieldType} (hd : decode cc pc = .ok (.putfield idx, 3)) (hF : wc_fpt own idx ci j false ty) (hk : w[k]? = some (cO ci fs)) (hj : j < fs.length) (hn : narrow ty (wc_v G v) = wc_v G v) (hf : fits ty (wc_v G v) = true) (kk : ∀ w2 : EW, w2.length = w.length → w2[k]? = some (cO ci (fs.set j v)) → (∀ j : Nat, j ≠ k → w2[j]? = w[j]?) → WW p l e R s m args below meth c Q G nL n0 s0 rc rs (pc + 3) (ls) (st) (w2)) : WW p l e R s m args below meth c Q G nL n0 s0 rc rs (pc) (ls) (v :: eR k :: st) (w) :=
  ww_put K hd hF hk hj hn hf (kk _ List.length_set (wc_set_at hk) wc_set_ne)
theorem ww_iastX (K : wc_C p s m args meth c G own cc nL n0) {k n : Nat} {f : Nat → Int32} {i x : Int32} (hd : decode cc pc = .ok (.iastore, 1)) (hk : w[k]? = some (cI 0 n f)) (hin : vp_in i n) (kk : ∀ w2 : EW, w2.length = w.length → w2[k]? = some (cI 0 n (upd f i.toNatClampNeg x)) → (∀ j : Nat, j ≠ k → w2[j]? = w[j]?) → WW p l e R s m args below meth c Q G nL n0 s0 rc rs (pc + 1) (ls) (st) (w2)) : WW p l e R s m args below meth c Q G nL n0 s0 rc rs (pc) (ls) (eI x :: eI i :: eR k :: st) (w) :=
  ww_iast K hd hk hin (kk _ List.length_set (wc_set_at hk) wc_set_ne)
theorem ww_zastX (K : wc_C p s m args meth c G own cc nL n0) {k n : Nat} {f : Nat → Int32} {i x : Int32} (hd : decode cc pc = .ok (.bastore, 1)) (hk : w[k]? = some (cI 1 n f)) (hin : vp_in i n) (kk : ∀ w2 : EW, w2.length = w.length → w2[k]? = some (cI 1 n (upd f i.toNatClampNeg (vp_nar .boolean x))) → (∀ j : Nat, j ≠ k → w2[j]? = w[j]?) → WW p l e R s m args below meth c Q G nL n0 s0 rc rs (pc + 1) (ls) (st) (w2)) : WW p l e R s m args below meth c Q G nL n0 s0 rc rs (pc) (ls) (eI x :: eI i :: eR k :: st) (w) :=
  ww_zast K hd hk hin (kk _ List.length_set (wc_set_at hk) wc_set_ne)
theorem ww_copyX (K : wc_C p s m args meth c G own cc nL n0) {idx k0 k n0' n1 : Nat} {f g : Nat → Int32} {sp dp n : Int32} (hd : decode cc pc = .ok (.invokestatic idx, 3)) (hw : ∀ w ∈ [Cond.methodLink own idx arraycopyName, .native arraycopyName, .static arraycopyName, .initialized "java/lang/System"], w ∈ wc_B) (hk0 : w[k0]? = some (cI 0 n0' f)) (hk : w[k]? = some (cI 0 n1 g)) (g1 : ¬ sp < 0) (g2 : ¬ dp < 0) (g3 : ¬ n < 0) (g4 : sp.toNatClampNeg + n.toNatClampNeg ≤ n0') (g5 : dp.toNatClampNeg + n.toNatClampNeg ≤ n1) (hR : 1 ≤ R.frames ∧ wc_rest st + (nativeFrameWords "java/lang/System" "arraycopy" 5 + 11) ≤ R.locals) (kk : ∀ w2 : EW, w2.length = w.length → w2[k]? = some (cI 0 n1 (va_cpy f g sp.toNatClampNeg dp.toNatClampNeg n.toNatClampNeg)) → (∀ j : Nat, j ≠ k → w2[j]? = w[j]?) → WW p l e R s m args below meth c Q G nL n0 s0 rc rs (pc + 3) (ls) (st) (w2)) : WW p l e R s m args below meth c Q G nL n0 s0 rc rs (pc) (ls) (eI n :: eI dp :: eR k :: eI sp :: eR k0 :: st) (w) :=
  ww_copy K hd hw hk0 hk g1 g2 g3 g4 g5 hR (kk _ List.length_set (wc_set_at hk) wc_set_ne)
theorem wc_aget {w0 L : EW} {j : Nat} {cx : EC} (h : L[j]? = some cx) : (w0 ++ L)[w0.length + j]? = some cx := by
  rw [List.getElem?_append_right (Nat.le_add_right _ _), Nat.add_sub_cancel_left]; exact h
theorem wc_aset {w0 L : EW} {j : Nat} {cx : EC} : (w0 ++ L).set (w0.length + j) cx = w0 ++ L.set j cx := by
  rw [List.set_append_right _ _ (Nat.le_add_right _ _), Nat.add_sub_cancel_left]
theorem ww_getA (K : wc_C p s m args meth c G own cc nL n0) {w0 L : EW} {o ci j idx : Nat} {fs : List EV} {v : EV} (hd : decode cc pc = .ok (.getfield idx, 3)) (hF : wc_fld own idx ci j) (hk : L[o]? = some (cO ci fs)) (hv : fs[j]? = some v) (kk : WW p l e R s m args below meth c Q G nL n0 s0 rc rs (pc + 3) (ls) (v :: st) (w0 ++ L)) : WW p l e R s m args below meth c Q G nL n0 s0 rc rs (pc) (ls) (eR (w0.length + o) :: st) (w0 ++ L) := ww_get K hd hF (wc_aget hk) hv kk
theorem ww_putA (K : wc_C p s m args meth c G own cc nL n0) {w0 L L2 : EW} {o ci j idx : Nat} {fs : List EV} {v : EV} {ty : FieldType} (hd : decode cc pc = .ok (.putfield idx, 3)) (hF : wc_fpt own idx ci j false ty) (hk : L[o]? = some (cO ci fs)) (hj : j < fs.length) (hn : narrow ty (wc_v G v) = wc_v G v) (hf : fits ty (wc_v G v) = true) (hL : L.set o (cO ci (fs.set j v)) = L2) (kk : WW p l e R s m args below meth c Q G nL n0 s0 rc rs (pc + 3) (ls) (st) (w0 ++ L2)) : WW p l e R s m args below meth c Q G nL n0 s0 rc rs (pc) (ls) (v :: eR (w0.length + o) :: st) (w0 ++ L) := ww_put K hd hF (wc_aget hk) hj hn hf (by rw [wc_aset, hL]; exact kk)
theorem ww_putFA (K : wc_C p s m args meth c G own cc nL n0) {w0 L L2 : EW} {o ci j idx : Nat} {fs : List EV} {v : EV} {ty : FieldType} (hin : meth.name = "<init>") (hd : decode cc pc = .ok (.putfield idx, 3)) (hF : wc_fpt own idx ci j true ty) (hC : ∀ q, vwCl[ci]? = some q → q.1 = own) (hk : L[o]? = some (cO ci fs)) (hj : j < fs.length) (hn : narrow ty (wc_v G v) = wc_v G v) (hf : fits ty (wc_v G v) = true) (hL : L.set o (cO ci (fs.set j v)) = L2) (kk : WW p l e R s m args below meth c Q G nL n0 s0 rc rs (pc + 3) (ls) (st) (w0 ++ L2)) : WW p l e R s m args below meth c Q G nL n0 s0 rc rs (pc) (ls) (v :: eR (w0.length + o) :: st) (w0 ++ L) := ww_putF K hin hd hF hC (wc_aget hk) hj hn hf (by rw [wc_aset, hL]; exact kk)
theorem ww_newA (K : wc_C p s m args meth c G own cc nL n0) {w0 L L2 : EW} {o idx ci : Nat} {fs : List EV} (hd : decode cc pc = .ok (.new idx, 3)) (hN : wk_N own idx ci fs) (ho : L.length = o) (hL : L ++ [cO ci fs] = L2) (kk : WW p l e R s m args below meth c Q G nL n0 s0 rc rs (pc + 3) (ls) (eR (w0.length + o) :: st) (w0 ++ L2)) : WW p l e R s m args below meth c Q G nL n0 s0 (rc + 1) (rs + fs.length) (pc) (ls) (st) (w0 ++ L) := by
  refine ww_new K hd hN ?_
  rw [List.length_append, ho, List.append_assoc, hL]
  exact kk
theorem ww_newIA (K : wc_C p s m args meth c G own cc nL n0) {w0 L L2 : EW} {o : Nat} {n : Int32} {N : Nat} (hd : decode cc pc = .ok (.newarray .int, 2)) (hw : Cond.arrayClass .int ∈ wc_B) (hn : ¬ n < 0) (hN : n.toNatClampNeg = N) (hb : N ≤ 100000) (ho : L.length = o) (hL : L ++ [cI 0 N (fun _ => 0)] = L2) (kk : WW p l e R s m args below meth c Q G nL n0 s0 rc rs (pc + 2) (ls) (eR (w0.length + o) :: st) (w0 ++ L2)) : WW p l e R s m args below meth c Q G nL n0 s0 (rc + 1) (rs + N) (pc) (ls) (eI n :: st) (w0 ++ L) := by
  refine ww_newI K hd hw hn hN hb ?_
  rw [List.length_append, ho, List.append_assoc, hL]
  exact kk
theorem ww_newZA (K : wc_C p s m args meth c G own cc nL n0) {w0 L L2 : EW} {o : Nat} {n : Int32} {N : Nat} (hd : decode cc pc = .ok (.newarray .boolean, 2)) (hw : Cond.arrayClass .boolean ∈ wc_B) (hn : ¬ n < 0) (hN : n.toNatClampNeg = N) (hb : N ≤ 100000) (ho : L.length = o) (hL : L ++ [cI 1 N (fun _ => 0)] = L2) (kk : WW p l e R s m args below meth c Q G nL n0 s0 rc rs (pc + 2) (ls) (eR (w0.length + o) :: st) (w0 ++ L2)) : WW p l e R s m args below meth c Q G nL n0 s0 (rc + 1) (rs + N) (pc) (ls) (eI n :: st) (w0 ++ L) := by
  refine ww_newZ K hd hw hn hN hb ?_
  rw [List.length_append, ho, List.append_assoc, hL]
  exact kk
theorem ww_newq2A (K : wc_C p s m args meth c G own cc nL n0) {w0 L L2 : EW} {o idx : Nat} {n : Int32} {N : Nat} (hd : decode cc pc = .ok (.anewarray idx, 3)) (hw : Cond.classLink own idx RX2 ∈ wc_B) (hn : ¬ n < 0) (hN : n.toNatClampNeg = N) (hb : N ≤ 100000) (ho : L.length = o) (hL : L ++ [cQ 2 N (fun _ => none)] = L2) (kk : WW p l e R s m args below meth c Q G nL n0 s0 rc rs (pc + 3) (ls) (eR (w0.length + o) :: st) (w0 ++ L2)) : WW p l e R s m args below meth c Q G nL n0 s0 (rc + 1) (rs + N) (pc) (ls) (eI n :: st) (w0 ++ L) := by
  refine ww_newq2 K hd hw hn hN hb ?_
  rw [List.length_append, ho, List.append_assoc, hL]
  exact kk
theorem ww_aast2A (K : wc_C p s m args meth c G own cc nL n0) {w0 L L2 : EW} {o v n : Nat} {f : Nat → Option Nat} {i : Int32} {vs : List EV} (hd : decode cc pc = .ok (.aastore, 1)) (hk : L[o]? = some (cQ 2 n f)) (hv : L[v]? = some (cO 2 vs)) (hin : vp_in i n) (hL : L.set o (cQ 2 n (va_up f i.toNatClampNeg (some (w0.length + v)))) = L2) (kk : WW p l e R s m args below meth c Q G nL n0 s0 rc rs (pc + 1) (ls) (st) (w0 ++ L2)) : WW p l e R s m args below meth c Q G nL n0 s0 rc rs (pc) (ls) (eR (w0.length + v) :: eI i :: eR (w0.length + o) :: st) (w0 ++ L) := ww_aast2 K hd (wc_aget hk) (wc_aget hv) hin (by rw [wc_aset, hL]; exact kk)
theorem ww_alenq2A (K : wc_C p s m args meth c G own cc nL n0) {w0 L : EW} {o n : Nat} {f : Nat → Option Nat} (hd : decode cc pc = .ok (.arraylength, 1)) (hk : L[o]? = some (cQ 2 n f)) (kk : WW p l e R s m args below meth c Q G nL n0 s0 rc rs (pc + 1) (ls) (eI (Int32.ofNat n) :: st) (w0 ++ L)) : WW p l e R s m args below meth c Q G nL n0 s0 rc rs (pc) (ls) (eR (w0.length + o) :: st) (w0 ++ L) := ww_alenq K hd (wc_aget hk) (by decide) kk
theorem ww_newq3A (K : wc_C p s m args meth c G own cc nL n0) {w0 L L2 : EW} {o idx : Nat} {n : Int32} {N : Nat} (hd : decode cc pc = .ok (.anewarray idx, 3)) (hw : Cond.classLink own idx RX3 ∈ wc_B) (hn : ¬ n < 0) (hN : n.toNatClampNeg = N) (hb : N ≤ 100000) (ho : L.length = o) (hL : L ++ [cQ 3 N (fun _ => none)] = L2) (kk : WW p l e R s m args below meth c Q G nL n0 s0 rc rs (pc + 3) (ls) (eR (w0.length + o) :: st) (w0 ++ L2)) : WW p l e R s m args below meth c Q G nL n0 s0 (rc + 1) (rs + N) (pc) (ls) (eI n :: st) (w0 ++ L) := by
  refine ww_newq3 K hd hw hn hN hb ?_
  rw [List.length_append, ho, List.append_assoc, hL]
  exact kk
theorem ww_aast3A (K : wc_C p s m args meth c G own cc nL n0) {w0 L L2 : EW} {o v n : Nat} {f : Nat → Option Nat} {i : Int32} {vs : List EV} (hd : decode cc pc = .ok (.aastore, 1)) (hk : L[o]? = some (cQ 3 n f)) (hv : L[v]? = some (cO 3 vs)) (hin : vp_in i n) (hL : L.set o (cQ 3 n (va_up f i.toNatClampNeg (some (w0.length + v)))) = L2) (kk : WW p l e R s m args below meth c Q G nL n0 s0 rc rs (pc + 1) (ls) (st) (w0 ++ L2)) : WW p l e R s m args below meth c Q G nL n0 s0 rc rs (pc) (ls) (eR (w0.length + v) :: eI i :: eR (w0.length + o) :: st) (w0 ++ L) := ww_aast3 K hd (wc_aget hk) (wc_aget hv) hin (by rw [wc_aset, hL]; exact kk)
theorem ww_alenq3A (K : wc_C p s m args meth c G own cc nL n0) {w0 L : EW} {o n : Nat} {f : Nat → Option Nat} (hd : decode cc pc = .ok (.arraylength, 1)) (hk : L[o]? = some (cQ 3 n f)) (kk : WW p l e R s m args below meth c Q G nL n0 s0 rc rs (pc + 1) (ls) (eI (Int32.ofNat n) :: st) (w0 ++ L)) : WW p l e R s m args below meth c Q G nL n0 s0 rc rs (pc) (ls) (eR (w0.length + o) :: st) (w0 ++ L) := ww_alenq K hd (wc_aget hk) (by decide) kk
theorem ww_newq4A (K : wc_C p s m args meth c G own cc nL n0) {w0 L L2 : EW} {o idx : Nat} {n : Int32} {N : Nat} (hd : decode cc pc = .ok (.anewarray idx, 3)) (hw : Cond.classLink own idx RX5 ∈ wc_B) (hn : ¬ n < 0) (hN : n.toNatClampNeg = N) (hb : N ≤ 100000) (ho : L.length = o) (hL : L ++ [cQ 4 N (fun _ => none)] = L2) (kk : WW p l e R s m args below meth c Q G nL n0 s0 rc rs (pc + 3) (ls) (eR (w0.length + o) :: st) (w0 ++ L2)) : WW p l e R s m args below meth c Q G nL n0 s0 (rc + 1) (rs + N) (pc) (ls) (eI n :: st) (w0 ++ L) := by
  refine ww_newq4 K hd hw hn hN hb ?_
  rw [List.length_append, ho, List.append_assoc, hL]
  exact kk
theorem ww_aast4A (K : wc_C p s m args meth c G own cc nL n0) {w0 L L2 : EW} {o v n : Nat} {f : Nat → Option Nat} {i : Int32} {vs : List EV} (hd : decode cc pc = .ok (.aastore, 1)) (hk : L[o]? = some (cQ 4 n f)) (hv : L[v]? = some (cO 5 vs)) (hin : vp_in i n) (hL : L.set o (cQ 4 n (va_up f i.toNatClampNeg (some (w0.length + v)))) = L2) (kk : WW p l e R s m args below meth c Q G nL n0 s0 rc rs (pc + 1) (ls) (st) (w0 ++ L2)) : WW p l e R s m args below meth c Q G nL n0 s0 rc rs (pc) (ls) (eR (w0.length + v) :: eI i :: eR (w0.length + o) :: st) (w0 ++ L) := ww_aast4 K hd (wc_aget hk) (wc_aget hv) hin (by rw [wc_aset, hL]; exact kk)
theorem ww_alenq4A (K : wc_C p s m args meth c G own cc nL n0) {w0 L : EW} {o n : Nat} {f : Nat → Option Nat} (hd : decode cc pc = .ok (.arraylength, 1)) (hk : L[o]? = some (cQ 4 n f)) (kk : WW p l e R s m args below meth c Q G nL n0 s0 rc rs (pc + 1) (ls) (eI (Int32.ofNat n) :: st) (w0 ++ L)) : WW p l e R s m args below meth c Q G nL n0 s0 rc rs (pc) (ls) (eR (w0.length + o) :: st) (w0 ++ L) := ww_alenq K hd (wc_aget hk) (by decide) kk
end WF
end
section
theorem lc_L_9 : wk_I RL 9 yX6_init cX6_init 1 0 := ⟨wc_Bl [(1, 19), (1, 20), (1, 1), (1, 21)] (by decide +kernel) (by decide +kernel), rfl, by decide +kernel, by decide +kernel, by decide +kernel⟩
theorem lc_L_12 : wk_I RL 12 yX7_init cX7_init 1 0 := ⟨wc_Bl [(5, 12), (5, 13), (1, 8), (5, 14)] (by decide +kernel) (by decide +kernel), rfl, by decide +kernel, by decide +kernel, by decide +kernel⟩
theorem lc_L_13 : wk_V RL 13 yX6_feed cX6_feed 6 (some .int) 5 := ⟨wc_Bl [(2, 60), (2, 61), (2, 62), (1, 1), (2, 63)] (by decide +kernel) (by decide +kernel), by decide +kernel, by decide +kernel, by decide +kernel⟩
theorem lc_L_17 : wk_V RL 17 yX7_feed cX7_feed 8 (some .int) 5 := ⟨wc_Bl [(5, 123), (5, 124), (5, 125), (1, 8), (5, 126)] (by decide +kernel) (by decide +kernel), by decide +kernel, by decide +kernel, by decide +kernel⟩
theorem lc_L_18 : wk_V RL 18 yX6_end cX6_end 2 (some .int) 1 := ⟨wc_Bl [(2, 71), (2, 72), (2, 73), (1, 1), (2, 74)] (by decide +kernel) (by decide +kernel), by decide +kernel, by decide +kernel, by decide +kernel⟩
theorem lc_L_22 : wk_V RL 22 yX7_end cX7_end 2 (some .int) 1 := ⟨wc_Bl [(5, 127), (5, 128), (5, 129), (1, 8), (5, 130)] (by decide +kernel) (by decide +kernel), by decide +kernel, by decide +kernel, by decide +kernel⟩
theorem lc_L_23 : wk_V RL 23 yX6_text cX6_text 5 (some .int) 2 := ⟨wc_Bl [(2, 75), (2, 76), (2, 77), (1, 1), (2, 78)] (by decide +kernel) (by decide +kernel), by decide +kernel, by decide +kernel, by decide +kernel⟩
theorem lc_L_27 : wk_V RL 27 yX7_text cX7_text 5 (some .int) 2 := ⟨wc_Bl [(5, 131), (5, 132), (5, 133), (1, 8), (5, 134)] (by decide +kernel) (by decide +kernel), by decide +kernel, by decide +kernel, by decide +kernel⟩
theorem lc_L_28 : wk_V RL 28 yX6_fault cX6_fault 2 (some .int) 1 := ⟨wc_Bl [(3, 80), (3, 81), (3, 82), (1, 1), (3, 83)] (by decide +kernel) (by decide +kernel), by decide +kernel, by decide +kernel, by decide +kernel⟩
theorem lc_L_31 : wk_V RL 31 yX7_fault cX7_fault 2 (some .int) 1 := ⟨wc_Bl [(6, 20), (6, 21), (6, 22), (1, 8), (6, 23)] (by decide +kernel) (by decide +kernel), by decide +kernel, by decide +kernel, by decide +kernel⟩
theorem lc_L_32 : wk_V RL 32 yX6_republic cX6_republic 4 (some .int) 2 := ⟨wc_Bl [(3, 103), (3, 104), (3, 105), (1, 1), (3, 106)] (by decide +kernel) (by decide +kernel), by decide +kernel, by decide +kernel, by decide +kernel⟩
theorem lc_L_35 : wk_V RL 35 yX7_republic cX7_republic 3 (some .int) 2 := ⟨wc_Bl [(6, 24), (6, 25), (6, 26), (1, 8), (6, 27)] (by decide +kernel) (by decide +kernel), by decide +kernel, by decide +kernel, by decide +kernel⟩
theorem lc_L_36 : wk_V RL 36 yX6_minister cX6_minister 5 (some .int) 3 := ⟨wc_Bl [(3, 111), (3, 112), (3, 113), (1, 1), (3, 114)] (by decide +kernel) (by decide +kernel), by decide +kernel, by decide +kernel, by decide +kernel⟩
theorem lc_L_40 : wk_V RL 40 yX7_minister cX7_minister 4 (some .int) 3 := ⟨wc_Bl [(6, 44), (6, 45), (6, 46), (1, 8), (6, 47)] (by decide +kernel) (by decide +kernel), by decide +kernel, by decide +kernel, by decide +kernel⟩
theorem lc_L_41 : wk_V RL 41 yX6_off cX6_off 9 (some .int) 6 := ⟨wc_Bl [(3, 153), (3, 154), (3, 155), (1, 1), (3, 156)] (by decide +kernel) (by decide +kernel), by decide +kernel, by decide +kernel, by decide +kernel⟩
theorem lc_L_45 : wk_V RL 45 yX7_off cX7_off 7 (some .int) 6 := ⟨wc_Bl [(6, 56), (6, 57), (6, 58), (1, 8), (6, 59)] (by decide +kernel) (by decide +kernel), by decide +kernel, by decide +kernel, by decide +kernel⟩
theorem lc_L_46 : wk_V RL 46 yX6_vote cX6_vote 11 (some .int) 7 := ⟨wc_Bl [(3, 183), (3, 184), (3, 185), (1, 1), (3, 186)] (by decide +kernel) (by decide +kernel), by decide +kernel, by decide +kernel, by decide +kernel⟩
theorem lc_L_50 : wk_V RL 50 yX7_vote cX7_vote 8 (some .int) 7 := ⟨wc_Bl [(6, 82), (6, 83), (6, 84), (1, 8), (6, 85)] (by decide +kernel) (by decide +kernel), by decide +kernel, by decide +kernel, by decide +kernel⟩
theorem lc_L_51 : wk_V RL 51 yX6_order cX6_order 4 (some .int) 3 := ⟨wc_Bl [(3, 126), (3, 127), (3, 128), (1, 1), (3, 129)] (by decide +kernel) (by decide +kernel), by decide +kernel, by decide +kernel, by decide +kernel⟩
theorem lc_L_54 : wk_V RL 54 yX7_order cX7_order 4 (some .int) 3 := ⟨wc_Bl [(6, 110), (6, 111), (6, 112), (1, 8), (6, 113)] (by decide +kernel) (by decide +kernel), by decide +kernel, by decide +kernel, by decide +kernel⟩
theorem lc_L_55 : wk_V RL 55 yX6_broken cX6_broken 9 (some .int) 6 := ⟨wc_Bl [(3, 209), (3, 210), (3, 211), (1, 1), (3, 212)] (by decide +kernel) (by decide +kernel), by decide +kernel, by decide +kernel, by decide +kernel⟩
theorem lc_L_58 : wk_V RL 58 yX7_broken cX7_broken 7 (some .int) 6 := ⟨wc_Bl [(6, 122), (6, 123), (6, 124), (1, 8), (6, 125)] (by decide +kernel) (by decide +kernel), by decide +kernel, by decide +kernel, by decide +kernel⟩
theorem lc_L_59 : wk_V RL 59 yX6_deed cX6_deed 4 (some .int) 3 := ⟨wc_Bl [(3, 141), (3, 142), (3, 143), (1, 1), (3, 144)] (by decide +kernel) (by decide +kernel), by decide +kernel, by decide +kernel, by decide +kernel⟩
theorem lc_L_62 : wk_V RL 62 yX7_deed cX7_deed 4 (some .int) 3 := ⟨wc_Bl [(6, 141), (6, 142), (6, 143), (1, 8), (6, 144)] (by decide +kernel) (by decide +kernel), by decide +kernel, by decide +kernel, by decide +kernel⟩
theorem lc_L_63 : wk_V RL 63 yX6_stop cX6_stop 7 (some .int) 3 := ⟨wc_Bl [(3, 220), (3, 221), (3, 222), (1, 1), (3, 223)] (by decide +kernel) (by decide +kernel), by decide +kernel, by decide +kernel, by decide +kernel⟩
theorem lc_L_66 : wk_V RL 66 yX7_stop cX7_stop 4 (some .int) 3 := ⟨wc_Bl [(6, 153), (6, 154), (6, 155), (1, 8), (6, 156)] (by decide +kernel) (by decide +kernel), by decide +kernel, by decide +kernel, by decide +kernel⟩
theorem lc_L_67 : wk_V RL 67 yX6_state cX6_state 9 (some .int) 5 := ⟨wc_Bl [(4, 59), (4, 60), (4, 61), (1, 1), (4, 62)] (by decide +kernel) (by decide +kernel), by decide +kernel, by decide +kernel, by decide +kernel⟩
theorem lc_L_70 : wk_V RL 70 yX7_state cX7_state 6 (some .int) 5 := ⟨wc_Bl [(6, 197), (6, 198), (6, 199), (1, 8), (6, 200)] (by decide +kernel) (by decide +kernel), by decide +kernel, by decide +kernel, by decide +kernel⟩
theorem lc_L_71 : wk_V RL 71 yX6_agreed cX6_agreed 8 (some .int) 5 := ⟨wc_Bl [(4, 95), (4, 96), (4, 97), (1, 1), (4, 98)] (by decide +kernel) (by decide +kernel), by decide +kernel, by decide +kernel, by decide +kernel⟩
theorem lc_L_74 : wk_V RL 74 yX7_agreed cX7_agreed 9 (some .int) 5 := ⟨wc_Bl [(6, 201), (6, 202), (6, 203), (1, 8), (6, 204)] (by decide +kernel) (by decide +kernel), by decide +kernel, by decide +kernel, by decide +kernel⟩
theorem lc_L_75 : wk_V RL 75 yX6_power cX6_power 5 (some .int) 3 := ⟨wc_Bl [(4, 116), (4, 117), (4, 118), (1, 1), (4, 119)] (by decide +kernel) (by decide +kernel), by decide +kernel, by decide +kernel, by decide +kernel⟩
theorem lc_L_79 : wk_V RL 79 yX7_power cX7_power 7 (some .int) 3 := ⟨wc_Bl [(6, 212), (6, 213), (6, 214), (1, 8), (6, 215)] (by decide +kernel) (by decide +kernel), by decide +kernel, by decide +kernel, by decide +kernel⟩
theorem lc_L_80 : wk_V RL 80 yX6_coalition cX6_coalition 4 (some .int) 2 := ⟨wc_Bl [(4, 132), (4, 133), (4, 134), (1, 1), (4, 135)] (by decide +kernel) (by decide +kernel), by decide +kernel, by decide +kernel, by decide +kernel⟩
theorem lc_L_83 : wk_V RL 83 yX7_coalition cX7_coalition 5 (some .int) 2 := ⟨wc_Bl [(6, 236), (6, 237), (6, 238), (1, 8), (6, 239)] (by decide +kernel) (by decide +kernel), by decide +kernel, by decide +kernel, by decide +kernel⟩
theorem lc_L_84 : wk_V RL 84 yX6_bribe cX6_bribe 15 (some .int) 7 := ⟨wc_Bl [(4, 145), (4, 146), (4, 147), (1, 1), (4, 148)] (by decide +kernel) (by decide +kernel), by decide +kernel, by decide +kernel, by decide +kernel⟩
theorem lc_L_87 : wk_V RL 87 yX7_bribe cX7_bribe 13 (some .int) 7 := ⟨wc_Bl [(7, 8), (7, 9), (7, 10), (1, 8), (7, 11)] (by decide +kernel) (by decide +kernel), by decide +kernel, by decide +kernel, by decide +kernel⟩
theorem lc_L_88 : wk_V RL 88 yX6_lobby cX6_lobby 14 (some .int) 7 := ⟨wc_Bl [(4, 153), (4, 154), (4, 155), (1, 1), (4, 156)] (by decide +kernel) (by decide +kernel), by decide +kernel, by decide +kernel, by decide +kernel⟩
theorem lc_L_92 : wk_V RL 92 yX7_lobby cX7_lobby 11 (some .int) 7 := ⟨wc_Bl [(7, 16), (7, 17), (7, 18), (1, 8), (7, 19)] (by decide +kernel) (by decide +kernel), by decide +kernel, by decide +kernel, by decide +kernel⟩
theorem lc_L_93 : wk_V RL 93 yX6_bargain cX6_bargain 6 (some .int) 3 := ⟨wc_Bl [(4, 166), (4, 167), (4, 168), (1, 1), (4, 169)] (by decide +kernel) (by decide +kernel), by decide +kernel, by decide +kernel, by decide +kernel⟩
theorem lc_L_96 : wk_V RL 96 yX7_bargain cX7_bargain 10 (some .int) 3 := ⟨wc_Bl [(7, 32), (7, 33), (7, 34), (1, 8), (7, 35)] (by decide +kernel) (by decide +kernel), by decide +kernel, by decide +kernel, by decide +kernel⟩
theorem lc_L_97 : wk_V RL 97 yX6_was cX6_was 4 (some .int) 3 := ⟨wc_Bl [(3, 149), (3, 150), (3, 151), (1, 1), (3, 152)] (by decide +kernel) (by decide +kernel), by decide +kernel, by decide +kernel, by decide +kernel⟩
theorem lc_L_100 : wk_V RL 100 yX7_was cX7_was 4 (some .int) 3 := ⟨wc_Bl [(7, 36), (7, 37), (7, 38), (1, 8), (7, 39)] (by decide +kernel) (by decide +kernel), by decide +kernel, by decide +kernel, by decide +kernel⟩
theorem lc_L_101 : wk_V RL 101 yX6_nature cX6_nature 8 (some .int) 3 := ⟨wc_Bl [(4, 176), (4, 177), (4, 178), (1, 1), (4, 179)] (by decide +kernel) (by decide +kernel), by decide +kernel, by decide +kernel, by decide +kernel⟩
theorem lc_L_104 : wk_V RL 104 yX7_nature cX7_nature 5 (some .int) 3 := ⟨wc_Bl [(7, 52), (7, 53), (7, 54), (1, 8), (7, 55)] (by decide +kernel) (by decide +kernel), by decide +kernel, by decide +kernel, by decide +kernel⟩
theorem lc_L_105 : wk_V RL 105 yX6_seats cX6_seats 7 (some .int) 3 := ⟨wc_Bl [(4, 190), (4, 191), (4, 192), (1, 1), (4, 193)] (by decide +kernel) (by decide +kernel), by decide +kernel, by decide +kernel, by decide +kernel⟩
theorem lc_L_108 : wk_V RL 108 yX7_seats cX7_seats 6 (some .int) 3 := ⟨wc_Bl [(7, 80), (7, 81), (7, 82), (1, 8), (7, 83)] (by decide +kernel) (by decide +kernel), by decide +kernel, by decide +kernel, by decide +kernel⟩
theorem lc_L_109 : wk_V RL 109 yX6_reshuffle cX6_reshuffle 8 (some .int) 2 := ⟨wc_Bl [(4, 221), (4, 222), (4, 223), (1, 1), (4, 224)] (by decide +kernel) (by decide +kernel), by decide +kernel, by decide +kernel, by decide +kernel⟩
theorem lc_L_113 : wk_V RL 113 yX7_reshuffle cX7_reshuffle 7 (some .int) 2 := ⟨wc_Bl [(7, 100), (7, 101), (7, 102), (1, 8), (7, 103)] (by decide +kernel) (by decide +kernel), by decide +kernel, by decide +kernel, by decide +kernel⟩
theorem lc_L_114 : wk_V RL 114 yX6_leak cX6_leak 4 (some .int) 3 := ⟨wc_Bl [(3, 145), (3, 146), (3, 147), (1, 1), (3, 148)] (by decide +kernel) (by decide +kernel), by decide +kernel, by decide +kernel, by decide +kernel⟩
theorem lc_L_117 : wk_V RL 117 yX7_leak cX7_leak 4 (some .int) 3 := ⟨wc_Bl [(7, 108), (7, 109), (7, 110), (1, 8), (7, 111)] (by decide +kernel) (by decide +kernel), by decide +kernel, by decide +kernel, by decide +kernel⟩
theorem lc_L_118 : wk_V RL 118 yX6_fits cX6_fits 8 (some .int) 5 := ⟨wc_Bl [(4, 228), (4, 229), (4, 230), (1, 1), (4, 231)] (by decide +kernel) (by decide +kernel), by decide +kernel, by decide +kernel, by decide +kernel⟩
theorem lc_L_121 : wk_V RL 121 yX7_fits cX7_fits 9 (some .int) 5 := ⟨wc_Bl [(7, 116), (7, 117), (7, 118), (1, 8), (7, 119)] (by decide +kernel) (by decide +kernel), by decide +kernel, by decide +kernel, by decide +kernel⟩
theorem lc_L_122 : wk_V RL 122 yX6_drawn cX6_drawn 6 (some .int) 4 := ⟨wc_Bl [(4, 68), (4, 69), (4, 70), (1, 1), (4, 71)] (by decide +kernel) (by decide +kernel), by decide +kernel, by decide +kernel, by decide +kernel⟩
theorem lc_L_126 : wk_V RL 126 yX7_drawn cX7_drawn 12 (some .int) 4 := ⟨wc_Bl [(7, 136), (7, 137), (7, 138), (1, 8), (7, 139)] (by decide +kernel) (by decide +kernel), by decide +kernel, by decide +kernel, by decide +kernel⟩
theorem lc_L_127 : wk_V RL 127 yX6_count cX6_count 2 (some .int) 1 := ⟨wc_Bl [(3, 84), (3, 85), (3, 86), (1, 1), (3, 87)] (by decide +kernel) (by decide +kernel), by decide +kernel, by decide +kernel, by decide +kernel⟩
theorem lc_L_130 : wk_V RL 130 yX7_count cX7_count 2 (some .int) 1 := ⟨wc_Bl [(7, 149), (7, 150), (7, 151), (1, 8), (7, 152)] (by decide +kernel) (by decide +kernel), by decide +kernel, by decide +kernel, by decide +kernel⟩
theorem lc_L_131 : wk_V RL 131 yX6_image cX6_image 3 (some .boolean) 1 := ⟨wc_Bl [(3, 88), (3, 89), (3, 90), (1, 1), (3, 91)] (by decide +kernel) (by decide +kernel), by decide +kernel, by decide +kernel, by decide +kernel⟩
theorem lc_L_135 : wk_V RL 135 yX7_image cX7_image 3 (some .boolean) 1 := ⟨wc_Bl [(7, 153), (7, 154), (7, 155), (1, 8), (7, 156)] (by decide +kernel) (by decide +kernel), by decide +kernel, by decide +kernel, by decide +kernel⟩
theorem lc_L_136 : wk_V RL 136 yX6_again cX6_again 2 (some .boolean) 1 := ⟨wc_Bl [(3, 99), (3, 100), (3, 101), (1, 1), (3, 102)] (by decide +kernel) (by decide +kernel), by decide +kernel, by decide +kernel, by decide +kernel⟩
theorem lc_L_139 : wk_V RL 139 yX7_again cX7_again 3 (some .boolean) 1 := ⟨wc_Bl [(7, 157), (7, 158), (7, 159), (1, 8), (7, 160)] (by decide +kernel) (by decide +kernel), by decide +kernel, by decide +kernel, by decide +kernel⟩
theorem ln_L_7 : wk_N RL 7 6 [eN, eN, eN, eN, eN, eN, eN, eN] := ⟨RX6, TX6, 8, tyX6, rfl, wc_Bm (1, 17) (by decide +kernel) rfl, wc_Bm (1, 18) (by decide +kernel) rfl, wc_Bm (1, 1) (by decide +kernel) rfl, wuX6, tyX6_ok, rfl, fun G j hj => by rcases (by omega : j = 0 ∨ j = 1 ∨ j = 2 ∨ j = 3 ∨ j = 4 ∨ j = 5 ∨ j = 6 ∨ j = 7) with rfl | rfl | rfl | rfl | rfl | rfl | rfl | rfl <;> rfl⟩
theorem ln_L_10 : wk_N RL 10 7 [eN, eN, eI 0, eI 0, eI 0, eI 0, eI 0, eI 0, eI 0, eI 0, eN, eI 0, eI 0, eI 0, eI 0, eI 0, eI 0, eI 0, eI 0, eI 0, eI 0, eI 0, eI 0, eI 0, eI 0, eI 0, eI 0, eN, eN, eI 0, eI 0, eN, eN, eI 0, eI 0] := ⟨RX7, TX7, 35, tyX7, rfl, wc_Bm (5, 10) (by decide +kernel) rfl, wc_Bm (5, 11) (by decide +kernel) rfl, wc_Bm (1, 8) (by decide +kernel) rfl, wuX7, tyX7_ok, rfl, fun G j hj => by rcases (by omega : j = 0 ∨ j = 1 ∨ j = 2 ∨ j = 3 ∨ j = 4 ∨ j = 5 ∨ j = 6 ∨ j = 7 ∨ j = 8 ∨ j = 9 ∨ j = 10 ∨ j = 11 ∨ j = 12 ∨ j = 13 ∨ j = 14 ∨ j = 15 ∨ j = 16 ∨ j = 17 ∨ j = 18 ∨ j = 19 ∨ j = 20 ∨ j = 21 ∨ j = 22 ∨ j = 23 ∨ j = 24 ∨ j = 25 ∨ j = 26 ∨ j = 27 ∨ j = 28 ∨ j = 29 ∨ j = 30 ∨ j = 31 ∨ j = 32 ∨ j = 33 ∨ j = 34) with rfl | rfl | rfl | rfl | rfl | rfl | rfl | rfl | rfl | rfl | rfl | rfl | rfl | rfl | rfl | rfl | rfl | rfl | rfl | rfl | rfl | rfl | rfl | rfl | rfl | rfl | rfl | rfl | rfl | rfl | rfl | rfl | rfl | rfl | rfl <;> rfl⟩
theorem lf_X0_12 : wc_fld RX0 12 0 0 := ⟨RX0, TX0, 13, rfl, by decide, wc_Bm (1, 222) (by decide +kernel) rfl, wuX0⟩
theorem lf_X0_18 : wc_fld RX0 18 0 4 := ⟨RX0, TX0, 13, rfl, by decide, wc_Bm (1, 230) (by decide +kernel) rfl, wuX0⟩
theorem lf_X0_22 : wc_fld RX0 22 0 5 := ⟨RX0, TX0, 13, rfl, by decide, wc_Bm (1, 232) (by decide +kernel) rfl, wuX0⟩
theorem lf_X0_29 : wc_fld RX0 29 0 1 := ⟨RX0, TX0, 13, rfl, by decide, wc_Bm (1, 224) (by decide +kernel) rfl, wuX0⟩
theorem lf_X0_39 : wc_fld RX0 39 0 2 := ⟨RX0, TX0, 13, rfl, by decide, wc_Bm (1, 226) (by decide +kernel) rfl, wuX0⟩
theorem lf_X0_42 : wc_fld RX0 42 0 3 := ⟨RX0, TX0, 13, rfl, by decide, wc_Bm (1, 228) (by decide +kernel) rfl, wuX0⟩
theorem lf_X0_51 : wc_fld RX0 51 2 7 := ⟨RX2, TX2, 14, rfl, by decide, wc_Bm (1, 57) (by decide +kernel) rfl, wuX2⟩
theorem lf_X0_56 : wc_fld RX0 56 0 6 := ⟨RX0, TX0, 13, rfl, by decide, wc_Bm (1, 234) (by decide +kernel) rfl, wuX0⟩
theorem lf_X0_59 : wc_fld RX0 59 0 7 := ⟨RX0, TX0, 13, rfl, by decide, wc_Bm (1, 236) (by decide +kernel) rfl, wuX0⟩
theorem lf_X0_62 : wc_fld RX0 62 0 8 := ⟨RX0, TX0, 13, rfl, by decide, wc_Bm (1, 238) (by decide +kernel) rfl, wuX0⟩
theorem lf_X0_65 : wc_fld RX0 65 0 9 := ⟨RX0, TX0, 13, rfl, by decide, wc_Bm (2, 0) (by decide +kernel) rfl, wuX0⟩
theorem lf_X0_68 : wc_fld RX0 68 0 10 := ⟨RX0, TX0, 13, rfl, by decide, wc_Bm (2, 2) (by decide +kernel) rfl, wuX0⟩
theorem lf_X0_71 : wc_fld RX0 71 0 11 := ⟨RX0, TX0, 13, rfl, by decide, wc_Bm (2, 4) (by decide +kernel) rfl, wuX0⟩
theorem lf_X0_137 : wc_fld RX0 137 2 0 := ⟨RX2, TX2, 14, rfl, by decide, wc_Bm (1, 42) (by decide +kernel) rfl, wuX2⟩
theorem lf_X0_148 : wc_fld RX0 148 2 3 := ⟨RX2, TX2, 14, rfl, by decide, wc_Bm (1, 49) (by decide +kernel) rfl, wuX2⟩
theorem lf_X0_151 : wc_fld RX0 151 4 0 := ⟨RX4, TX4, 3, rfl, by decide, wc_Bm (1, 209) (by decide +kernel) rfl, wuX4⟩
theorem lf_X0_171 : wc_fld RX0 171 0 12 := ⟨RX0, TX0, 13, rfl, by decide, wc_Bm (2, 5) (by decide +kernel) rfl, wuX0⟩
theorem lo_X0_3 : ∀ w ∈ [Cond.methodLink RX0 3 objectInit, .instanceMethod objectInit, .code objectInit ⟨#[0xb1]⟩ 1 none], w ∈ wc_B := wc_Bl [(1, 201), (1, 23), (1, 24)] (by decide +kernel) (by decide +kernel)
theorem lc_X0_11 : wk_IN RX0 11 yX4_init "WindCabinet" cX4_init 1 0 := ⟨wc_Bl [(1, 205), (1, 7), (1, 206)] (by decide +kernel) (by decide +kernel), by decide +kernel, rfl, by decide +kernel, by decide +kernel, by decide +kernel⟩
theorem lc_X0_45 : wk_S RX0 45 yJ7_fill_53178 cJ7_fill_53178 4 none 2 := ⟨wc_Bl [(3, 237), (2, 108), (1, 11), (2, 109)] (by decide +kernel) (by decide +kernel), by decide +kernel, by decide +kernel, by decide +kernel⟩
theorem lc_X0_52 : wk_SN RX0 52 yX6_copy "WindCabinet" cX6_copy 2 none 2 := ⟨wc_Bl [(2, 91), (1, 1), (2, 92)] (by decide +kernel) (by decide +kernel), by decide +kernel, by decide +kernel, by decide +kernel, by decide +kernel⟩
theorem lc_X0_90 : wk_SN RX0 90 yX6_has "WindCabinet" cX6_has 2 (some .boolean) 2 := ⟨wc_Bl [(3, 120), (1, 1), (3, 121)] (by decide +kernel) (by decide +kernel), by decide +kernel, by decide +kernel, by decide +kernel, by decide +kernel⟩
theorem lc_X0_98 : wk_SN RX0 98 yX6_firstBroken "WindCabinet" cX6_firstBroken 5 (some .int) 4 := ⟨wc_Bl [(3, 214), (1, 1), (3, 215)] (by decide +kernel) (by decide +kernel), by decide +kernel, by decide +kernel, by decide +kernel, by decide +kernel⟩
theorem lc_X0_119 : wk_SN RX0 119 yX6_put "WindCabinet" cX6_put 3 none 3 := ⟨wc_Bl [(2, 69), (1, 1), (2, 70)] (by decide +kernel) (by decide +kernel), by decide +kernel, by decide +kernel, by decide +kernel, by decide +kernel⟩
theorem lc_X0_144 : wk_SN RX0 144 yX6_cell "WindCabinet" cX6_cell 2 (some .int) 2 := ⟨wc_Bl [(2, 84), (1, 1), (2, 85)] (by decide +kernel) (by decide +kernel), by decide +kernel, by decide +kernel, by decide +kernel, by decide +kernel⟩
theorem lm_X0_154 : ∀ w ∈ [Cond.methodLink RX0 154 Lib.Math.min.name, .static Lib.Math.min.name, .initialized "java/lang/Math", .code Lib.Math.min.name Lib.Math.min.code 2 (some .int)], w ∈ wc_B := wc_Bl [(4, 44), (2, 94), (1, 9), (2, 95)] (by decide +kernel) (by decide +kernel)
theorem lc_X0_159 : wk_SN RX0 159 yX6_numberOf "WindCabinet" cX6_numberOf 3 (some .int) 3 := ⟨wc_Bl [(3, 164), (1, 1), (3, 165)] (by decide +kernel) (by decide +kernel), by decide +kernel, by decide +kernel, by decide +kernel, by decide +kernel⟩
theorem lc_X0_165 : wk_SN RX0 165 yX6_amount "WindCabinet" cX6_amount 2 (some .int) 2 := ⟨wc_Bl [(3, 178), (1, 1), (3, 179)] (by decide +kernel) (by decide +kernel), by decide +kernel, by decide +kernel, by decide +kernel, by decide +kernel⟩
theorem lm_X0_168 : ∀ w ∈ [Cond.methodLink RX0 168 Lib.Math.max.name, .static Lib.Math.max.name, .initialized "java/lang/Math", .code Lib.Math.max.name Lib.Math.max.code 2 (some .int)], w ∈ wc_B := wc_Bl [(4, 33), (3, 77), (1, 9), (3, 78)] (by decide +kernel) (by decide +kernel)
theorem lc_X0_177 : wk_S RX0 177 yJ6_bitCount_0f7a4 cJ6_bitCount_0f7a4 1 (some .int) 1 := ⟨wc_Bl [(4, 80), (4, 81), (1, 16), (4, 82)] (by decide +kernel) (by decide +kernel), by decide +kernel, by decide +kernel, by decide +kernel⟩
theorem lc_X0_25 : wk_V RX0 25 yX4_settle cX4_settle 2 none 1 := ⟨wc_Bl [(3, 232), (3, 233), (3, 234), (1, 7), (3, 235)] (by decide +kernel) (by decide +kernel), by decide +kernel, by decide +kernel, by decide +kernel⟩
theorem lc_X0_33 : wk_V RX0 33 yX2_everybody cX2_everybody 1 (some .int) 0 := ⟨wc_Bl [(3, 236), (3, 198), (3, 199), (1, 3), (3, 200)] (by decide +kernel) (by decide +kernel), by decide +kernel, by decide +kernel, by decide +kernel⟩
theorem lc_X0_74 : wk_V RX0 74 yX0_open cX0_open 2 none 1 := ⟨wc_Bl [(3, 228), (3, 230), (12, 6), (1, 6), (3, 231)] (by decide +kernel) (by decide +kernel), by decide +kernel, by decide +kernel, by decide +kernel⟩
theorem lc_X0_77 : wk_V RX0 77 yX0_happens cX0_happens 7 (some .boolean) 4 := ⟨wc_Bl [(3, 239), (4, 1), (12, 7), (1, 6), (4, 2)] (by decide +kernel) (by decide +kernel), by decide +kernel, by decide +kernel, by decide +kernel⟩
theorem lc_X0_81 : wk_V RX0 81 yX3_part cX3_part 3 (some .int) 2 := ⟨wc_Bl [(4, 3), (3, 138), (3, 139), (1, 4), (3, 140)] (by decide +kernel) (by decide +kernel), by decide +kernel, by decide +kernel, by decide +kernel⟩
theorem lc_X0_87 : wk_V RX0 87 yX3_dayFrom cX3_dayFrom 3 (some .int) 2 := ⟨wc_Bl [(4, 4), (4, 5), (4, 6), (1, 4), (4, 7)] (by decide +kernel) (by decide +kernel), by decide +kernel, by decide +kernel, by decide +kernel⟩
theorem lc_X0_94 : wk_V RX0 94 yX4_can cX4_can 3 (some .boolean) 1 := ⟨wc_Bl [(4, 11), (4, 12), (4, 13), (1, 7), (4, 14)] (by decide +kernel) (by decide +kernel), by decide +kernel, by decide +kernel, by decide +kernel⟩
theorem lc_X0_102 : wk_V RX0 102 yX0_decide cX0_decide 6 none 3 := ⟨wc_Bl [(4, 17), (4, 19), (12, 8), (1, 6), (4, 20)] (by decide +kernel) (by decide +kernel), by decide +kernel, by decide +kernel, by decide +kernel⟩
theorem lc_X0_106 : wk_V RX0 106 yX0_takesOffice cX0_takesOffice 4 (some .boolean) 2 := ⟨wc_Bl [(4, 46), (4, 48), (12, 12), (1, 6), (4, 49)] (by decide +kernel) (by decide +kernel), by decide +kernel, by decide +kernel, by decide +kernel⟩
theorem lc_X0_109 : wk_V RX0 109 yX0_isDismissed cX0_isDismissed 3 (some .boolean) 1 := ⟨wc_Bl [(4, 50), (4, 52), (12, 13), (1, 6), (4, 53)] (by decide +kernel) (by decide +kernel), by decide +kernel, by decide +kernel, by decide +kernel⟩
theorem lc_X0_112 : wk_V RX0 112 yX0_isRecalled cX0_isRecalled 4 (some .boolean) 2 := ⟨wc_Bl [(4, 54), (4, 56), (12, 14), (1, 6), (4, 57)] (by decide +kernel) (by decide +kernel), by decide +kernel, by decide +kernel, by decide +kernel⟩
theorem lc_X0_116 : wk_V RX0 116 yX0_committee cX0_committee 1 none 0 := ⟨wc_Bl [(4, 40), (4, 42), (12, 11), (1, 6), (4, 43)] (by decide +kernel) (by decide +kernel), by decide +kernel, by decide +kernel, by decide +kernel⟩
theorem lc_X0_123 : wk_V RX0 123 yX2_isMinister cX2_isMinister 2 (some .boolean) 1 := ⟨wc_Bl [(4, 58), (3, 116), (3, 117), (1, 3), (3, 118)] (by decide +kernel) (by decide +kernel), by decide +kernel, by decide +kernel, by decide +kernel⟩
theorem lc_X0_126 : wk_V RX0 126 yX2_agreeing cX2_agreeing 6 (some .int) 3 := ⟨wc_Bl [(4, 21), (3, 188), (3, 189), (1, 3), (3, 190)] (by decide +kernel) (by decide +kernel), by decide +kernel, by decide +kernel, by decide +kernel⟩
theorem lc_X0_130 : wk_V RX0 130 yX2_isPassed cX2_isPassed 3 (some .boolean) 2 := ⟨wc_Bl [(4, 22), (3, 202), (3, 203), (1, 3), (3, 204)] (by decide +kernel) (by decide +kernel), by decide +kernel, by decide +kernel, by decide +kernel⟩
theorem lc_X0_133 : wk_V RX0 133 yX0_record cX0_record 2 none 1 := ⟨wc_Bl [(4, 23), (4, 25), (12, 9), (1, 6), (4, 26)] (by decide +kernel) (by decide +kernel), by decide +kernel, by decide +kernel, by decide +kernel⟩
theorem lc_X0_140 : wk_V RX0 140 yX0_bear cX0_bear 6 none 3 := ⟨wc_Bl [(4, 34), (4, 36), (12, 10), (1, 6), (4, 37)] (by decide +kernel) (by decide +kernel), by decide +kernel, by decide +kernel, by decide +kernel⟩
theorem lc_X0_162 : wk_V RX0 162 yX4_bring cX4_bring 4 none 1 := ⟨wc_Bl [(4, 27), (4, 28), (4, 29), (1, 7), (4, 30)] (by decide +kernel) (by decide +kernel), by decide +kernel, by decide +kernel, by decide +kernel⟩
theorem lc_X0_174 : wk_V RX0 174 yX0_drawMotion cX0_drawMotion 7 none 1 := ⟨wc_Bl [(4, 76), (4, 78), (13, 0), (1, 6), (4, 79)] (by decide +kernel) (by decide +kernel), by decide +kernel, by decide +kernel, by decide +kernel⟩
theorem lc_X0_183 : wk_V RX0 183 yX0_drawBelow cX0_drawBelow 2 (some .int) 1 := ⟨wc_Bl [(4, 86), (4, 88), (13, 1), (1, 6), (4, 89)] (by decide +kernel) (by decide +kernel), by decide +kernel, by decide +kernel, by decide +kernel⟩
theorem lc_X0_186 : wk_V RX0 186 yX0_oneThere cX0_oneThere 4 (some .int) 1 := ⟨wc_Bl [(4, 91), (4, 93), (13, 2), (1, 6), (4, 94)] (by decide +kernel) (by decide +kernel), by decide +kernel, by decide +kernel, by decide +kernel⟩
theorem lk_X0_189 : Cond.constant RX0 189 1103515245 ∈ wc_B := wc_Bm (4, 90) (by decide +kernel) rfl
theorem ln_X0_9 : wk_N RX0 9 4 [eI 0, eI 0, eI 0] := ⟨RX4, TX4, 3, tyX4, rfl, wc_Bm (1, 202) (by decide +kernel) rfl, wc_Bm (1, 203) (by decide +kernel) rfl, wc_Bm (1, 7) (by decide +kernel) rfl, wuX4, tyX4_ok, rfl, fun G j hj => by rcases (by omega : j = 0 ∨ j = 1 ∨ j = 2) with rfl | rfl | rfl <;> rfl⟩
theorem lp_X0_12 : wc_fpt RX0 12 0 0 true (.object "WindCabinet$Sky") := ⟨RX0, TX0, 13, tyX0, rfl, by decide, wc_Bm (1, 222) (by decide +kernel) rfl, wuX0, tyX0_ok, nmX0, rfl, by decide +kernel, rfl⟩
theorem lp_X0_18 : wc_fpt RX0 18 0 4 true (.array .int) := ⟨RX0, TX0, 13, tyX0, rfl, by decide, wc_Bm (1, 230) (by decide +kernel) rfl, wuX0, tyX0_ok, nmX0, rfl, by decide +kernel, rfl⟩
theorem lp_X0_22 : wc_fpt RX0 22 0 5 true (.array .int) := ⟨RX0, TX0, 13, tyX0, rfl, by decide, wc_Bm (1, 232) (by decide +kernel) rfl, wuX0, tyX0_ok, nmX0, rfl, by decide +kernel, rfl⟩
theorem lp_X0_29 : wc_fpt RX0 29 0 1 false .int := ⟨RX0, TX0, 13, tyX0, rfl, by decide, wc_Bm (1, 224) (by decide +kernel) rfl, wuX0, tyX0_ok, nmX0, rfl, by decide +kernel, rfl⟩
theorem lp_X0_39 : wc_fpt RX0 39 0 2 false .int := ⟨RX0, TX0, 13, tyX0, rfl, by decide, wc_Bm (1, 226) (by decide +kernel) rfl, wuX0, tyX0_ok, nmX0, rfl, by decide +kernel, rfl⟩
theorem lp_X0_42 : wc_fpt RX0 42 0 3 false .int := ⟨RX0, TX0, 13, tyX0, rfl, by decide, wc_Bm (1, 228) (by decide +kernel) rfl, wuX0, tyX0_ok, nmX0, rfl, by decide +kernel, rfl⟩
theorem lp_X0_56 : wc_fpt RX0 56 0 6 false .int := ⟨RX0, TX0, 13, tyX0, rfl, by decide, wc_Bm (1, 234) (by decide +kernel) rfl, wuX0, tyX0_ok, nmX0, rfl, by decide +kernel, rfl⟩
theorem lp_X0_59 : wc_fpt RX0 59 0 7 false .int := ⟨RX0, TX0, 13, tyX0, rfl, by decide, wc_Bm (1, 236) (by decide +kernel) rfl, wuX0, tyX0_ok, nmX0, rfl, by decide +kernel, rfl⟩
theorem lp_X0_62 : wc_fpt RX0 62 0 8 false .int := ⟨RX0, TX0, 13, tyX0, rfl, by decide, wc_Bm (1, 238) (by decide +kernel) rfl, wuX0, tyX0_ok, nmX0, rfl, by decide +kernel, rfl⟩
theorem lp_X0_65 : wc_fpt RX0 65 0 9 false .int := ⟨RX0, TX0, 13, tyX0, rfl, by decide, wc_Bm (2, 0) (by decide +kernel) rfl, wuX0, tyX0_ok, nmX0, rfl, by decide +kernel, rfl⟩
theorem lp_X0_68 : wc_fpt RX0 68 0 10 false .int := ⟨RX0, TX0, 13, tyX0, rfl, by decide, wc_Bm (2, 2) (by decide +kernel) rfl, wuX0, tyX0_ok, nmX0, rfl, by decide +kernel, rfl⟩
theorem lp_X0_71 : wc_fpt RX0 71 0 11 false .int := ⟨RX0, TX0, 13, tyX0, rfl, by decide, wc_Bm (2, 4) (by decide +kernel) rfl, wuX0, tyX0_ok, nmX0, rfl, by decide +kernel, rfl⟩
theorem lp_X0_171 : wc_fpt RX0 171 0 12 false .int := ⟨RX0, TX0, 13, tyX0, rfl, by decide, wc_Bm (2, 5) (by decide +kernel) rfl, wuX0, tyX0_ok, nmX0, rfl, by decide +kernel, rfl⟩
theorem lf_X1_12 : wc_fld RX1 12 1 0 := ⟨RX1, TX1, 12, rfl, by decide, wc_Bm (1, 155) (by decide +kernel) rfl, wuX1⟩
theorem lf_X1_21 : wc_fld RX1 21 1 1 := ⟨RX1, TX1, 12, rfl, by decide, wc_Bm (1, 157) (by decide +kernel) rfl, wuX1⟩
theorem lf_X1_25 : wc_fld RX1 25 1 4 := ⟨RX1, TX1, 12, rfl, by decide, wc_Bm (1, 163) (by decide +kernel) rfl, wuX1⟩
theorem lf_X1_29 : wc_fld RX1 29 1 5 := ⟨RX1, TX1, 12, rfl, by decide, wc_Bm (1, 164) (by decide +kernel) rfl, wuX1⟩
theorem lf_X1_40 : wc_fld RX1 40 1 7 := ⟨RX1, TX1, 12, rfl, by decide, wc_Bm (1, 166) (by decide +kernel) rfl, wuX1⟩
theorem lf_X1_48 : wc_fld RX1 48 1 11 := ⟨RX1, TX1, 12, rfl, by decide, wc_Bm (1, 170) (by decide +kernel) rfl, wuX1⟩
theorem lf_X1_51 : wc_fld RX1 51 2 0 := ⟨RX2, TX2, 14, rfl, by decide, wc_Bm (1, 41) (by decide +kernel) rfl, wuX2⟩
theorem lf_X1_54 : wc_fld RX1 54 1 6 := ⟨RX1, TX1, 12, rfl, by decide, wc_Bm (1, 165) (by decide +kernel) rfl, wuX1⟩
theorem lf_X1_65 : wc_fld RX1 65 1 2 := ⟨RX1, TX1, 12, rfl, by decide, wc_Bm (1, 159) (by decide +kernel) rfl, wuX1⟩
theorem lf_X1_71 : wc_fld RX1 71 1 9 := ⟨RX1, TX1, 12, rfl, by decide, wc_Bm (1, 168) (by decide +kernel) rfl, wuX1⟩
theorem lf_X1_74 : wc_fld RX1 74 1 10 := ⟨RX1, TX1, 12, rfl, by decide, wc_Bm (1, 169) (by decide +kernel) rfl, wuX1⟩
theorem lf_X1_80 : wc_fld RX1 80 1 8 := ⟨RX1, TX1, 12, rfl, by decide, wc_Bm (1, 167) (by decide +kernel) rfl, wuX1⟩
theorem lo_X1_3 : ∀ w ∈ [Cond.methodLink RX1 3 objectInit, .instanceMethod objectInit, .code objectInit ⟨#[0xb1]⟩ 1 none], w ∈ wc_B := wc_Bl [(1, 150), (1, 23), (1, 24)] (by decide +kernel) (by decide +kernel)
theorem lc_X1_11 : wk_IN RX1 11 yX2_init "WindCabinet" cX2_init 1 0 := ⟨wc_Bl [(1, 37), (1, 3), (1, 38)] (by decide +kernel) (by decide +kernel), by decide +kernel, rfl, by decide +kernel, by decide +kernel, by decide +kernel⟩
theorem lc_X1_20 : wk_IN RX1 20 yX3_init "WindCabinet" cX3_init 1 0 := ⟨wc_Bl [(1, 106), (1, 4), (1, 107)] (by decide +kernel) (by decide +kernel), by decide +kernel, rfl, by decide +kernel, by decide +kernel, by decide +kernel⟩
theorem lc_X1_32 : wk_SN RX1 32 yX6_copy "WindCabinet" cX6_copy 2 none 2 := ⟨wc_Bl [(2, 91), (1, 1), (2, 92)] (by decide +kernel) (by decide +kernel), by decide +kernel, by decide +kernel, by decide +kernel, by decide +kernel⟩
theorem lc_X1_109 : wk_S RX1 109 yX1_wordsOf cX1_wordsOf 1 (some (.object "java/lang/String")) 1 := ⟨wc_Bl [(2, 133), (2, 134), (1, 5), (2, 135)] (by decide +kernel) (by decide +kernel), by decide +kernel, by decide +kernel, by decide +kernel⟩
theorem lc_X1_124 : wk_S RX1 124 yJ7_fill_53178 cJ7_fill_53178 4 none 2 := ⟨wc_Bl [(2, 213), (2, 108), (1, 11), (2, 109)] (by decide +kernel) (by decide +kernel), by decide +kernel, by decide +kernel, by decide +kernel⟩
theorem lc_X1_130 : wk_S RX1 130 yX1_formsOf cX1_formsOf 1 (some (.object "java/lang/String")) 1 := ⟨wc_Bl [(2, 214), (2, 215), (1, 5), (2, 216)] (by decide +kernel) (by decide +kernel), by decide +kernel, by decide +kernel, by decide +kernel⟩
theorem lc_X1_133 : wk_S RX1 133 yX1_startOf cX1_startOf 4 (some .int) 2 := ⟨wc_Bl [(2, 223), (2, 224), (1, 5), (2, 225)] (by decide +kernel) (by decide +kernel), by decide +kernel, by decide +kernel, by decide +kernel⟩
theorem lc_X1_156 : wk_SN RX1 156 yX6_cell "WindCabinet" cX6_cell 2 (some .int) 2 := ⟨wc_Bl [(2, 84), (1, 1), (2, 85)] (by decide +kernel) (by decide +kernel), by decide +kernel, by decide +kernel, by decide +kernel, by decide +kernel⟩
theorem lc_X1_165 : wk_S RX1 165 yX1_choicesOf cX1_choicesOf 1 (some (.object "java/lang/String")) 1 := ⟨wc_Bl [(2, 235), (2, 236), (1, 5), (2, 237)] (by decide +kernel) (by decide +kernel), by decide +kernel, by decide +kernel, by decide +kernel⟩
theorem lc_X1_175 : wk_SN RX1 175 yX6_put "WindCabinet" cX6_put 3 none 3 := ⟨wc_Bl [(2, 69), (1, 1), (2, 70)] (by decide +kernel) (by decide +kernel), by decide +kernel, by decide +kernel, by decide +kernel, by decide +kernel⟩
theorem lc_X1_187 : wk_S RX1 187 yX1_leastOf cX1_leastOf 1 (some .int) 1 := ⟨wc_Bl [(3, 10), (3, 11), (1, 5), (3, 12)] (by decide +kernel) (by decide +kernel), by decide +kernel, by decide +kernel, by decide +kernel⟩
theorem lc_X1_191 : wk_S RX1 191 yX1_mostOf cX1_mostOf 1 (some .int) 1 := ⟨wc_Bl [(3, 13), (3, 14), (1, 5), (3, 15)] (by decide +kernel) (by decide +kernel), by decide +kernel, by decide +kernel, by decide +kernel⟩
theorem lc_X1_216 : wk_S RX1 216 yX1_isBlank cX1_isBlank 1 (some .boolean) 1 := ⟨wc_Bl [(2, 120), (2, 121), (1, 5), (2, 122)] (by decide +kernel) (by decide +kernel), by decide +kernel, by decide +kernel, by decide +kernel⟩
theorem lc_X1_219 : wk_S RX1 219 yX1_isLetter cX1_isLetter 1 (some .boolean) 1 := ⟨wc_Bl [(2, 123), (2, 124), (1, 5), (2, 125)] (by decide +kernel) (by decide +kernel), by decide +kernel, by decide +kernel, by decide +kernel⟩
theorem lc_X1_222 : wk_S RX1 222 yX1_isDigit cX1_isDigit 1 (some .boolean) 1 := ⟨wc_Bl [(2, 126), (2, 127), (1, 5), (2, 128)] (by decide +kernel) (by decide +kernel), by decide +kernel, by decide +kernel, by decide +kernel⟩
theorem lc_X1_36 : wk_V RX1 36 yX1_startOn cX1_startOn 2 none 1 := ⟨wc_Bl [(2, 99), (2, 101), (11, 2), (1, 5), (2, 102)] (by decide +kernel) (by decide +kernel), by decide +kernel, by decide +kernel, by decide +kernel⟩
theorem lc_X1_44 : wk_V RX1 44 yX1_readLine cX1_readLine 6 (some .boolean) 1 := ⟨wc_Bl [(2, 129), (2, 131), (11, 4), (1, 5), (2, 132)] (by decide +kernel) (by decide +kernel), by decide +kernel, by decide +kernel, by decide +kernel⟩
theorem lc_X1_57 : wk_V RX1 57 yX1_note cX1_note 3 none 2 := ⟨wc_Bl [(2, 203), (2, 205), (11, 8), (1, 5), (2, 206)] (by decide +kernel) (by decide +kernel), by decide +kernel, by decide +kernel, by decide +kernel⟩
theorem lc_X1_61 : wk_V RX1 61 yX2_clear cX2_clear 1 none 0 := ⟨wc_Bl [(2, 103), (2, 104), (2, 105), (1, 3), (2, 106)] (by decide +kernel) (by decide +kernel), by decide +kernel, by decide +kernel, by decide +kernel⟩
theorem lc_X1_64 : wk_V RX1 64 yX3_clear cX3_clear 1 none 0 := ⟨wc_Bl [(2, 110), (2, 111), (2, 112), (1, 4), (2, 113)] (by decide +kernel) (by decide +kernel), by decide +kernel, by decide +kernel, by decide +kernel⟩
theorem lc_X1_77 : wk_V RX1 77 yX1_advance cX1_advance 1 none 0 := ⟨wc_Bl [(2, 115), (2, 117), (11, 3), (1, 5), (2, 118)] (by decide +kernel) (by decide +kernel), by decide +kernel, by decide +kernel, by decide +kernel⟩
theorem lc_X1_113 : wk_V RX1 113 yX1_chosen cX1_chosen 5 (some .int) 1 := ⟨wc_Bl [(2, 143), (2, 145), (11, 5), (1, 5), (2, 146)] (by decide +kernel) (by decide +kernel), by decide +kernel, by decide +kernel, by decide +kernel⟩
theorem lc_X1_117 : wk_V RX1 117 yX1_refuse cX1_refuse 1 (some .boolean) 0 := ⟨wc_Bl [(2, 199), (2, 201), (11, 7), (1, 5), (2, 202)] (by decide +kernel) (by decide +kernel), by decide +kernel, by decide +kernel, by decide +kernel⟩
theorem lc_X1_121 : wk_V RX1 121 yX1_countLine cX1_countLine 3 none 2 := ⟨wc_Bl [(2, 207), (2, 209), (11, 9), (1, 5), (2, 210)] (by decide +kernel) (by decide +kernel), by decide +kernel, by decide +kernel, by decide +kernel⟩
theorem lc_X1_137 : wk_V RX1 137 yJ0_length_8abf5 cJ0_length_8abf5 1 (some .int) 0 := ⟨wc_Bl [(2, 147), (2, 148), (2, 149), (1, 12), (2, 150)] (by decide +kernel) (by decide +kernel), by decide +kernel, by decide +kernel, by decide +kernel⟩
theorem lc_X1_142 : wk_V RX1 142 yJ0_charAt_5068e cJ0_charAt_5068e 2 (some .char) 1 := ⟨wc_Bl [(2, 157), (2, 158), (2, 159), (1, 12), (2, 160)] (by decide +kernel) (by decide +kernel), by decide +kernel, by decide +kernel, by decide +kernel⟩
theorem lc_X1_146 : wk_V RX1 146 yX1_readPart cX1_readPart 5 (some .boolean) 2 := ⟨wc_Bl [(2, 226), (2, 228), (11, 10), (1, 5), (2, 229)] (by decide +kernel) (by decide +kernel), by decide +kernel, by decide +kernel, by decide +kernel⟩
theorem lc_X1_150 : wk_V RX1 150 yX1_take cX1_take 3 none 2 := ⟨wc_Bl [(3, 17), (3, 19), (11, 13), (1, 5), (3, 20)] (by decide +kernel) (by decide +kernel), by decide +kernel, by decide +kernel, by decide +kernel⟩
theorem lc_X1_160 : wk_V RX1 160 yX1_readSemicolon cX1_readSemicolon 1 (some .boolean) 0 := ⟨wc_Bl [(2, 230), (2, 232), (11, 11), (1, 5), (2, 233)] (by decide +kernel) (by decide +kernel), by decide +kernel, by decide +kernel, by decide +kernel⟩
theorem lc_X1_169 : wk_V RX1 169 yJ0_isEmpty_aae02 cJ0_isEmpty_aae02 1 (some .boolean) 0 := ⟨wc_Bl [(3, 2), (3, 3), (3, 4), (1, 12), (3, 5)] (by decide +kernel) (by decide +kernel), by decide +kernel, by decide +kernel, by decide +kernel⟩
theorem lc_X1_172 : wk_V RX1 172 yX1_readNumber cX1_readNumber 5 (some .boolean) 2 := ⟨wc_Bl [(3, 6), (3, 8), (11, 12), (1, 5), (3, 9)] (by decide +kernel) (by decide +kernel), by decide +kernel, by decide +kernel, by decide +kernel⟩
theorem lc_X1_194 : wk_V RX1 194 yX2_takeLine cX2_takeLine 6 none 2 := ⟨wc_Bl [(3, 21), (3, 22), (3, 23), (1, 3), (3, 24)] (by decide +kernel) (by decide +kernel), by decide +kernel, by decide +kernel, by decide +kernel⟩
theorem lc_X1_198 : wk_V RX1 198 yX1_takeToldOf cX1_takeToldOf 4 none 1 := ⟨wc_Bl [(3, 35), (3, 37), (12, 0), (1, 5), (3, 38)] (by decide +kernel) (by decide +kernel), by decide +kernel, by decide +kernel, by decide +kernel⟩
theorem lc_X1_201 : wk_V RX1 201 yX1_takeOrder cX1_takeOrder 3 none 1 := ⟨wc_Bl [(3, 39), (3, 41), (12, 1), (1, 5), (3, 42)] (by decide +kernel) (by decide +kernel), by decide +kernel, by decide +kernel, by decide +kernel⟩
theorem lc_X1_204 : wk_V RX1 204 yX3_add cX3_add 5 none 3 := ⟨wc_Bl [(3, 43), (3, 44), (3, 45), (1, 4), (3, 46)] (by decide +kernel) (by decide +kernel), by decide +kernel, by decide +kernel, by decide +kernel⟩
theorem lc_X1_208 : wk_V RX1 208 yX3_set cX3_set 4 none 3 := ⟨wc_Bl [(3, 53), (3, 48), (3, 49), (1, 4), (3, 50)] (by decide +kernel) (by decide +kernel), by decide +kernel, by decide +kernel, by decide +kernel⟩
theorem lc_X1_212 : wk_V RX1 212 yX1_isToken cX1_isToken 5 (some .boolean) 3 := ⟨wc_Bl [(2, 195), (2, 197), (11, 6), (1, 5), (2, 198)] (by decide +kernel) (by decide +kernel), by decide +kernel, by decide +kernel, by decide +kernel⟩
theorem ln_X1_9 : wk_N RX1 9 2 [eI 0, eN, eN, eN, eN, eN, eN, eN, eI 0, eI 0, eI 0, eI 0, eI 0, eI 0] := ⟨RX2, TX2, 14, tyX2, rfl, wc_Bm (1, 151) (by decide +kernel) rfl, wc_Bm (1, 35) (by decide +kernel) rfl, wc_Bm (1, 3) (by decide +kernel) rfl, wuX2, tyX2_ok, rfl, fun G j hj => by rcases (by omega : j = 0 ∨ j = 1 ∨ j = 2 ∨ j = 3 ∨ j = 4 ∨ j = 5 ∨ j = 6 ∨ j = 7 ∨ j = 8 ∨ j = 9 ∨ j = 10 ∨ j = 11 ∨ j = 12 ∨ j = 13) with rfl | rfl | rfl | rfl | rfl | rfl | rfl | rfl | rfl | rfl | rfl | rfl | rfl | rfl <;> rfl⟩
theorem ln_X1_18 : wk_N RX1 18 3 [eI 0, eN] := ⟨RX3, TX3, 2, tyX3, rfl, wc_Bm (1, 153) (by decide +kernel) rfl, wc_Bm (1, 104) (by decide +kernel) rfl, wc_Bm (1, 4) (by decide +kernel) rfl, wuX3, tyX3_ok, rfl, fun G j hj => by rcases (by omega : j = 0 ∨ j = 1) with rfl | rfl <;> rfl⟩
theorem lp_X1_12 : wc_fpt RX1 12 1 0 true (.object "WindCabinet$Republic") := ⟨RX1, TX1, 12, tyX1, rfl, by decide, wc_Bm (1, 155) (by decide +kernel) rfl, wuX1, tyX1_ok, nmX1, rfl, by decide +kernel, rfl⟩
theorem lp_X1_21 : wc_fpt RX1 21 1 1 true (.object "WindCabinet$Rows") := ⟨RX1, TX1, 12, tyX1, rfl, by decide, wc_Bm (1, 157) (by decide +kernel) rfl, wuX1, tyX1_ok, nmX1, rfl, by decide +kernel, rfl⟩
theorem lp_X1_25 : wc_fpt RX1 25 1 4 true (.array .int) := ⟨RX1, TX1, 12, tyX1, rfl, by decide, wc_Bm (1, 163) (by decide +kernel) rfl, wuX1, tyX1_ok, nmX1, rfl, by decide +kernel, rfl⟩
theorem lp_X1_29 : wc_fpt RX1 29 1 5 true (.array .int) := ⟨RX1, TX1, 12, tyX1, rfl, by decide, wc_Bm (1, 164) (by decide +kernel) rfl, wuX1, tyX1_ok, nmX1, rfl, by decide +kernel, rfl⟩
theorem lp_X1_40 : wc_fpt RX1 40 1 7 false .int := ⟨RX1, TX1, 12, tyX1, rfl, by decide, wc_Bm (1, 166) (by decide +kernel) rfl, wuX1, tyX1_ok, nmX1, rfl, by decide +kernel, rfl⟩
theorem lp_X1_48 : wc_fpt RX1 48 1 11 false .int := ⟨RX1, TX1, 12, tyX1, rfl, by decide, wc_Bm (1, 170) (by decide +kernel) rfl, wuX1, tyX1_ok, nmX1, rfl, by decide +kernel, rfl⟩
theorem lp_X1_54 : wc_fpt RX1 54 1 6 false .int := ⟨RX1, TX1, 12, tyX1, rfl, by decide, wc_Bm (1, 165) (by decide +kernel) rfl, wuX1, tyX1_ok, nmX1, rfl, by decide +kernel, rfl⟩
theorem lp_X1_65 : wc_fpt RX1 65 1 2 false .int := ⟨RX1, TX1, 12, tyX1, rfl, by decide, wc_Bm (1, 159) (by decide +kernel) rfl, wuX1, tyX1_ok, nmX1, rfl, by decide +kernel, rfl⟩
theorem lp_X1_68 : wc_fpt RX1 68 1 3 false .int := ⟨RX1, TX1, 12, tyX1, rfl, by decide, wc_Bm (1, 161) (by decide +kernel) rfl, wuX1, tyX1_ok, nmX1, rfl, by decide +kernel, rfl⟩
theorem lp_X1_71 : wc_fpt RX1 71 1 9 false .int := ⟨RX1, TX1, 12, tyX1, rfl, by decide, wc_Bm (1, 168) (by decide +kernel) rfl, wuX1, tyX1_ok, nmX1, rfl, by decide +kernel, rfl⟩
theorem lp_X1_74 : wc_fpt RX1 74 1 10 false .int := ⟨RX1, TX1, 12, tyX1, rfl, by decide, wc_Bm (1, 169) (by decide +kernel) rfl, wuX1, tyX1_ok, nmX1, rfl, by decide +kernel, rfl⟩
theorem lp_X1_80 : wc_fpt RX1 80 1 8 false .int := ⟨RX1, TX1, 12, tyX1, rfl, by decide, wc_Bm (1, 167) (by decide +kernel) rfl, wuX1, tyX1_ok, nmX1, rfl, by decide +kernel, rfl⟩
theorem lf_X2_9 : wc_fld RX2 9 2 1 := ⟨RX2, TX2, 14, rfl, by decide, wc_Bm (1, 44) (by decide +kernel) rfl, wuX2⟩
theorem lf_X2_15 : wc_fld RX2 15 2 2 := ⟨RX2, TX2, 14, rfl, by decide, wc_Bm (1, 46) (by decide +kernel) rfl, wuX2⟩
theorem lf_X2_18 : wc_fld RX2 18 2 3 := ⟨RX2, TX2, 14, rfl, by decide, wc_Bm (1, 48) (by decide +kernel) rfl, wuX2⟩
theorem lf_X2_21 : wc_fld RX2 21 2 4 := ⟨RX2, TX2, 14, rfl, by decide, wc_Bm (1, 51) (by decide +kernel) rfl, wuX2⟩
theorem lf_X2_24 : wc_fld RX2 24 2 5 := ⟨RX2, TX2, 14, rfl, by decide, wc_Bm (1, 53) (by decide +kernel) rfl, wuX2⟩
theorem lf_X2_27 : wc_fld RX2 27 2 6 := ⟨RX2, TX2, 14, rfl, by decide, wc_Bm (1, 54) (by decide +kernel) rfl, wuX2⟩
theorem lf_X2_30 : wc_fld RX2 30 2 7 := ⟨RX2, TX2, 14, rfl, by decide, wc_Bm (1, 56) (by decide +kernel) rfl, wuX2⟩
theorem lf_X2_33 : wc_fld RX2 33 2 0 := ⟨RX2, TX2, 14, rfl, by decide, wc_Bm (1, 40) (by decide +kernel) rfl, wuX2⟩
theorem lf_X2_43 : wc_fld RX2 43 2 8 := ⟨RX2, TX2, 14, rfl, by decide, wc_Bm (1, 59) (by decide +kernel) rfl, wuX2⟩
theorem lf_X2_46 : wc_fld RX2 46 2 9 := ⟨RX2, TX2, 14, rfl, by decide, wc_Bm (1, 61) (by decide +kernel) rfl, wuX2⟩
theorem lf_X2_49 : wc_fld RX2 49 2 10 := ⟨RX2, TX2, 14, rfl, by decide, wc_Bm (1, 63) (by decide +kernel) rfl, wuX2⟩
theorem lf_X2_52 : wc_fld RX2 52 2 11 := ⟨RX2, TX2, 14, rfl, by decide, wc_Bm (1, 66) (by decide +kernel) rfl, wuX2⟩
theorem lf_X2_55 : wc_fld RX2 55 2 12 := ⟨RX2, TX2, 14, rfl, by decide, wc_Bm (1, 69) (by decide +kernel) rfl, wuX2⟩
theorem lf_X2_58 : wc_fld RX2 58 2 13 := ⟨RX2, TX2, 14, rfl, by decide, wc_Bm (1, 72) (by decide +kernel) rfl, wuX2⟩
theorem lo_X2_3 : ∀ w ∈ [Cond.methodLink RX2 3 objectInit, .instanceMethod objectInit, .code objectInit ⟨#[0xb1]⟩ 1 none], w ∈ wc_B := wc_Bl [(1, 39), (1, 23), (1, 24)] (by decide +kernel) (by decide +kernel)
theorem lc_X2_37 : wk_S RX2 37 yJ7_fill_53178 cJ7_fill_53178 4 none 2 := ⟨wc_Bl [(2, 107), (2, 108), (1, 11), (2, 109)] (by decide +kernel) (by decide +kernel), by decide +kernel, by decide +kernel, by decide +kernel⟩
theorem lc_X2_61 : wk_SN RX2 61 yX6_copy "WindCabinet" cX6_copy 2 none 2 := ⟨wc_Bl [(2, 91), (1, 1), (2, 92)] (by decide +kernel) (by decide +kernel), by decide +kernel, by decide +kernel, by decide +kernel, by decide +kernel⟩
theorem lc_X2_65 : wk_SN RX2 65 yX6_cell "WindCabinet" cX6_cell 2 (some .int) 2 := ⟨wc_Bl [(2, 84), (1, 1), (2, 85)] (by decide +kernel) (by decide +kernel), by decide +kernel, by decide +kernel, by decide +kernel, by decide +kernel⟩
theorem lc_X2_73 : wk_SN RX2 73 yX6_put "WindCabinet" cX6_put 3 none 3 := ⟨wc_Bl [(2, 69), (1, 1), (2, 70)] (by decide +kernel) (by decide +kernel), by decide +kernel, by decide +kernel, by decide +kernel, by decide +kernel⟩
theorem lc_X2_81 : wk_SN RX2 81 yX6_amount "WindCabinet" cX6_amount 2 (some .int) 2 := ⟨wc_Bl [(3, 178), (1, 1), (3, 179)] (by decide +kernel) (by decide +kernel), by decide +kernel, by decide +kernel, by decide +kernel, by decide +kernel⟩
theorem lm_X2_85 : ∀ w ∈ [Cond.methodLink RX2 85 Lib.Math.abs.name, .static Lib.Math.abs.name, .initialized "java/lang/Math", .code Lib.Math.abs.name Lib.Math.abs.code 1 (some .int)], w ∈ wc_B := wc_Bl [(3, 180), (3, 181), (1, 9), (3, 182)] (by decide +kernel) (by decide +kernel)
theorem lc_X2_91 : wk_SN RX2 91 yX6_has "WindCabinet" cX6_has 2 (some .boolean) 2 := ⟨wc_Bl [(3, 120), (1, 1), (3, 121)] (by decide +kernel) (by decide +kernel), by decide +kernel, by decide +kernel, by decide +kernel, by decide +kernel⟩
theorem lc_X2_112 : wk_SN RX2 112 yX6_numberOf "WindCabinet" cX6_numberOf 3 (some .int) 3 := ⟨wc_Bl [(3, 164), (1, 1), (3, 165)] (by decide +kernel) (by decide +kernel), by decide +kernel, by decide +kernel, by decide +kernel, by decide +kernel⟩
theorem lc_X2_69 : wk_V RX2 69 yX2_addMinister cX2_addMinister 2 none 1 := ⟨wc_Bl [(3, 26), (3, 28), (11, 14), (1, 3), (3, 29)] (by decide +kernel) (by decide +kernel), by decide +kernel, by decide +kernel, by decide +kernel⟩
theorem lc_X2_77 : wk_V RX2 77 yX2_setNumber cX2_setNumber 3 none 2 := ⟨wc_Bl [(3, 31), (3, 33), (11, 15), (1, 3), (3, 34)] (by decide +kernel) (by decide +kernel), by decide +kernel, by decide +kernel, by decide +kernel⟩
theorem lc_X2_95 : wk_V RX2 95 yX2_distance cX2_distance 7 (some .int) 3 := ⟨wc_Bl [(3, 191), (3, 174), (3, 175), (1, 3), (3, 176)] (by decide +kernel) (by decide +kernel), by decide +kernel, by decide +kernel, by decide +kernel⟩
theorem lc_X2_99 : wk_V RX2 99 yX2_patience cX2_patience 3 (some .int) 2 := ⟨wc_Bl [(3, 192), (3, 193), (3, 194), (1, 3), (3, 195)] (by decide +kernel) (by decide +kernel), by decide +kernel, by decide +kernel, by decide +kernel⟩
theorem lc_X2_102 : wk_V RX2 102 yX2_votesOf cX2_votesOf 4 (some .int) 1 := ⟨wc_Bl [(3, 205), (3, 206), (3, 207), (1, 3), (3, 208)] (by decide +kernel) (by decide +kernel), by decide +kernel, by decide +kernel, by decide +kernel⟩
theorem lc_X2_105 : wk_V RX2 105 yX2_isMinister cX2_isMinister 2 (some .boolean) 1 := ⟨wc_Bl [(4, 202), (3, 116), (3, 117), (1, 3), (3, 118)] (by decide +kernel) (by decide +kernel), by decide +kernel, by decide +kernel, by decide +kernel⟩
theorem lc_X2_109 : wk_V RX2 109 yX2_want cX2_want 3 (some .int) 2 := ⟨wc_Bl [(4, 210), (3, 123), (3, 124), (1, 3), (3, 125)] (by decide +kernel) (by decide +kernel), by decide +kernel, by decide +kernel, by decide +kernel⟩
theorem lp_X2_9 : wc_fpt RX2 9 2 1 true (.array .int) := ⟨RX2, TX2, 14, tyX2, rfl, by decide, wc_Bm (1, 44) (by decide +kernel) rfl, wuX2, tyX2_ok, nmX2, rfl, by decide +kernel, rfl⟩
theorem lp_X2_15 : wc_fpt RX2 15 2 2 true (.array .int) := ⟨RX2, TX2, 14, tyX2, rfl, by decide, wc_Bm (1, 46) (by decide +kernel) rfl, wuX2, tyX2_ok, nmX2, rfl, by decide +kernel, rfl⟩
theorem lp_X2_18 : wc_fpt RX2 18 2 3 true (.array .int) := ⟨RX2, TX2, 14, tyX2, rfl, by decide, wc_Bm (1, 48) (by decide +kernel) rfl, wuX2, tyX2_ok, nmX2, rfl, by decide +kernel, rfl⟩
theorem lp_X2_21 : wc_fpt RX2 21 2 4 true (.array .int) := ⟨RX2, TX2, 14, tyX2, rfl, by decide, wc_Bm (1, 51) (by decide +kernel) rfl, wuX2, tyX2_ok, nmX2, rfl, by decide +kernel, rfl⟩
theorem lp_X2_24 : wc_fpt RX2 24 2 5 true (.array .int) := ⟨RX2, TX2, 14, tyX2, rfl, by decide, wc_Bm (1, 53) (by decide +kernel) rfl, wuX2, tyX2_ok, nmX2, rfl, by decide +kernel, rfl⟩
theorem lp_X2_27 : wc_fpt RX2 27 2 6 true (.array .int) := ⟨RX2, TX2, 14, tyX2, rfl, by decide, wc_Bm (1, 54) (by decide +kernel) rfl, wuX2, tyX2_ok, nmX2, rfl, by decide +kernel, rfl⟩
theorem lp_X2_30 : wc_fpt RX2 30 2 7 true (.array .int) := ⟨RX2, TX2, 14, tyX2, rfl, by decide, wc_Bm (1, 56) (by decide +kernel) rfl, wuX2, tyX2_ok, nmX2, rfl, by decide +kernel, rfl⟩
theorem lp_X2_33 : wc_fpt RX2 33 2 0 false .int := ⟨RX2, TX2, 14, tyX2, rfl, by decide, wc_Bm (1, 40) (by decide +kernel) rfl, wuX2, tyX2_ok, nmX2, rfl, by decide +kernel, rfl⟩
theorem lp_X2_43 : wc_fpt RX2 43 2 8 false .int := ⟨RX2, TX2, 14, tyX2, rfl, by decide, wc_Bm (1, 59) (by decide +kernel) rfl, wuX2, tyX2_ok, nmX2, rfl, by decide +kernel, rfl⟩
theorem lp_X2_46 : wc_fpt RX2 46 2 9 false .int := ⟨RX2, TX2, 14, tyX2, rfl, by decide, wc_Bm (1, 61) (by decide +kernel) rfl, wuX2, tyX2_ok, nmX2, rfl, by decide +kernel, rfl⟩
theorem lp_X2_49 : wc_fpt RX2 49 2 10 false .int := ⟨RX2, TX2, 14, tyX2, rfl, by decide, wc_Bm (1, 63) (by decide +kernel) rfl, wuX2, tyX2_ok, nmX2, rfl, by decide +kernel, rfl⟩
theorem lp_X2_52 : wc_fpt RX2 52 2 11 false .int := ⟨RX2, TX2, 14, tyX2, rfl, by decide, wc_Bm (1, 66) (by decide +kernel) rfl, wuX2, tyX2_ok, nmX2, rfl, by decide +kernel, rfl⟩
theorem lp_X2_55 : wc_fpt RX2 55 2 12 false .int := ⟨RX2, TX2, 14, tyX2, rfl, by decide, wc_Bm (1, 69) (by decide +kernel) rfl, wuX2, tyX2_ok, nmX2, rfl, by decide +kernel, rfl⟩
theorem lp_X2_58 : wc_fpt RX2 58 2 13 false .int := ⟨RX2, TX2, 14, tyX2, rfl, by decide, wc_Bm (1, 72) (by decide +kernel) rfl, wuX2, tyX2_ok, nmX2, rfl, by decide +kernel, rfl⟩
theorem lf_X3_9 : wc_fld RX3 9 3 1 := ⟨RX3, TX3, 2, rfl, by decide, wc_Bm (1, 111) (by decide +kernel) rfl, wuX3⟩
theorem lf_X3_15 : wc_fld RX3 15 3 0 := ⟨RX3, TX3, 2, rfl, by decide, wc_Bm (1, 109) (by decide +kernel) rfl, wuX3⟩
theorem lo_X3_3 : ∀ w ∈ [Cond.methodLink RX3 3 objectInit, .instanceMethod objectInit, .code objectInit ⟨#[0xb1]⟩ 1 none], w ∈ wc_B := wc_Bl [(1, 108), (1, 23), (1, 24)] (by decide +kernel) (by decide +kernel)
theorem lc_X3_19 : wk_S RX3 19 yJ7_fill_53178 cJ7_fill_53178 4 none 2 := ⟨wc_Bl [(2, 114), (2, 108), (1, 11), (2, 109)] (by decide +kernel) (by decide +kernel), by decide +kernel, by decide +kernel, by decide +kernel⟩
theorem lc_X3_25 : wk_SN RX3 25 yX6_copy "WindCabinet" cX6_copy 2 none 2 := ⟨wc_Bl [(2, 91), (1, 1), (2, 92)] (by decide +kernel) (by decide +kernel), by decide +kernel, by decide +kernel, by decide +kernel, by decide +kernel⟩
theorem lc_X3_29 : wk_SN RX3 29 yX6_cell "WindCabinet" cX6_cell 2 (some .int) 2 := ⟨wc_Bl [(2, 84), (1, 1), (2, 85)] (by decide +kernel) (by decide +kernel), by decide +kernel, by decide +kernel, by decide +kernel, by decide +kernel⟩
theorem lc_X3_33 : wk_SN RX3 33 yX6_put "WindCabinet" cX6_put 3 none 3 := ⟨wc_Bl [(2, 69), (1, 1), (2, 70)] (by decide +kernel) (by decide +kernel), by decide +kernel, by decide +kernel, by decide +kernel, by decide +kernel⟩
theorem lc_X3_41 : wk_SN RX3 41 yX6_numberOf "WindCabinet" cX6_numberOf 3 (some .int) 3 := ⟨wc_Bl [(3, 164), (1, 1), (3, 165)] (by decide +kernel) (by decide +kernel), by decide +kernel, by decide +kernel, by decide +kernel, by decide +kernel⟩
theorem lc_X3_37 : wk_V RX3 37 yX3_part cX3_part 3 (some .int) 2 := ⟨wc_Bl [(4, 8), (3, 138), (3, 139), (1, 4), (3, 140)] (by decide +kernel) (by decide +kernel), by decide +kernel, by decide +kernel, by decide +kernel⟩
theorem lc_X3_45 : wk_V RX3 45 yX3_set cX3_set 4 none 3 := ⟨wc_Bl [(3, 47), (3, 48), (3, 49), (1, 4), (3, 50)] (by decide +kernel) (by decide +kernel), by decide +kernel, by decide +kernel, by decide +kernel⟩
theorem lp_X3_9 : wc_fpt RX3 9 3 1 true (.array .int) := ⟨RX3, TX3, 2, tyX3, rfl, by decide, wc_Bm (1, 111) (by decide +kernel) rfl, wuX3, tyX3_ok, nmX3, rfl, by decide +kernel, rfl⟩
theorem lp_X3_15 : wc_fpt RX3 15 3 0 false .int := ⟨RX3, TX3, 2, tyX3, rfl, by decide, wc_Bm (1, 109) (by decide +kernel) rfl, wuX3, tyX3_ok, nmX3, rfl, by decide +kernel, rfl⟩
theorem lf_X4_9 : wc_fld RX4 9 2 11 := ⟨RX2, TX2, 14, rfl, by decide, wc_Bm (1, 65) (by decide +kernel) rfl, wuX2⟩
theorem lf_X4_15 : wc_fld RX4 15 4 0 := ⟨RX4, TX4, 3, rfl, by decide, wc_Bm (1, 208) (by decide +kernel) rfl, wuX4⟩
theorem lf_X4_18 : wc_fld RX4 18 2 12 := ⟨RX2, TX2, 14, rfl, by decide, wc_Bm (1, 68) (by decide +kernel) rfl, wuX2⟩
theorem lf_X4_21 : wc_fld RX4 21 4 1 := ⟨RX4, TX4, 3, rfl, by decide, wc_Bm (1, 211) (by decide +kernel) rfl, wuX4⟩
theorem lf_X4_22 : wc_fld RX4 22 2 13 := ⟨RX2, TX2, 14, rfl, by decide, wc_Bm (1, 71) (by decide +kernel) rfl, wuX2⟩
theorem lf_X4_25 : wc_fld RX4 25 4 2 := ⟨RX4, TX4, 3, rfl, by decide, wc_Bm (1, 213) (by decide +kernel) rfl, wuX4⟩
theorem lo_X4_3 : ∀ w ∈ [Cond.methodLink RX4 3 objectInit, .instanceMethod objectInit, .code objectInit ⟨#[0xb1]⟩ 1 none], w ∈ wc_B := wc_Bl [(1, 207), (1, 23), (1, 24)] (by decide +kernel) (by decide +kernel)
theorem lc_X4_26 : wk_SN RX4 26 yX6_amount "WindCabinet" cX6_amount 2 (some .int) 2 := ⟨wc_Bl [(3, 178), (1, 1), (3, 179)] (by decide +kernel) (by decide +kernel), by decide +kernel, by decide +kernel, by decide +kernel, by decide +kernel⟩
theorem lm_X4_30 : ∀ w ∈ [Cond.methodLink RX4 30 Lib.Math.min.name, .static Lib.Math.min.name, .initialized "java/lang/Math", .code Lib.Math.min.name Lib.Math.min.code 2 (some .int)], w ∈ wc_B := wc_Bl [(4, 31), (2, 94), (1, 9), (2, 95)] (by decide +kernel) (by decide +kernel)
theorem lp_X4_15 : wc_fpt RX4 15 4 0 false .int := ⟨RX4, TX4, 3, tyX4, rfl, by decide, wc_Bm (1, 208) (by decide +kernel) rfl, wuX4, tyX4_ok, nmX4, rfl, by decide +kernel, rfl⟩
theorem lp_X4_21 : wc_fpt RX4 21 4 1 false .int := ⟨RX4, TX4, 3, tyX4, rfl, by decide, wc_Bm (1, 211) (by decide +kernel) rfl, wuX4, tyX4_ok, nmX4, rfl, by decide +kernel, rfl⟩
theorem lp_X4_25 : wc_fpt RX4 25 4 2 false .int := ⟨RX4, TX4, 3, tyX4, rfl, by decide, wc_Bm (1, 213) (by decide +kernel) rfl, wuX4, tyX4_ok, nmX4, rfl, by decide +kernel, rfl⟩
theorem lq_X5_22 : Cond.classLink RX5 22 RX2 ∈ wc_B := wc_Bm (1, 31) (by decide +kernel) rfl
theorem lq_X5_28 : Cond.classLink RX5 28 RX3 ∈ wc_B := wc_Bm (1, 33) (by decide +kernel) rfl
theorem lf_X5_9 : wc_fld RX5 9 5 0 := ⟨RX5, TX5, 7, rfl, by decide, wc_Bm (1, 117) (by decide +kernel) rfl, wuX5⟩
theorem lf_X5_15 : wc_fld RX5 15 5 3 := ⟨RX5, TX5, 7, rfl, by decide, wc_Bm (1, 123) (by decide +kernel) rfl, wuX5⟩
theorem lf_X5_19 : wc_fld RX5 19 5 4 := ⟨RX5, TX5, 7, rfl, by decide, wc_Bm (1, 125) (by decide +kernel) rfl, wuX5⟩
theorem lf_X5_24 : wc_fld RX5 24 5 5 := ⟨RX5, TX5, 7, rfl, by decide, wc_Bm (1, 127) (by decide +kernel) rfl, wuX5⟩
theorem lf_X5_30 : wc_fld RX5 30 5 6 := ⟨RX5, TX5, 7, rfl, by decide, wc_Bm (1, 128) (by decide +kernel) rfl, wuX5⟩
theorem lf_X5_40 : wc_fld RX5 40 5 1 := ⟨RX5, TX5, 7, rfl, by decide, wc_Bm (1, 120) (by decide +kernel) rfl, wuX5⟩
theorem lf_X5_43 : wc_fld RX5 43 5 2 := ⟨RX5, TX5, 7, rfl, by decide, wc_Bm (1, 121) (by decide +kernel) rfl, wuX5⟩
theorem lo_X5_3 : ∀ w ∈ [Cond.methodLink RX5 3 objectInit, .instanceMethod objectInit, .code objectInit ⟨#[0xb1]⟩ 1 none], w ∈ wc_B := wc_Bl [(1, 30), (1, 23), (1, 24)] (by decide +kernel) (by decide +kernel)
theorem lc_X5_34 : wk_IN RX5 34 yX2_init "WindCabinet" cX2_init 1 0 := ⟨wc_Bl [(1, 37), (1, 3), (1, 38)] (by decide +kernel) (by decide +kernel), by decide +kernel, rfl, by decide +kernel, by decide +kernel, by decide +kernel⟩
theorem lc_X5_35 : wk_IN RX5 35 yX3_init "WindCabinet" cX3_init 1 0 := ⟨wc_Bl [(1, 106), (1, 4), (1, 107)] (by decide +kernel) (by decide +kernel), by decide +kernel, rfl, by decide +kernel, by decide +kernel, by decide +kernel⟩
theorem lc_X5_36 : wk_SN RX5 36 yX6_copy "WindCabinet" cX6_copy 2 none 2 := ⟨wc_Bl [(2, 91), (1, 1), (2, 92)] (by decide +kernel) (by decide +kernel), by decide +kernel, by decide +kernel, by decide +kernel, by decide +kernel⟩
theorem lc_X5_46 : wk_V RX5 46 yX2_copyRepublic cX2_copyRepublic 2 none 1 := ⟨wc_Bl [(3, 97), (3, 63), (3, 64), (1, 3), (3, 65)] (by decide +kernel) (by decide +kernel), by decide +kernel, by decide +kernel, by decide +kernel⟩
theorem lc_X5_50 : wk_V RX5 50 yX3_copyRows cX3_copyRows 2 none 1 := ⟨wc_Bl [(3, 98), (3, 72), (3, 73), (1, 4), (3, 74)] (by decide +kernel) (by decide +kernel), by decide +kernel, by decide +kernel, by decide +kernel⟩
theorem ln_X5_22 : wk_N RX5 22 2 [eI 0, eN, eN, eN, eN, eN, eN, eN, eI 0, eI 0, eI 0, eI 0, eI 0, eI 0] := ⟨RX2, TX2, 14, tyX2, rfl, wc_Bm (1, 31) (by decide +kernel) rfl, wc_Bm (1, 35) (by decide +kernel) rfl, wc_Bm (1, 3) (by decide +kernel) rfl, wuX2, tyX2_ok, rfl, fun G j hj => by rcases (by omega : j = 0 ∨ j = 1 ∨ j = 2 ∨ j = 3 ∨ j = 4 ∨ j = 5 ∨ j = 6 ∨ j = 7 ∨ j = 8 ∨ j = 9 ∨ j = 10 ∨ j = 11 ∨ j = 12 ∨ j = 13) with rfl | rfl | rfl | rfl | rfl | rfl | rfl | rfl | rfl | rfl | rfl | rfl | rfl | rfl <;> rfl⟩
theorem ln_X5_28 : wk_N RX5 28 3 [eI 0, eN] := ⟨RX3, TX3, 2, tyX3, rfl, wc_Bm (1, 33) (by decide +kernel) rfl, wc_Bm (1, 104) (by decide +kernel) rfl, wc_Bm (1, 4) (by decide +kernel) rfl, wuX3, tyX3_ok, rfl, fun G j hj => by rcases (by omega : j = 0 ∨ j = 1) with rfl | rfl <;> rfl⟩
theorem lp_X5_9 : wc_fpt RX5 9 5 0 true (.array .int) := ⟨RX5, TX5, 7, tyX5, rfl, by decide, wc_Bm (1, 117) (by decide +kernel) rfl, wuX5, tyX5_ok, nmX5, rfl, by decide +kernel, rfl⟩
theorem lp_X5_15 : wc_fpt RX5 15 5 3 false .int := ⟨RX5, TX5, 7, tyX5, rfl, by decide, wc_Bm (1, 123) (by decide +kernel) rfl, wuX5, tyX5_ok, nmX5, rfl, by decide +kernel, rfl⟩
theorem lp_X5_19 : wc_fpt RX5 19 5 4 true (.array .int) := ⟨RX5, TX5, 7, tyX5, rfl, by decide, wc_Bm (1, 125) (by decide +kernel) rfl, wuX5, tyX5_ok, nmX5, rfl, by decide +kernel, rfl⟩
theorem lp_X5_24 : wc_fpt RX5 24 5 5 true (.array (.object "WindCabinet$Republic")) := ⟨RX5, TX5, 7, tyX5, rfl, by decide, wc_Bm (1, 127) (by decide +kernel) rfl, wuX5, tyX5_ok, nmX5, rfl, by decide +kernel, rfl⟩
theorem lp_X5_30 : wc_fpt RX5 30 5 6 true (.array (.object "WindCabinet$Rows")) := ⟨RX5, TX5, 7, tyX5, rfl, by decide, wc_Bm (1, 128) (by decide +kernel) rfl, wuX5, tyX5_ok, nmX5, rfl, by decide +kernel, rfl⟩
theorem lp_X5_40 : wc_fpt RX5 40 5 1 false .int := ⟨RX5, TX5, 7, tyX5, rfl, by decide, wc_Bm (1, 120) (by decide +kernel) rfl, wuX5, tyX5_ok, nmX5, rfl, by decide +kernel, rfl⟩
theorem lp_X5_43 : wc_fpt RX5 43 5 2 false .int := ⟨RX5, TX5, 7, tyX5, rfl, by decide, wc_Bm (1, 121) (by decide +kernel) rfl, wuX5, tyX5_ok, nmX5, rfl, by decide +kernel, rfl⟩
theorem lq_X6_7 : Cond.classLink RX6 7 RX5 ∈ wc_B := wc_Bm (1, 25) (by decide +kernel) rfl
theorem lf_X6_10 : wc_fld RX6 10 6 0 := ⟨RX6, TX6, 8, rfl, by decide, wc_Bm (2, 35) (by decide +kernel) rfl, wuX6⟩
theorem lf_X6_16 : wc_fld RX6 16 6 1 := ⟨RX6, TX6, 8, rfl, by decide, wc_Bm (2, 36) (by decide +kernel) rfl, wuX6⟩
theorem lf_X6_23 : wc_fld RX6 23 6 2 := ⟨RX6, TX6, 8, rfl, by decide, wc_Bm (2, 37) (by decide +kernel) rfl, wuX6⟩
theorem lf_X6_30 : wc_fld RX6 30 6 3 := ⟨RX6, TX6, 8, rfl, by decide, wc_Bm (2, 38) (by decide +kernel) rfl, wuX6⟩
theorem lf_X6_37 : wc_fld RX6 37 6 4 := ⟨RX6, TX6, 8, rfl, by decide, wc_Bm (2, 39) (by decide +kernel) rfl, wuX6⟩
theorem lf_X6_41 : wc_fld RX6 41 6 5 := ⟨RX6, TX6, 8, rfl, by decide, wc_Bm (2, 40) (by decide +kernel) rfl, wuX6⟩
theorem lf_X6_45 : wc_fld RX6 45 6 6 := ⟨RX6, TX6, 8, rfl, by decide, wc_Bm (2, 41) (by decide +kernel) rfl, wuX6⟩
theorem lf_X6_48 : wc_fld RX6 48 6 7 := ⟨RX6, TX6, 8, rfl, by decide, wc_Bm (2, 42) (by decide +kernel) rfl, wuX6⟩
theorem lf_X6_51 : wc_fld RX6 51 5 1 := ⟨RX5, TX5, 7, rfl, by decide, wc_Bm (1, 119) (by decide +kernel) rfl, wuX5⟩
theorem lf_X6_59 : wc_fld RX6 59 5 0 := ⟨RX5, TX5, 7, rfl, by decide, wc_Bm (1, 118) (by decide +kernel) rfl, wuX5⟩
theorem lf_X6_70 : wc_fld RX6 70 5 2 := ⟨RX5, TX5, 7, rfl, by decide, wc_Bm (1, 122) (by decide +kernel) rfl, wuX5⟩
theorem lf_X6_73 : wc_fld RX6 73 5 3 := ⟨RX5, TX5, 7, rfl, by decide, wc_Bm (1, 124) (by decide +kernel) rfl, wuX5⟩
theorem lf_X6_79 : wc_fld RX6 79 1 2 := ⟨RX1, TX1, 12, rfl, by decide, wc_Bm (1, 160) (by decide +kernel) rfl, wuX1⟩
theorem lf_X6_80 : wc_fld RX6 80 1 3 := ⟨RX1, TX1, 12, rfl, by decide, wc_Bm (1, 162) (by decide +kernel) rfl, wuX1⟩
theorem lf_X6_85 : wc_fld RX6 85 5 4 := ⟨RX5, TX5, 7, rfl, by decide, wc_Bm (1, 126) (by decide +kernel) rfl, wuX5⟩
theorem lf_X6_96 : wc_fld RX6 96 1 0 := ⟨RX1, TX1, 12, rfl, by decide, wc_Bm (1, 156) (by decide +kernel) rfl, wuX1⟩
theorem lf_X6_110 : wc_fld RX6 110 1 1 := ⟨RX1, TX1, 12, rfl, by decide, wc_Bm (1, 158) (by decide +kernel) rfl, wuX1⟩
theorem lf_X6_132 : wc_fld RX6 132 2 0 := ⟨RX2, TX2, 14, rfl, by decide, wc_Bm (1, 43) (by decide +kernel) rfl, wuX2⟩
theorem lf_X6_135 : wc_fld RX6 135 2 9 := ⟨RX2, TX2, 14, rfl, by decide, wc_Bm (1, 62) (by decide +kernel) rfl, wuX2⟩
theorem lf_X6_138 : wc_fld RX6 138 2 10 := ⟨RX2, TX2, 14, rfl, by decide, wc_Bm (1, 64) (by decide +kernel) rfl, wuX2⟩
theorem lf_X6_141 : wc_fld RX6 141 2 11 := ⟨RX2, TX2, 14, rfl, by decide, wc_Bm (1, 67) (by decide +kernel) rfl, wuX2⟩
theorem lf_X6_144 : wc_fld RX6 144 2 12 := ⟨RX2, TX2, 14, rfl, by decide, wc_Bm (1, 70) (by decide +kernel) rfl, wuX2⟩
theorem lf_X6_147 : wc_fld RX6 147 2 13 := ⟨RX2, TX2, 14, rfl, by decide, wc_Bm (1, 73) (by decide +kernel) rfl, wuX2⟩
theorem lf_X6_150 : wc_fld RX6 150 2 7 := ⟨RX2, TX2, 14, rfl, by decide, wc_Bm (1, 58) (by decide +kernel) rfl, wuX2⟩
theorem lf_X6_157 : wc_fld RX6 157 2 1 := ⟨RX2, TX2, 14, rfl, by decide, wc_Bm (1, 45) (by decide +kernel) rfl, wuX2⟩
theorem lf_X6_160 : wc_fld RX6 160 2 2 := ⟨RX2, TX2, 14, rfl, by decide, wc_Bm (1, 47) (by decide +kernel) rfl, wuX2⟩
theorem lf_X6_163 : wc_fld RX6 163 2 3 := ⟨RX2, TX2, 14, rfl, by decide, wc_Bm (1, 50) (by decide +kernel) rfl, wuX2⟩
theorem lf_X6_166 : wc_fld RX6 166 2 4 := ⟨RX2, TX2, 14, rfl, by decide, wc_Bm (1, 52) (by decide +kernel) rfl, wuX2⟩
theorem lf_X6_169 : wc_fld RX6 169 2 8 := ⟨RX2, TX2, 14, rfl, by decide, wc_Bm (1, 60) (by decide +kernel) rfl, wuX2⟩
theorem lf_X6_176 : wc_fld RX6 176 2 6 := ⟨RX2, TX2, 14, rfl, by decide, wc_Bm (1, 55) (by decide +kernel) rfl, wuX2⟩
theorem lf_X6_189 : wc_fld RX6 189 3 0 := ⟨RX3, TX3, 2, rfl, by decide, wc_Bm (1, 110) (by decide +kernel) rfl, wuX3⟩
theorem lf_X6_235 : wc_fld RX6 235 0 6 := ⟨RX0, TX0, 13, rfl, by decide, wc_Bm (1, 235) (by decide +kernel) rfl, wuX0⟩
theorem lf_X6_238 : wc_fld RX6 238 0 1 := ⟨RX0, TX0, 13, rfl, by decide, wc_Bm (1, 225) (by decide +kernel) rfl, wuX0⟩
theorem lf_X6_241 : wc_fld RX6 241 0 2 := ⟨RX0, TX0, 13, rfl, by decide, wc_Bm (1, 227) (by decide +kernel) rfl, wuX0⟩
theorem lf_X6_244 : wc_fld RX6 244 0 3 := ⟨RX0, TX0, 13, rfl, by decide, wc_Bm (1, 229) (by decide +kernel) rfl, wuX0⟩
theorem lf_X6_247 : wc_fld RX6 247 0 0 := ⟨RX0, TX0, 13, rfl, by decide, wc_Bm (1, 223) (by decide +kernel) rfl, wuX0⟩
theorem lf_X6_248 : wc_fld RX6 248 4 0 := ⟨RX4, TX4, 3, rfl, by decide, wc_Bm (1, 210) (by decide +kernel) rfl, wuX4⟩
theorem lf_X6_249 : wc_fld RX6 249 4 1 := ⟨RX4, TX4, 3, rfl, by decide, wc_Bm (1, 212) (by decide +kernel) rfl, wuX4⟩
theorem lf_X6_250 : wc_fld RX6 250 4 2 := ⟨RX4, TX4, 3, rfl, by decide, wc_Bm (1, 214) (by decide +kernel) rfl, wuX4⟩
theorem lf_X6_251 : wc_fld RX6 251 0 7 := ⟨RX0, TX0, 13, rfl, by decide, wc_Bm (1, 237) (by decide +kernel) rfl, wuX0⟩
theorem lf_X6_258 : wc_fld RX6 258 0 8 := ⟨RX0, TX0, 13, rfl, by decide, wc_Bm (1, 239) (by decide +kernel) rfl, wuX0⟩
theorem lf_X6_261 : wc_fld RX6 261 0 5 := ⟨RX0, TX0, 13, rfl, by decide, wc_Bm (1, 233) (by decide +kernel) rfl, wuX0⟩
theorem lf_X6_262 : wc_fld RX6 262 0 4 := ⟨RX0, TX0, 13, rfl, by decide, wc_Bm (1, 231) (by decide +kernel) rfl, wuX0⟩
theorem lf_X6_269 : wc_fld RX6 269 0 9 := ⟨RX0, TX0, 13, rfl, by decide, wc_Bm (2, 1) (by decide +kernel) rfl, wuX0⟩
theorem lf_X6_272 : wc_fld RX6 272 0 10 := ⟨RX0, TX0, 13, rfl, by decide, wc_Bm (2, 3) (by decide +kernel) rfl, wuX0⟩
theorem ls_X6_303 : Cond.fieldLink RX6 303 RX6 "FACTORIALS" "[I" ∈ wc_B := wc_Bm (4, 124) (by decide +kernel) rfl
theorem lo_X6_1 : ∀ w ∈ [Cond.methodLink RX6 1 objectInit, .instanceMethod objectInit, .code objectInit ⟨#[0xb1]⟩ 1 none], w ∈ wc_B := wc_Bl [(1, 22), (1, 23), (1, 24)] (by decide +kernel) (by decide +kernel)
theorem lc_X6_9 : wk_I RX6 9 yX5_init cX5_init 2 0 := ⟨wc_Bl [(1, 27), (1, 28), (1, 2), (1, 29)] (by decide +kernel) (by decide +kernel), rfl, by decide +kernel, by decide +kernel, by decide +kernel⟩
theorem lc_X6_22 : wk_IN RX6 22 yX1_init "WindCabinet" cX1_init 1 0 := ⟨wc_Bl [(1, 148), (1, 5), (1, 149)] (by decide +kernel) (by decide +kernel), by decide +kernel, rfl, by decide +kernel, by decide +kernel, by decide +kernel⟩
theorem lc_X6_29 : wk_IN RX6 29 yX0_init "WindCabinet" cX0_init 1 0 := ⟨wc_Bl [(1, 199), (1, 6), (1, 200)] (by decide +kernel) (by decide +kernel), by decide +kernel, rfl, by decide +kernel, by decide +kernel, by decide +kernel⟩
theorem lc_X6_36 : wk_IN RX6 36 yX4_init "WindCabinet" cX4_init 1 0 := ⟨wc_Bl [(1, 205), (1, 7), (1, 206)] (by decide +kernel) (by decide +kernel), by decide +kernel, rfl, by decide +kernel, by decide +kernel, by decide +kernel⟩
theorem lc_X6_62 : wk_S RX6 62 yX6_put cX6_put 3 none 3 := ⟨wc_Bl [(2, 68), (2, 69), (1, 1), (2, 70)] (by decide +kernel) (by decide +kernel), by decide +kernel, by decide +kernel, by decide +kernel⟩
theorem lc_X6_88 : wk_S RX6 88 yX6_cell cX6_cell 2 (some .int) 2 := ⟨wc_Bl [(2, 83), (2, 84), (1, 1), (2, 85)] (by decide +kernel) (by decide +kernel), by decide +kernel, by decide +kernel, by decide +kernel⟩
theorem lm_X6_120 : ∀ w ∈ [Cond.methodLink RX6 120 Lib.Math.max.name, .static Lib.Math.max.name, .initialized "java/lang/Math", .code Lib.Math.max.name Lib.Math.max.code 2 (some .int)], w ∈ wc_B := wc_Bl [(3, 76), (3, 77), (1, 9), (3, 78)] (by decide +kernel) (by decide +kernel)
theorem lc_X6_172 : wk_S RX6 172 yX6_has cX6_has 2 (some .boolean) 2 := ⟨wc_Bl [(3, 119), (3, 120), (1, 1), (3, 121)] (by decide +kernel) (by decide +kernel), by decide +kernel, by decide +kernel, by decide +kernel⟩
theorem lc_X6_185 : wk_S RX6 185 yX6_rowTold cX6_rowTold 4 (some .int) 4 := ⟨wc_Bl [(3, 134), (3, 135), (1, 1), (3, 136)] (by decide +kernel) (by decide +kernel), by decide +kernel, by decide +kernel, by decide +kernel⟩
theorem lc_X6_193 : wk_S RX6 193 yX6_isSeason cX6_isSeason 1 (some .boolean) 1 := ⟨wc_Bl [(3, 170), (3, 171), (1, 1), (3, 172)] (by decide +kernel) (by decide +kernel), by decide +kernel, by decide +kernel, by decide +kernel⟩
theorem lc_X6_196 : wk_S RX6 196 yX6_dayOf cX6_dayOf 3 (some .int) 3 := ⟨wc_Bl [(3, 157), (3, 158), (1, 1), (3, 159)] (by decide +kernel) (by decide +kernel), by decide +kernel, by decide +kernel, by decide +kernel⟩
theorem lc_X6_217 : wk_S RX6 217 yX6_firstBroken cX6_firstBroken 5 (some .int) 4 := ⟨wc_Bl [(3, 213), (3, 214), (1, 1), (3, 215)] (by decide +kernel) (by decide +kernel), by decide +kernel, by decide +kernel, by decide +kernel⟩
theorem lc_X6_220 : wk_S RX6 220 yX6_isBroken cX6_isBroken 9 (some .boolean) 5 := ⟨wc_Bl [(3, 216), (3, 217), (1, 1), (3, 218)] (by decide +kernel) (by decide +kernel), by decide +kernel, by decide +kernel, by decide +kernel⟩
theorem lc_X6_224 : wk_S RX6 224 yX6_amount cX6_amount 2 (some .int) 2 := ⟨wc_Bl [(3, 219), (3, 178), (1, 1), (3, 179)] (by decide +kernel) (by decide +kernel), by decide +kernel, by decide +kernel, by decide +kernel⟩
theorem lc_X6_293 : wk_S RX6 293 yX6_rank cX6_rank 5 (some .int) 2 := ⟨wc_Bl [(4, 113), (4, 114), (1, 1), (4, 115)] (by decide +kernel) (by decide +kernel), by decide +kernel, by decide +kernel, by decide +kernel⟩
theorem lc_X6_297 : wk_S RX6 297 yX6_numberOf cX6_numberOf 3 (some .int) 3 := ⟨wc_Bl [(3, 163), (3, 164), (1, 1), (3, 165)] (by decide +kernel) (by decide +kernel), by decide +kernel, by decide +kernel, by decide +kernel⟩
theorem lc_X6_300 : wk_S RX6 300 yX6_rowsDecided cX6_rowsDecided 6 (some .int) 2 := ⟨wc_Bl [(4, 120), (4, 121), (1, 1), (4, 122)] (by decide +kernel) (by decide +kernel), by decide +kernel, by decide +kernel, by decide +kernel⟩
theorem lc_X6_306 : wk_S RX6 306 yX6_fraction cX6_fraction 4 (some .int) 3 := ⟨wc_Bl [(4, 126), (4, 127), (1, 1), (4, 128)] (by decide +kernel) (by decide +kernel), by decide +kernel, by decide +kernel, by decide +kernel⟩
theorem lc_X6_310 : wk_S RX6 310 yJ6_bitCount_0f7a4 cJ6_bitCount_0f7a4 1 (some .int) 1 := ⟨wc_Bl [(4, 123), (4, 81), (1, 16), (4, 82)] (by decide +kernel) (by decide +kernel), by decide +kernel, by decide +kernel, by decide +kernel⟩
theorem lc_X6_315 : wk_S RX6 315 yX6_keyMinisters cX6_keyMinisters 3 (some .int) 1 := ⟨wc_Bl [(4, 136), (4, 137), (1, 1), (4, 138)] (by decide +kernel) (by decide +kernel), by decide +kernel, by decide +kernel, by decide +kernel⟩
theorem lc_X6_319 : wk_S RX6 319 yX6_leastCoalition cX6_leastCoalition 4 (some .int) 2 := ⟨wc_Bl [(4, 139), (4, 140), (1, 1), (4, 141)] (by decide +kernel) (by decide +kernel), by decide +kernel, by decide +kernel, by decide +kernel⟩
theorem lc_X6_322 : wk_S RX6 322 yX6_isLeastCoalition cX6_isLeastCoalition 3 (some .boolean) 2 := ⟨wc_Bl [(4, 142), (4, 143), (1, 1), (4, 144)] (by decide +kernel) (by decide +kernel), by decide +kernel, by decide +kernel, by decide +kernel⟩
theorem lc_X6_326 : wk_S RX6 326 yX6_bribeOf cX6_bribeOf 7 (some .int) 5 := ⟨wc_Bl [(4, 149), (4, 150), (1, 1), (4, 151)] (by decide +kernel) (by decide +kernel), by decide +kernel, by decide +kernel, by decide +kernel⟩
theorem lc_X6_333 : wk_S RX6 333 yX6_isRest cX6_isRest 7 (some .boolean) 4 := ⟨wc_Bl [(4, 157), (4, 158), (1, 1), (4, 159)] (by decide +kernel) (by decide +kernel), by decide +kernel, by decide +kernel, by decide +kernel⟩
theorem lc_X6_337 : wk_S RX6 337 yX6_gain cX6_gain 8 (some .int) 5 := ⟨wc_Bl [(4, 160), (4, 161), (1, 1), (4, 162)] (by decide +kernel) (by decide +kernel), by decide +kernel, by decide +kernel, by decide +kernel⟩
theorem lc_X6_341 : wk_S RX6 341 yX6_boughtBy cX6_boughtBy 6 (some .int) 4 := ⟨wc_Bl [(4, 163), (4, 164), (1, 1), (4, 165)] (by decide +kernel) (by decide +kernel), by decide +kernel, by decide +kernel, by decide +kernel⟩
theorem lc_X6_345 : wk_S RX6 345 yX6_leavers cX6_leavers 5 (some .int) 3 := ⟨wc_Bl [(4, 170), (4, 171), (1, 1), (4, 172)] (by decide +kernel) (by decide +kernel), by decide +kernel, by decide +kernel, by decide +kernel⟩
theorem lc_X6_349 : wk_S RX6 349 yX6_sharesOf cX6_sharesOf 5 (some .int) 3 := ⟨wc_Bl [(4, 173), (4, 174), (1, 1), (4, 175)] (by decide +kernel) (by decide +kernel), by decide +kernel, by decide +kernel, by decide +kernel⟩
theorem lm_X6_366 : ∀ w ∈ [Cond.methodLink RX6 366 Lib.Math.min.name, .static Lib.Math.min.name, .initialized "java/lang/Math", .code Lib.Math.min.name Lib.Math.min.code 2 (some .int)], w ∈ wc_B := wc_Bl [(2, 93), (2, 94), (1, 9), (2, 95)] (by decide +kernel) (by decide +kernel)
theorem lc_X6_382 : wk_S RX6 382 yX6_isFit cX6_isFit 4 (some .boolean) 3 := ⟨wc_Bl [(4, 203), (4, 204), (1, 1), (4, 205)] (by decide +kernel) (by decide +kernel), by decide +kernel, by decide +kernel, by decide +kernel⟩
theorem lc_X6_389 : wk_S RX6 389 yJ7_fill_53178 cJ7_fill_53178 4 none 2 := ⟨wc_Bl [(4, 220), (2, 108), (1, 11), (2, 109)] (by decide +kernel) (by decide +kernel), by decide +kernel, by decide +kernel, by decide +kernel⟩
theorem lc_X6_395 : wk_S RX6 395 yX6_wetSeasons cX6_wetSeasons 6 (some .int) 2 := ⟨wc_Bl [(4, 225), (4, 226), (1, 1), (4, 227)] (by decide +kernel) (by decide +kernel), by decide +kernel, by decide +kernel, by decide +kernel⟩
theorem lc_X6_398 : wk_S RX6 398 yX6_areThere cX6_areThere 3 (some .boolean) 2 := ⟨wc_Bl [(4, 232), (4, 233), (1, 1), (4, 234)] (by decide +kernel) (by decide +kernel), by decide +kernel, by decide +kernel, by decide +kernel⟩
theorem lc_X6_402 : wk_S RX6 402 yX6_manyFitting cX6_manyFitting 7 (some .int) 5 := ⟨wc_Bl [(4, 235), (4, 236), (1, 1), (4, 237)] (by decide +kernel) (by decide +kernel), by decide +kernel, by decide +kernel, by decide +kernel⟩
theorem lc_X6_405 : wk_S RX6 405 yX6_likelyRain cX6_likelyRain 6 (some .int) 5 := ⟨wc_Bl [(5, 1), (5, 2), (1, 1), (5, 3)] (by decide +kernel) (by decide +kernel), by decide +kernel, by decide +kernel, by decide +kernel⟩
theorem lc_X6_408 : wk_S RX6 408 yX6_lies cX6_lies 7 (some .int) 4 := ⟨wc_Bl [(5, 4), (5, 5), (1, 1), (5, 6)] (by decide +kernel) (by decide +kernel), by decide +kernel, by decide +kernel, by decide +kernel⟩
theorem lc_X6_411 : wk_S RX6 411 yX6_extreme cX6_extreme 9 (some .int) 6 := ⟨wc_Bl [(5, 7), (5, 8), (1, 1), (5, 9)] (by decide +kernel) (by decide +kernel), by decide +kernel, by decide +kernel, by decide +kernel⟩
theorem lc_X6_415 : wk_S RX6 415 yX6_unfit cX6_unfit 8 (some .int) 5 := ⟨wc_Bl [(4, 238), (4, 239), (1, 1), (5, 0)] (by decide +kernel) (by decide +kernel), by decide +kernel, by decide +kernel, by decide +kernel⟩
theorem lc_X6_419 : wk_S RX6 419 yX6_isAmount cX6_isAmount 1 (some .boolean) 1 := ⟨wc_Bl [(3, 160), (3, 161), (1, 1), (3, 162)] (by decide +kernel) (by decide +kernel), by decide +kernel, by decide +kernel, by decide +kernel⟩
theorem lm_X6_422 : ∀ w ∈ [Cond.methodLink RX6 422 arraycopyName, .native arraycopyName, .static arraycopyName, .initialized "java/lang/System"], w ∈ wc_B := wc_Bl [(2, 96), (2, 98), (2, 97), (1, 10)] (by decide +kernel) (by decide +kernel)
theorem lc_X6_428 : wk_S RX6 428 yX6_commonDivisor cX6_commonDivisor 6 (some .int) 2 := ⟨wc_Bl [(4, 129), (4, 130), (1, 1), (4, 131)] (by decide +kernel) (by decide +kernel), by decide +kernel, by decide +kernel, by decide +kernel⟩
theorem lc_X6_55 : wk_V RX6 55 yX6_feedNumber cX6_feedNumber 3 none 1 := ⟨wc_Bl [(2, 64), (2, 66), (11, 0), (1, 1), (2, 67)] (by decide +kernel) (by decide +kernel), by decide +kernel, by decide +kernel, by decide +kernel⟩
theorem lc_X6_66 : wk_V RX6 66 yX6_placeFor cX6_placeFor 4 (some .int) 2 := ⟨wc_Bl [(2, 79), (2, 81), (11, 1), (1, 1), (2, 82)] (by decide +kernel) (by decide +kernel), by decide +kernel, by decide +kernel, by decide +kernel⟩
theorem lc_X6_76 : wk_V RX6 76 yX1_read cX1_read 6 none 3 := ⟨wc_Bl [(2, 86), (2, 87), (2, 88), (1, 5), (2, 89)] (by decide +kernel) (by decide +kernel), by decide +kernel, by decide +kernel, by decide +kernel⟩
theorem lc_X6_81 : wk_V RX6 81 yX6_keep cX6_keep 4 none 2 := ⟨wc_Bl [(3, 54), (3, 56), (12, 2), (1, 1), (3, 57)] (by decide +kernel) (by decide +kernel), by decide +kernel, by decide +kernel, by decide +kernel⟩
theorem lc_X6_92 : wk_V RX6 92 yX5_republicKept cX5_republicKept 2 (some (.object "WindCabinet$Republic")) 1 := ⟨wc_Bl [(3, 58), (3, 59), (3, 60), (1, 2), (3, 61)] (by decide +kernel) (by decide +kernel), by decide +kernel, by decide +kernel, by decide +kernel⟩
theorem lc_X6_100 : wk_V RX6 100 yX2_copyRepublic cX2_copyRepublic 2 none 1 := ⟨wc_Bl [(3, 62), (3, 63), (3, 64), (1, 3), (3, 65)] (by decide +kernel) (by decide +kernel), by decide +kernel, by decide +kernel, by decide +kernel⟩
theorem lc_X6_106 : wk_V RX6 106 yX5_rowsKept cX5_rowsKept 4 (some (.object "WindCabinet$Rows")) 2 := ⟨wc_Bl [(3, 67), (3, 68), (3, 69), (1, 2), (3, 70)] (by decide +kernel) (by decide +kernel), by decide +kernel, by decide +kernel, by decide +kernel⟩
theorem lc_X6_114 : wk_V RX6 114 yX3_copyRows cX3_copyRows 2 none 1 := ⟨wc_Bl [(3, 71), (3, 72), (3, 73), (1, 4), (3, 74)] (by decide +kernel) (by decide +kernel), by decide +kernel, by decide +kernel, by decide +kernel⟩
theorem lc_X6_125 : wk_V RX6 125 yX5_copyTold cX5_copyTold 3 none 1 := ⟨wc_Bl [(3, 92), (3, 93), (3, 94), (1, 2), (3, 95)] (by decide +kernel) (by decide +kernel), by decide +kernel, by decide +kernel, by decide +kernel⟩
theorem lc_X6_129 : wk_V RX6 129 yX6_republicAt cX6_republicAt 2 (some (.object "WindCabinet$Republic")) 1 := ⟨wc_Bl [(3, 107), (3, 109), (12, 3), (1, 1), (3, 110)] (by decide +kernel) (by decide +kernel), by decide +kernel, by decide +kernel, by decide +kernel⟩
theorem lc_X6_153 : wk_V RX6 153 yX2_isMinister cX2_isMinister 2 (some .boolean) 1 := ⟨wc_Bl [(3, 115), (3, 116), (3, 117), (1, 3), (3, 118)] (by decide +kernel) (by decide +kernel), by decide +kernel, by decide +kernel, by decide +kernel⟩
theorem lc_X6_179 : wk_V RX6 179 yX2_want cX2_want 3 (some .int) 2 := ⟨wc_Bl [(3, 122), (3, 123), (3, 124), (1, 3), (3, 125)] (by decide +kernel) (by decide +kernel), by decide +kernel, by decide +kernel, by decide +kernel⟩
theorem lc_X6_182 : wk_V RX6 182 yX6_rowsAt cX6_rowsAt 3 (some (.object "WindCabinet$Rows")) 2 := ⟨wc_Bl [(3, 130), (3, 132), (12, 4), (1, 1), (3, 133)] (by decide +kernel) (by decide +kernel), by decide +kernel, by decide +kernel, by decide +kernel⟩
theorem lc_X6_190 : wk_V RX6 190 yX3_part cX3_part 3 (some .int) 2 := ⟨wc_Bl [(3, 137), (3, 138), (3, 139), (1, 4), (3, 140)] (by decide +kernel) (by decide +kernel), by decide +kernel, by decide +kernel, by decide +kernel⟩
theorem lc_X6_200 : wk_V RX6 200 yX6_movedIn cX6_movedIn 6 (some (.object "WindCabinet$Republic")) 4 := ⟨wc_Bl [(3, 166), (3, 168), (12, 5), (1, 1), (3, 169)] (by decide +kernel) (by decide +kernel), by decide +kernel, by decide +kernel, by decide +kernel⟩
theorem lc_X6_204 : wk_V RX6 204 yX2_distance cX2_distance 7 (some .int) 3 := ⟨wc_Bl [(3, 173), (3, 174), (3, 175), (1, 3), (3, 176)] (by decide +kernel) (by decide +kernel), by decide +kernel, by decide +kernel, by decide +kernel⟩
theorem lc_X6_207 : wk_V RX6 207 yX2_agreeing cX2_agreeing 6 (some .int) 3 := ⟨wc_Bl [(3, 187), (3, 188), (3, 189), (1, 3), (3, 190)] (by decide +kernel) (by decide +kernel), by decide +kernel, by decide +kernel, by decide +kernel⟩
theorem lc_X6_210 : wk_V RX6 210 yX2_everybody cX2_everybody 1 (some .int) 0 := ⟨wc_Bl [(3, 197), (3, 198), (3, 199), (1, 3), (3, 200)] (by decide +kernel) (by decide +kernel), by decide +kernel, by decide +kernel, by decide +kernel⟩
theorem lc_X6_214 : wk_V RX6 214 yX2_isPassed cX2_isPassed 3 (some .boolean) 2 := ⟨wc_Bl [(3, 201), (3, 202), (3, 203), (1, 3), (3, 204)] (by decide +kernel) (by decide +kernel), by decide +kernel, by decide +kernel, by decide +kernel⟩
theorem lc_X6_227 : wk_V RX6 227 yX0_run cX0_run 6 (some .int) 4 := ⟨wc_Bl [(3, 224), (3, 225), (3, 226), (1, 6), (3, 227)] (by decide +kernel) (by decide +kernel), by decide +kernel, by decide +kernel, by decide +kernel⟩
theorem lc_X6_231 : wk_V RX6 231 yX6_stateTold cX6_stateTold 3 (some .int) 2 := ⟨wc_Bl [(4, 63), (4, 65), (12, 15), (1, 1), (4, 66)] (by decide +kernel) (by decide +kernel), by decide +kernel, by decide +kernel, by decide +kernel⟩
theorem lc_X6_254 : wk_V RX6 254 yX2_votesOf cX2_votesOf 4 (some .int) 1 := ⟨wc_Bl [(4, 67), (3, 206), (3, 207), (1, 3), (3, 208)] (by decide +kernel) (by decide +kernel), by decide +kernel, by decide +kernel, by decide +kernel⟩
theorem lc_X6_265 : wk_V RX6 265 yX0_draw cX0_draw 5 none 3 := ⟨wc_Bl [(4, 72), (4, 73), (4, 74), (1, 6), (4, 75)] (by decide +kernel) (by decide +kernel), by decide +kernel, by decide +kernel, by decide +kernel⟩
theorem lc_X6_275 : wk_V RX6 275 yX6_manyAgreed cX6_manyAgreed 7 (some .int) 4 := ⟨wc_Bl [(4, 99), (4, 101), (13, 3), (1, 1), (4, 102)] (by decide +kernel) (by decide +kernel), by decide +kernel, by decide +kernel, by decide +kernel⟩
theorem lc_X6_279 : wk_V RX6 279 yX6_bestAgreed cX6_bestAgreed 9 (some .int) 5 := ⟨wc_Bl [(4, 109), (4, 111), (13, 5), (1, 1), (4, 112)] (by decide +kernel) (by decide +kernel), by decide +kernel, by decide +kernel, by decide +kernel⟩
theorem lc_X6_283 : wk_V RX6 283 yX4_settle cX4_settle 2 none 1 := ⟨wc_Bl [(4, 107), (3, 233), (3, 234), (1, 7), (3, 235)] (by decide +kernel) (by decide +kernel), by decide +kernel, by decide +kernel, by decide +kernel⟩
theorem lc_X6_286 : wk_V RX6 286 yX4_can cX4_can 3 (some .boolean) 1 := ⟨wc_Bl [(4, 108), (4, 12), (4, 13), (1, 7), (4, 14)] (by decide +kernel) (by decide +kernel), by decide +kernel, by decide +kernel, by decide +kernel⟩
theorem lc_X6_289 : wk_V RX6 289 yX6_isAgreed cX6_isAgreed 6 (some .boolean) 5 := ⟨wc_Bl [(4, 103), (4, 105), (13, 4), (1, 1), (4, 106)] (by decide +kernel) (by decide +kernel), by decide +kernel, by decide +kernel, by decide +kernel⟩
theorem lc_X6_330 : wk_V RX6 330 yX2_patience cX2_patience 3 (some .int) 2 := ⟨wc_Bl [(4, 152), (3, 193), (3, 194), (1, 3), (3, 195)] (by decide +kernel) (by decide +kernel), by decide +kernel, by decide +kernel, by decide +kernel⟩
theorem lc_X6_353 : wk_V RX6 353 yX6_firstWrong cX6_firstWrong 5 (some .int) 2 := ⟨wc_Bl [(4, 180), (4, 182), (13, 6), (1, 1), (4, 183)] (by decide +kernel) (by decide +kernel), by decide +kernel, by decide +kernel, by decide +kernel⟩
theorem lc_X6_357 : wk_V RX6 357 yX6_mend cX6_mend 8 (some .int) 2 := ⟨wc_Bl [(4, 186), (4, 188), (13, 7), (1, 1), (4, 189)] (by decide +kernel) (by decide +kernel), by decide +kernel, by decide +kernel, by decide +kernel⟩
theorem lc_X6_360 : wk_V RX6 360 yX3_dayFrom cX3_dayFrom 3 (some .int) 2 := ⟨wc_Bl [(4, 184), (4, 5), (4, 6), (1, 4), (4, 7)] (by decide +kernel) (by decide +kernel), by decide +kernel, by decide +kernel, by decide +kernel⟩
theorem lc_X6_363 : wk_V RX6 363 yX4_bring cX4_bring 4 none 1 := ⟨wc_Bl [(4, 185), (4, 28), (4, 29), (1, 7), (4, 30)] (by decide +kernel) (by decide +kernel), by decide +kernel, by decide +kernel, by decide +kernel⟩
theorem lc_X6_369 : wk_V RX6 369 yX6_findFitting cX6_findFitting 5 (some .int) 2 := ⟨wc_Bl [(4, 194), (4, 196), (13, 8), (1, 1), (4, 197)] (by decide +kernel) (by decide +kernel), by decide +kernel, by decide +kernel, by decide +kernel⟩
theorem lc_X6_372 : wk_V RX6 372 yX6_tellingSeason cX6_tellingSeason 5 (some .int) 2 := ⟨wc_Bl [(4, 212), (4, 214), (13, 9), (1, 1), (4, 215)] (by decide +kernel) (by decide +kernel), by decide +kernel, by decide +kernel, by decide +kernel⟩
theorem lc_X6_375 : wk_V RX6 375 yX6_unlikeProposals cX6_unlikeProposals 7 (some .int) 3 := ⟨wc_Bl [(4, 216), (4, 218), (13, 10), (1, 1), (4, 219)] (by decide +kernel) (by decide +kernel), by decide +kernel, by decide +kernel, by decide +kernel⟩
theorem lc_X6_379 : wk_V RX6 379 yX2_areSeats cX2_areSeats 5 (some .boolean) 1 := ⟨wc_Bl [(4, 198), (4, 199), (4, 200), (1, 3), (4, 201)] (by decide +kernel) (by decide +kernel), by decide +kernel, by decide +kernel, by decide +kernel⟩
theorem lc_X6_386 : wk_V RX6 386 yX2_proposal cX2_proposal 4 (some .int) 2 := ⟨wc_Bl [(4, 206), (4, 207), (4, 208), (1, 3), (4, 209)] (by decide +kernel) (by decide +kernel), by decide +kernel, by decide +kernel, by decide +kernel⟩
theorem ln_X6_7 : wk_N RX6 7 5 [eN, eI 0, eI 0, eI 0, eN, eN, eN] := ⟨RX5, TX5, 7, tyX5, rfl, wc_Bm (1, 25) (by decide +kernel) rfl, wc_Bm (1, 26) (by decide +kernel) rfl, wc_Bm (1, 2) (by decide +kernel) rfl, wuX5, tyX5_ok, rfl, fun G j hj => by rcases (by omega : j = 0 ∨ j = 1 ∨ j = 2 ∨ j = 3 ∨ j = 4 ∨ j = 5 ∨ j = 6) with rfl | rfl | rfl | rfl | rfl | rfl | rfl <;> rfl⟩
theorem ln_X6_20 : wk_N RX6 20 1 [eN, eN, eI 0, eI 0, eN, eN, eI 0, eI 0, eI 0, eI 0, eI 0, eI 0] := ⟨RX1, TX1, 12, tyX1, rfl, wc_Bm (1, 145) (by decide +kernel) rfl, wc_Bm (1, 146) (by decide +kernel) rfl, wc_Bm (1, 5) (by decide +kernel) rfl, wuX1, tyX1_ok, rfl, fun G j hj => by rcases (by omega : j = 0 ∨ j = 1 ∨ j = 2 ∨ j = 3 ∨ j = 4 ∨ j = 5 ∨ j = 6 ∨ j = 7 ∨ j = 8 ∨ j = 9 ∨ j = 10 ∨ j = 11) with rfl | rfl | rfl | rfl | rfl | rfl | rfl | rfl | rfl | rfl | rfl | rfl <;> rfl⟩
theorem ln_X6_27 : wk_N RX6 27 0 [eN, eI 0, eI 0, eI 0, eN, eN, eI 0, eI 0, eI 0, eI 0, eI 0, eI 0, eI 0] := ⟨RX0, TX0, 13, tyX0, rfl, wc_Bm (1, 196) (by decide +kernel) rfl, wc_Bm (1, 197) (by decide +kernel) rfl, wc_Bm (1, 6) (by decide +kernel) rfl, wuX0, tyX0_ok, rfl, fun G j hj => by rcases (by omega : j = 0 ∨ j = 1 ∨ j = 2 ∨ j = 3 ∨ j = 4 ∨ j = 5 ∨ j = 6 ∨ j = 7 ∨ j = 8 ∨ j = 9 ∨ j = 10 ∨ j = 11 ∨ j = 12) with rfl | rfl | rfl | rfl | rfl | rfl | rfl | rfl | rfl | rfl | rfl | rfl | rfl <;> rfl⟩
theorem ln_X6_34 : wk_N RX6 34 4 [eI 0, eI 0, eI 0] := ⟨RX4, TX4, 3, tyX4, rfl, wc_Bm (2, 33) (by decide +kernel) rfl, wc_Bm (1, 203) (by decide +kernel) rfl, wc_Bm (1, 7) (by decide +kernel) rfl, wuX4, tyX4_ok, rfl, fun G j hj => by rcases (by omega : j = 0 ∨ j = 1 ∨ j = 2) with rfl | rfl | rfl <;> rfl⟩
theorem lp_X6_10 : wc_fpt RX6 10 6 0 true (.object "WindCabinet$Told") := ⟨RX6, TX6, 8, tyX6, rfl, by decide, wc_Bm (2, 35) (by decide +kernel) rfl, wuX6, tyX6_ok, nmX6, rfl, by decide +kernel, rfl⟩
theorem lp_X6_16 : wc_fpt RX6 16 6 1 true (.array (.object "WindCabinet$Told")) := ⟨RX6, TX6, 8, tyX6, rfl, by decide, wc_Bm (2, 36) (by decide +kernel) rfl, wuX6, tyX6_ok, nmX6, rfl, by decide +kernel, rfl⟩
theorem lp_X6_23 : wc_fpt RX6 23 6 2 true (.object "WindCabinet$Reader") := ⟨RX6, TX6, 8, tyX6, rfl, by decide, wc_Bm (2, 37) (by decide +kernel) rfl, wuX6, tyX6_ok, nmX6, rfl, by decide +kernel, rfl⟩
theorem lp_X6_30 : wc_fpt RX6 30 6 3 true (.object "WindCabinet$Course") := ⟨RX6, TX6, 8, tyX6, rfl, by decide, wc_Bm (2, 38) (by decide +kernel) rfl, wuX6, tyX6_ok, nmX6, rfl, by decide +kernel, rfl⟩
theorem lp_X6_37 : wc_fpt RX6 37 6 4 true (.object "WindCabinet$Sky") := ⟨RX6, TX6, 8, tyX6, rfl, by decide, wc_Bm (2, 39) (by decide +kernel) rfl, wuX6, tyX6_ok, nmX6, rfl, by decide +kernel, rfl⟩
theorem lp_X6_41 : wc_fpt RX6 41 6 5 true (.array .int) := ⟨RX6, TX6, 8, tyX6, rfl, by decide, wc_Bm (2, 40) (by decide +kernel) rfl, wuX6, tyX6_ok, nmX6, rfl, by decide +kernel, rfl⟩
theorem lp_X6_45 : wc_fpt RX6 45 6 6 true (.array .int) := ⟨RX6, TX6, 8, tyX6, rfl, by decide, wc_Bm (2, 41) (by decide +kernel) rfl, wuX6, tyX6_ok, nmX6, rfl, by decide +kernel, rfl⟩
theorem lp_X6_48 : wc_fpt RX6 48 6 7 true (.array .int) := ⟨RX6, TX6, 8, tyX6, rfl, by decide, wc_Bm (2, 42) (by decide +kernel) rfl, wuX6, tyX6_ok, nmX6, rfl, by decide +kernel, rfl⟩
theorem lp_X6_51 : wc_fpt RX6 51 5 1 false .int := ⟨RX5, TX5, 7, tyX5, rfl, by decide, wc_Bm (1, 119) (by decide +kernel) rfl, wuX5, tyX5_ok, nmX5, rfl, by decide +kernel, rfl⟩
theorem lp_X6_70 : wc_fpt RX6 70 5 2 false .int := ⟨RX5, TX5, 7, tyX5, rfl, by decide, wc_Bm (1, 122) (by decide +kernel) rfl, wuX5, tyX5_ok, nmX5, rfl, by decide +kernel, rfl⟩
theorem lp_X6_73 : wc_fpt RX6 73 5 3 false .int := ⟨RX5, TX5, 7, tyX5, rfl, by decide, wc_Bm (1, 124) (by decide +kernel) rfl, wuX5, tyX5_ok, nmX5, rfl, by decide +kernel, rfl⟩
theorem lf_X7_7 : wc_fld RX7 7 7 0 := ⟨RX7, TX7, 35, rfl, by decide, wc_Bm (5, 16) (by decide +kernel) rfl, wuX7⟩
theorem lf_X7_13 : wc_fld RX7 13 7 1 := ⟨RX7, TX7, 35, rfl, by decide, wc_Bm (5, 17) (by decide +kernel) rfl, wuX7⟩
theorem lf_X7_17 : wc_fld RX7 17 7 10 := ⟨RX7, TX7, 35, rfl, by decide, wc_Bm (5, 26) (by decide +kernel) rfl, wuX7⟩
theorem lf_X7_20 : wc_fld RX7 20 7 27 := ⟨RX7, TX7, 35, rfl, by decide, wc_Bm (5, 43) (by decide +kernel) rfl, wuX7⟩
theorem lf_X7_23 : wc_fld RX7 23 7 28 := ⟨RX7, TX7, 35, rfl, by decide, wc_Bm (5, 44) (by decide +kernel) rfl, wuX7⟩
theorem lf_X7_26 : wc_fld RX7 26 7 31 := ⟨RX7, TX7, 35, rfl, by decide, wc_Bm (5, 47) (by decide +kernel) rfl, wuX7⟩
theorem lf_X7_29 : wc_fld RX7 29 7 32 := ⟨RX7, TX7, 35, rfl, by decide, wc_Bm (5, 48) (by decide +kernel) rfl, wuX7⟩
theorem lf_X7_32 : wc_fld RX7 32 7 2 := ⟨RX7, TX7, 35, rfl, by decide, wc_Bm (5, 18) (by decide +kernel) rfl, wuX7⟩
theorem lf_X7_53 : wc_fld RX7 53 7 3 := ⟨RX7, TX7, 35, rfl, by decide, wc_Bm (5, 19) (by decide +kernel) rfl, wuX7⟩
theorem lf_X7_60 : wc_fld RX7 60 7 4 := ⟨RX7, TX7, 35, rfl, by decide, wc_Bm (5, 20) (by decide +kernel) rfl, wuX7⟩
theorem lf_X7_63 : wc_fld RX7 63 7 5 := ⟨RX7, TX7, 35, rfl, by decide, wc_Bm (5, 21) (by decide +kernel) rfl, wuX7⟩
theorem lf_X7_77 : wc_fld RX7 77 7 7 := ⟨RX7, TX7, 35, rfl, by decide, wc_Bm (5, 23) (by decide +kernel) rfl, wuX7⟩
theorem lf_X7_83 : wc_fld RX7 83 7 6 := ⟨RX7, TX7, 35, rfl, by decide, wc_Bm (5, 22) (by decide +kernel) rfl, wuX7⟩
theorem lf_X7_86 : wc_fld RX7 86 7 8 := ⟨RX7, TX7, 35, rfl, by decide, wc_Bm (5, 24) (by decide +kernel) rfl, wuX7⟩
theorem lf_X7_111 : wc_fld RX7 111 7 9 := ⟨RX7, TX7, 35, rfl, by decide, wc_Bm (5, 25) (by decide +kernel) rfl, wuX7⟩
theorem lf_X7_175 : wc_fld RX7 175 7 11 := ⟨RX7, TX7, 35, rfl, by decide, wc_Bm (5, 27) (by decide +kernel) rfl, wuX7⟩
theorem lf_X7_196 : wc_fld RX7 196 7 12 := ⟨RX7, TX7, 35, rfl, by decide, wc_Bm (5, 28) (by decide +kernel) rfl, wuX7⟩
theorem lf_X7_199 : wc_fld RX7 199 7 13 := ⟨RX7, TX7, 35, rfl, by decide, wc_Bm (5, 29) (by decide +kernel) rfl, wuX7⟩
theorem lf_X7_202 : wc_fld RX7 202 7 14 := ⟨RX7, TX7, 35, rfl, by decide, wc_Bm (5, 30) (by decide +kernel) rfl, wuX7⟩
theorem lf_X7_205 : wc_fld RX7 205 7 16 := ⟨RX7, TX7, 35, rfl, by decide, wc_Bm (5, 32) (by decide +kernel) rfl, wuX7⟩
theorem lf_X7_214 : wc_fld RX7 214 7 15 := ⟨RX7, TX7, 35, rfl, by decide, wc_Bm (5, 31) (by decide +kernel) rfl, wuX7⟩
theorem lf_X7_226 : wc_fld RX7 226 7 18 := ⟨RX7, TX7, 35, rfl, by decide, wc_Bm (5, 34) (by decide +kernel) rfl, wuX7⟩
theorem lf_X7_251 : wc_fld RX7 251 7 17 := ⟨RX7, TX7, 35, rfl, by decide, wc_Bm (5, 33) (by decide +kernel) rfl, wuX7⟩
theorem lf_X7_272 : wc_fld RX7 272 7 19 := ⟨RX7, TX7, 35, rfl, by decide, wc_Bm (5, 35) (by decide +kernel) rfl, wuX7⟩
theorem lf_X7_275 : wc_fld RX7 275 7 20 := ⟨RX7, TX7, 35, rfl, by decide, wc_Bm (5, 36) (by decide +kernel) rfl, wuX7⟩
theorem lf_X7_278 : wc_fld RX7 278 7 21 := ⟨RX7, TX7, 35, rfl, by decide, wc_Bm (5, 37) (by decide +kernel) rfl, wuX7⟩
theorem lf_X7_281 : wc_fld RX7 281 7 22 := ⟨RX7, TX7, 35, rfl, by decide, wc_Bm (5, 38) (by decide +kernel) rfl, wuX7⟩
theorem lf_X7_284 : wc_fld RX7 284 7 23 := ⟨RX7, TX7, 35, rfl, by decide, wc_Bm (5, 39) (by decide +kernel) rfl, wuX7⟩
theorem lf_X7_287 : wc_fld RX7 287 7 24 := ⟨RX7, TX7, 35, rfl, by decide, wc_Bm (5, 40) (by decide +kernel) rfl, wuX7⟩
theorem lf_X7_290 : wc_fld RX7 290 7 25 := ⟨RX7, TX7, 35, rfl, by decide, wc_Bm (5, 41) (by decide +kernel) rfl, wuX7⟩
theorem lf_X7_293 : wc_fld RX7 293 7 26 := ⟨RX7, TX7, 35, rfl, by decide, wc_Bm (5, 42) (by decide +kernel) rfl, wuX7⟩
theorem lf_X7_305 : wc_fld RX7 305 7 29 := ⟨RX7, TX7, 35, rfl, by decide, wc_Bm (5, 45) (by decide +kernel) rfl, wuX7⟩
theorem lf_X7_381 : wc_fld RX7 381 7 30 := ⟨RX7, TX7, 35, rfl, by decide, wc_Bm (5, 46) (by decide +kernel) rfl, wuX7⟩
theorem lf_X7_426 : wc_fld RX7 426 7 33 := ⟨RX7, TX7, 35, rfl, by decide, wc_Bm (5, 49) (by decide +kernel) rfl, wuX7⟩
theorem lf_X7_444 : wc_fld RX7 444 7 34 := ⟨RX7, TX7, 35, rfl, by decide, wc_Bm (5, 50) (by decide +kernel) rfl, wuX7⟩
theorem lo_X7_1 : ∀ w ∈ [Cond.methodLink RX7 1 objectInit, .instanceMethod objectInit, .code objectInit ⟨#[0xb1]⟩ 1 none], w ∈ wc_B := wc_Bl [(5, 15), (1, 23), (1, 24)] (by decide +kernel) (by decide +kernel)
theorem lc_X7_36 : wk_S RX7 36 yX7_four cX7_four 4 (some .long) 4 := ⟨wc_Bl [(5, 165), (5, 166), (1, 8), (5, 167)] (by decide +kernel) (by decide +kernel), by decide +kernel, by decide +kernel, by decide +kernel⟩
theorem lc_X7_42 : wk_S RX7 42 yX7_eight cX7_eight 8 (some .long) 8 := ⟨wc_Bl [(5, 162), (5, 163), (1, 8), (5, 164)] (by decide +kernel) (by decide +kernel), by decide +kernel, by decide +kernel, by decide +kernel⟩
theorem lc_X7_46 : wk_S RX7 46 yX7_kindOrSeason cX7_kindOrSeason 2 (some .int) 1 := ⟨wc_Bl [(5, 169), (5, 170), (1, 8), (5, 171)] (by decide +kernel) (by decide +kernel), by decide +kernel, by decide +kernel, by decide +kernel⟩
theorem lc_X7_50 : wk_S RX7 50 yX7_otherWord cX7_otherWord 2 (some .int) 1 := ⟨wc_Bl [(5, 172), (5, 173), (1, 8), (5, 174)] (by decide +kernel) (by decide +kernel), by decide +kernel, by decide +kernel, by decide +kernel⟩
theorem lc_X7_66 : wk_S RX7 66 yX7_isLetter cX7_isLetter 1 (some .boolean) 1 := ⟨wc_Bl [(5, 154), (5, 155), (1, 8), (5, 156)] (by decide +kernel) (by decide +kernel), by decide +kernel, by decide +kernel, by decide +kernel⟩
theorem lc_X7_74 : wk_S RX7 74 yX7_wordOf cX7_wordOf 2 (some .int) 1 := ⟨wc_Bl [(5, 159), (5, 160), (1, 8), (5, 161)] (by decide +kernel) (by decide +kernel), by decide +kernel, by decide +kernel, by decide +kernel⟩
theorem lc_X7_80 : wk_S RX7 80 yX7_isDigit cX7_isDigit 1 (some .boolean) 1 := ⟨wc_Bl [(5, 175), (5, 176), (1, 8), (5, 177)] (by decide +kernel) (by decide +kernel), by decide +kernel, by decide +kernel, by decide +kernel⟩
theorem lc_X7_93 : wk_S RX7 93 yX7_isIn cX7_isIn 3 (some .boolean) 3 := ⟨wc_Bl [(5, 135), (5, 136), (1, 8), (5, 137)] (by decide +kernel) (by decide +kernel), by decide +kernel, by decide +kernel, by decide +kernel⟩
theorem lc_X7_169 : wk_S RX7 169 yX7_sizeOf cX7_sizeOf 1 (some .int) 1 := ⟨wc_Bl [(6, 14), (6, 15), (1, 8), (6, 16)] (by decide +kernel) (by decide +kernel), by decide +kernel, by decide +kernel, by decide +kernel⟩
theorem lc_X7_172 : wk_S RX7 172 yX7_placeOf cX7_placeOf 2 (some .int) 2 := ⟨wc_Bl [(6, 17), (6, 18), (1, 8), (6, 19)] (by decide +kernel) (by decide +kernel), by decide +kernel, by decide +kernel, by decide +kernel⟩
theorem lc_X7_212 : wk_S RX7 212 yX7_size cX7_size 1 (some .int) 1 := ⟨wc_Bl [(6, 79), (6, 80), (1, 8), (6, 81)] (by decide +kernel) (by decide +kernel), by decide +kernel, by decide +kernel, by decide +kernel⟩
theorem lc_X7_235 : wk_S RX7 235 yX7_areAmounts cX7_areAmounts 3 (some .boolean) 3 := ⟨wc_Bl [(6, 64), (6, 65), (1, 8), (6, 66)] (by decide +kernel) (by decide +kernel), by decide +kernel, by decide +kernel, by decide +kernel⟩
theorem lc_X7_263 : wk_S RX7 263 yX7_amountOf cX7_amountOf 2 (some .int) 2 := ⟨wc_Bl [(6, 138), (6, 139), (1, 8), (6, 140)] (by decide +kernel) (by decide +kernel), by decide +kernel, by decide +kernel, by decide +kernel⟩
theorem lc_X7_340 : wk_S RX7 340 yX7_rank cX7_rank 5 (some .int) 2 := ⟨wc_Bl [(6, 209), (6, 210), (1, 8), (6, 211)] (by decide +kernel) (by decide +kernel), by decide +kernel, by decide +kernel, by decide +kernel⟩
theorem lc_X7_344 : wk_S RX7 344 yX7_common cX7_common 5 (some .int) 2 := ⟨wc_Bl [(6, 233), (6, 234), (1, 8), (6, 235)] (by decide +kernel) (by decide +kernel), by decide +kernel, by decide +kernel, by decide +kernel⟩
theorem lc_X7_353 : wk_S RX7 353 yX7_bits cX7_bits 3 (some .int) 1 := ⟨wc_Bl [(6, 224), (6, 225), (1, 8), (6, 226)] (by decide +kernel) (by decide +kernel), by decide +kernel, by decide +kernel, by decide +kernel⟩
theorem lc_X7_356 : wk_S RX7 356 yX7_factorial cX7_factorial 3 (some .int) 1 := ⟨wc_Bl [(6, 227), (6, 228), (1, 8), (6, 229)] (by decide +kernel) (by decide +kernel), by decide +kernel, by decide +kernel, by decide +kernel⟩
theorem lc_X7_359 : wk_S RX7 359 yX7_part cX7_part 3 (some .int) 3 := ⟨wc_Bl [(6, 230), (6, 231), (1, 8), (6, 232)] (by decide +kernel) (by decide +kernel), by decide +kernel, by decide +kernel, by decide +kernel⟩
theorem lc_X7_56 : wk_V RX7 56 yX7_byteAt cX7_byteAt 2 (some .int) 1 := ⟨wc_Bl [(5, 150), (5, 152), (13, 14), (1, 8), (5, 153)] (by decide +kernel) (by decide +kernel), by decide +kernel, by decide +kernel, by decide +kernel⟩
theorem lc_X7_90 : wk_V RX7 90 yX7_ends cX7_ends 1 none 0 := ⟨wc_Bl [(5, 186), (5, 188), (14, 1), (1, 8), (5, 189)] (by decide +kernel) (by decide +kernel), by decide +kernel, by decide +kernel, by decide +kernel⟩
theorem lc_X7_97 : wk_V RX7 97 yX7_also cX7_also 3 none 2 := ⟨wc_Bl [(5, 194), (5, 196), (14, 3), (1, 8), (5, 197)] (by decide +kernel) (by decide +kernel), by decide +kernel, by decide +kernel, by decide +kernel⟩
theorem lc_X7_101 : wk_V RX7 101 yX7_advance cX7_advance 4 none 0 := ⟨wc_Bl [(5, 146), (5, 148), (13, 13), (1, 8), (5, 149)] (by decide +kernel) (by decide +kernel), by decide +kernel, by decide +kernel, by decide +kernel⟩
theorem lc_X7_104 : wk_V RX7 104 yX7_takes cX7_takes 4 (some .int) 2 := ⟨wc_Bl [(5, 182), (5, 184), (14, 0), (1, 8), (5, 185)] (by decide +kernel) (by decide +kernel), by decide +kernel, by decide +kernel, by decide +kernel⟩
theorem lc_X7_108 : wk_V RX7 108 yX7_numbered cX7_numbered 4 (some .int) 2 := ⟨wc_Bl [(5, 198), (5, 200), (14, 4), (1, 8), (5, 201)] (by decide +kernel) (by decide +kernel), by decide +kernel, by decide +kernel, by decide +kernel⟩
theorem lc_X7_114 : wk_V RX7 114 yX7_ministerTold cX7_ministerTold 2 (some .int) 0 := ⟨wc_Bl [(5, 206), (5, 208), (14, 6), (1, 8), (5, 209)] (by decide +kernel) (by decide +kernel), by decide +kernel, by decide +kernel, by decide +kernel⟩
theorem lc_X7_118 : wk_V RX7 118 yX7_seasonTold cX7_seasonTold 1 (some .int) 0 := ⟨wc_Bl [(5, 210), (5, 212), (14, 7), (1, 8), (5, 213)] (by decide +kernel) (by decide +kernel), by decide +kernel, by decide +kernel, by decide +kernel⟩
theorem lc_X7_121 : wk_V RX7 121 yX7_ministerLine cX7_ministerLine 8 none 1 := ⟨wc_Bl [(5, 190), (5, 192), (14, 2), (1, 8), (5, 193)] (by decide +kernel) (by decide +kernel), by decide +kernel, by decide +kernel, by decide +kernel⟩
theorem lc_X7_125 : wk_V RX7 125 yX7_wantLine cX7_wantLine 5 none 0 := ⟨wc_Bl [(5, 202), (5, 204), (14, 5), (1, 8), (5, 205)] (by decide +kernel) (by decide +kernel), by decide +kernel, by decide +kernel, by decide +kernel⟩
theorem lc_X7_128 : wk_V RX7 128 yX7_feudLine cX7_feudLine 3 none 0 := ⟨wc_Bl [(5, 214), (5, 216), (14, 8), (1, 8), (5, 217)] (by decide +kernel) (by decide +kernel), by decide +kernel, by decide +kernel, by decide +kernel⟩
theorem lc_X7_131 : wk_V RX7 131 yX7_kindTold cX7_kindTold 1 (some .int) 0 := ⟨wc_Bl [(5, 218), (5, 220), (14, 9), (1, 8), (5, 221)] (by decide +kernel) (by decide +kernel), by decide +kernel, by decide +kernel, by decide +kernel⟩
theorem lc_X7_134 : wk_V RX7 134 yX7_endsLine cX7_endsLine 1 none 0 := ⟨wc_Bl [(5, 222), (5, 224), (14, 10), (1, 8), (5, 225)] (by decide +kernel) (by decide +kernel), by decide +kernel, by decide +kernel, by decide +kernel⟩
theorem lc_X7_137 : wk_V RX7 137 yX7_adds cX7_adds 8 none 6 := ⟨wc_Bl [(5, 234), (5, 236), (14, 13), (1, 8), (5, 237)] (by decide +kernel) (by decide +kernel), by decide +kernel, by decide +kernel, by decide +kernel⟩
theorem lc_X7_141 : wk_V RX7 141 yX7_noLine cX7_noLine 5 none 0 := ⟨wc_Bl [(5, 230), (5, 232), (14, 12), (1, 8), (5, 233)] (by decide +kernel) (by decide +kernel), by decide +kernel, by decide +kernel, by decide +kernel⟩
theorem lc_X7_144 : wk_V RX7 144 yX7_isOf cX7_isOf 3 (some .boolean) 2 := ⟨wc_Bl [(5, 138), (5, 140), (13, 11), (1, 8), (5, 141)] (by decide +kernel) (by decide +kernel), by decide +kernel, by decide +kernel, by decide +kernel⟩
theorem lc_X7_148 : wk_V RX7 148 yX7_clears cX7_clears 3 none 1 := ⟨wc_Bl [(5, 142), (5, 144), (13, 12), (1, 8), (5, 145)] (by decide +kernel) (by decide +kernel), by decide +kernel, by decide +kernel, by decide +kernel⟩
theorem lc_X7_151 : wk_V RX7 151 yX7_republicLine cX7_republicLine 5 none 0 := ⟨wc_Bl [(5, 178), (5, 180), (13, 15), (1, 8), (5, 181)] (by decide +kernel) (by decide +kernel), by decide +kernel, by decide +kernel, by decide +kernel⟩
theorem lc_X7_154 : wk_V RX7 154 yX7_orderLine cX7_orderLine 7 none 0 := ⟨wc_Bl [(5, 226), (5, 228), (14, 11), (1, 8), (5, 229)] (by decide +kernel) (by decide +kernel), by decide +kernel, by decide +kernel, by decide +kernel⟩
theorem lc_X7_157 : wk_V RX7 157 yX7_yearLine cX7_yearLine 6 none 0 := ⟨wc_Bl [(5, 238), (6, 0), (14, 14), (1, 8), (6, 1)] (by decide +kernel) (by decide +kernel), by decide +kernel, by decide +kernel, by decide +kernel⟩
theorem lc_X7_160 : wk_V RX7 160 yX7_leakLine cX7_leakLine 4 none 0 := ⟨wc_Bl [(6, 2), (6, 4), (14, 15), (1, 8), (6, 5)] (by decide +kernel) (by decide +kernel), by decide +kernel, by decide +kernel, by decide +kernel⟩
theorem lc_X7_163 : wk_V RX7 163 yX7_summerLine cX7_summerLine 7 none 0 := ⟨wc_Bl [(6, 6), (6, 8), (15, 0), (1, 8), (6, 9)] (by decide +kernel) (by decide +kernel), by decide +kernel, by decide +kernel, by decide +kernel⟩
theorem lc_X7_166 : wk_V RX7 166 yX7_bargainLine cX7_bargainLine 3 none 0 := ⟨wc_Bl [(6, 10), (6, 12), (15, 1), (1, 8), (6, 13)] (by decide +kernel) (by decide +kernel), by decide +kernel, by decide +kernel, by decide +kernel⟩
theorem lc_X7_178 : wk_V RX7 178 yX7_begins cX7_begins 2 none 0 := ⟨wc_Bl [(6, 32), (6, 34), (15, 3), (1, 8), (6, 35)] (by decide +kernel) (by decide +kernel), by decide +kernel, by decide +kernel, by decide +kernel⟩
theorem lc_X7_181 : wk_V RX7 181 yX7_of cX7_of 2 (some .int) 1 := ⟨wc_Bl [(6, 40), (6, 42), (15, 5), (1, 8), (6, 43)] (by decide +kernel) (by decide +kernel), by decide +kernel, by decide +kernel, by decide +kernel⟩
theorem lc_X7_184 : wk_V RX7 184 yX7_ministers cX7_ministers 1 (some .int) 0 := ⟨wc_Bl [(6, 36), (6, 38), (15, 4), (1, 8), (6, 39)] (by decide +kernel) (by decide +kernel), by decide +kernel, by decide +kernel, by decide +kernel⟩
theorem lc_X7_187 : wk_V RX7 187 yX7_ofMinister cX7_ofMinister 3 (some .int) 2 := ⟨wc_Bl [(6, 52), (6, 54), (15, 7), (1, 8), (6, 55)] (by decide +kernel) (by decide +kernel), by decide +kernel, by decide +kernel, by decide +kernel⟩
theorem lc_X7_190 : wk_V RX7 190 yX7_isRepublic cX7_isRepublic 2 (some .boolean) 1 := ⟨wc_Bl [(6, 28), (6, 30), (15, 2), (1, 8), (6, 31)] (by decide +kernel) (by decide +kernel), by decide +kernel, by decide +kernel, by decide +kernel⟩
theorem lc_X7_193 : wk_V RX7 193 yX7_isMinister cX7_isMinister 2 (some .boolean) 1 := ⟨wc_Bl [(6, 48), (6, 50), (15, 6), (1, 8), (6, 51)] (by decide +kernel) (by decide +kernel), by decide +kernel, by decide +kernel, by decide +kernel⟩
theorem lc_X7_208 : wk_V RX7 208 yX7_wants cX7_wants 4 (some .int) 3 := ⟨wc_Bl [(6, 75), (6, 77), (15, 11), (1, 8), (6, 78)] (by decide +kernel) (by decide +kernel), by decide +kernel, by decide +kernel, by decide +kernel⟩
theorem lc_X7_217 : wk_V RX7 217 yX7_offOf cX7_offOf 2 (some .int) 1 := ⟨wc_Bl [(6, 71), (6, 73), (15, 10), (1, 8), (6, 74)] (by decide +kernel) (by decide +kernel), by decide +kernel, by decide +kernel, by decide +kernel⟩
theorem lc_X7_220 : wk_V RX7 220 yX7_yields cX7_yields 2 (some .int) 1 := ⟨wc_Bl [(6, 94), (6, 96), (15, 14), (1, 8), (6, 97)] (by decide +kernel) (by decide +kernel), by decide +kernel, by decide +kernel, by decide +kernel⟩
theorem lc_X7_223 : wk_V RX7 223 yX7_agrees cX7_agrees 2 (some .boolean) 1 := ⟨wc_Bl [(6, 90), (6, 92), (15, 13), (1, 8), (6, 93)] (by decide +kernel) (by decide +kernel), by decide +kernel, by decide +kernel, by decide +kernel⟩
theorem lc_X7_229 : wk_V RX7 229 yX7_votesOf cX7_votesOf 4 (some .int) 1 := ⟨wc_Bl [(6, 102), (6, 104), (16, 0), (1, 8), (6, 105)] (by decide +kernel) (by decide +kernel), by decide +kernel, by decide +kernel, by decide +kernel⟩
theorem lc_X7_232 : wk_V RX7 232 yX7_vetoes cX7_vetoes 3 (some .int) 0 := ⟨wc_Bl [(6, 106), (6, 108), (16, 1), (1, 8), (6, 109)] (by decide +kernel) (by decide +kernel), by decide +kernel, by decide +kernel, by decide +kernel⟩
theorem lc_X7_238 : wk_V RX7 238 yX7_talksOf cX7_talksOf 2 none 1 := ⟨wc_Bl [(6, 67), (6, 69), (15, 9), (1, 8), (6, 70)] (by decide +kernel) (by decide +kernel), by decide +kernel, by decide +kernel, by decide +kernel⟩
theorem lc_X7_241 : wk_V RX7 241 yX7_isMotion cX7_isMotion 7 (some .boolean) 6 := ⟨wc_Bl [(6, 60), (6, 62), (15, 8), (1, 8), (6, 63)] (by decide +kernel) (by decide +kernel), by decide +kernel, by decide +kernel, by decide +kernel⟩
theorem lc_X7_245 : wk_V RX7 245 yX7_agreeing cX7_agreeing 3 (some .int) 0 := ⟨wc_Bl [(6, 86), (6, 88), (15, 12), (1, 8), (6, 89)] (by decide +kernel) (by decide +kernel), by decide +kernel, by decide +kernel, by decide +kernel⟩
theorem lc_X7_248 : wk_V RX7 248 yX7_isPassed cX7_isPassed 2 (some .boolean) 1 := ⟨wc_Bl [(6, 98), (6, 100), (15, 15), (1, 8), (6, 101)] (by decide +kernel) (by decide +kernel), by decide +kernel, by decide +kernel, by decide +kernel⟩
theorem lc_X7_254 : wk_V RX7 254 yX7_areOrders cX7_areOrders 2 (some .boolean) 1 := ⟨wc_Bl [(6, 114), (6, 116), (16, 2), (1, 8), (6, 117)] (by decide +kernel) (by decide +kernel), by decide +kernel, by decide +kernel, by decide +kernel⟩
theorem lc_X7_257 : wk_V RX7 257 yX7_orderOf cX7_orderOf 3 (some .int) 2 := ⟨wc_Bl [(6, 118), (6, 120), (16, 3), (1, 8), (6, 121)] (by decide +kernel) (by decide +kernel), by decide +kernel, by decide +kernel, by decide +kernel⟩
theorem lc_X7_260 : wk_V RX7 260 yX7_amount cX7_amount 2 (some .int) 1 := ⟨wc_Bl [(6, 134), (6, 136), (16, 6), (1, 8), (6, 137)] (by decide +kernel) (by decide +kernel), by decide +kernel, by decide +kernel, by decide +kernel⟩
theorem lc_X7_266 : wk_V RX7 266 yX7_isBroken cX7_isBroken 5 (some .boolean) 2 := ⟨wc_Bl [(6, 130), (6, 132), (16, 5), (1, 8), (6, 133)] (by decide +kernel) (by decide +kernel), by decide +kernel, by decide +kernel, by decide +kernel⟩
theorem lc_X7_269 : wk_V RX7 269 yX7_firstBroken cX7_firstBroken 3 (some .int) 1 := ⟨wc_Bl [(6, 126), (6, 128), (16, 4), (1, 8), (6, 129)] (by decide +kernel) (by decide +kernel), by decide +kernel, by decide +kernel, by decide +kernel⟩
theorem lc_X7_296 : wk_V RX7 296 yX7_goes cX7_goes 2 none 0 := ⟨wc_Bl [(6, 189), (6, 191), (17, 1), (1, 8), (6, 192)] (by decide +kernel) (by decide +kernel), by decide +kernel, by decide +kernel, by decide +kernel⟩
theorem lc_X7_299 : wk_V RX7 299 yX7_committee cX7_committee 1 none 0 := ⟨wc_Bl [(6, 185), (6, 187), (17, 0), (1, 8), (6, 188)] (by decide +kernel) (by decide +kernel), by decide +kernel, by decide +kernel, by decide +kernel⟩
theorem lc_X7_302 : wk_V RX7 302 yX7_angers cX7_angers 3 none 1 := ⟨wc_Bl [(6, 193), (6, 195), (17, 2), (1, 8), (6, 196)] (by decide +kernel) (by decide +kernel), by decide +kernel, by decide +kernel, by decide +kernel⟩
theorem lc_X7_308 : wk_V RX7 308 yX7_deeds cX7_deeds 1 (some .int) 0 := ⟨wc_Bl [(6, 145), (6, 147), (16, 7), (1, 8), (6, 148)] (by decide +kernel) (by decide +kernel), by decide +kernel, by decide +kernel, by decide +kernel⟩
theorem lc_X7_311 : wk_V RX7 311 yX7_deedOf cX7_deedOf 3 (some .int) 2 := ⟨wc_Bl [(6, 149), (6, 151), (16, 8), (1, 8), (6, 152)] (by decide +kernel) (by decide +kernel), by decide +kernel, by decide +kernel, by decide +kernel⟩
theorem lc_X7_314 : wk_V RX7 314 yX7_isThere cX7_isThere 2 (some .boolean) 1 := ⟨wc_Bl [(6, 169), (6, 171), (16, 12), (1, 8), (6, 172)] (by decide +kernel) (by decide +kernel), by decide +kernel, by decide +kernel, by decide +kernel⟩
theorem lc_X7_317 : wk_V RX7 317 yX7_canNature cX7_canNature 1 (some .boolean) 0 := ⟨wc_Bl [(6, 173), (6, 175), (16, 13), (1, 8), (6, 176)] (by decide +kernel) (by decide +kernel), by decide +kernel, by decide +kernel, by decide +kernel⟩
theorem lc_X7_321 : wk_V RX7 321 yX7_moves cX7_moves 2 none 0 := ⟨wc_Bl [(6, 181), (6, 183), (16, 15), (1, 8), (6, 184)] (by decide +kernel) (by decide +kernel), by decide +kernel, by decide +kernel, by decide +kernel⟩
theorem lc_X7_324 : wk_V RX7 324 yX7_can cX7_can 3 (some .boolean) 1 := ⟨wc_Bl [(6, 165), (6, 167), (16, 11), (1, 8), (6, 168)] (by decide +kernel) (by decide +kernel), by decide +kernel, by decide +kernel, by decide +kernel⟩
theorem lc_X7_327 : wk_V RX7 327 yX7_does cX7_does 3 none 1 := ⟨wc_Bl [(6, 177), (6, 179), (16, 14), (1, 8), (6, 180)] (by decide +kernel) (by decide +kernel), by decide +kernel, by decide +kernel, by decide +kernel⟩
theorem lc_X7_330 : wk_V RX7 330 yX7_areTold cX7_areTold 4 (some .boolean) 3 := ⟨wc_Bl [(6, 157), (6, 159), (16, 9), (1, 8), (6, 160)] (by decide +kernel) (by decide +kernel), by decide +kernel, by decide +kernel, by decide +kernel⟩
theorem lc_X7_333 : wk_V RX7 333 yX7_runs cX7_runs 2 none 1 := ⟨wc_Bl [(6, 161), (6, 163), (16, 10), (1, 8), (6, 164)] (by decide +kernel) (by decide +kernel), by decide +kernel, by decide +kernel, by decide +kernel⟩
theorem lc_X7_336 : wk_V RX7 336 yX7_isAgreed cX7_isAgreed 3 (some .boolean) 2 := ⟨wc_Bl [(6, 205), (6, 207), (17, 3), (1, 8), (6, 208)] (by decide +kernel) (by decide +kernel), by decide +kernel, by decide +kernel, by decide +kernel⟩
theorem lc_X7_347 : wk_V RX7 347 yX7_everybody cX7_everybody 1 (some .int) 0 := ⟨wc_Bl [(6, 216), (6, 218), (17, 4), (1, 8), (6, 219)] (by decide +kernel) (by decide +kernel), by decide +kernel, by decide +kernel, by decide +kernel⟩
theorem lc_X7_350 : wk_V RX7 350 yX7_isEnough cX7_isEnough 2 (some .boolean) 1 := ⟨wc_Bl [(6, 220), (6, 222), (17, 5), (1, 8), (6, 223)] (by decide +kernel) (by decide +kernel), by decide +kernel, by decide +kernel, by decide +kernel⟩
theorem lc_X7_363 : wk_V RX7 363 yX7_key cX7_key 3 (some .int) 0 := ⟨wc_Bl [(7, 0), (7, 2), (17, 6), (1, 8), (7, 3)] (by decide +kernel) (by decide +kernel), by decide +kernel, by decide +kernel, by decide +kernel⟩
theorem lc_X7_366 : wk_V RX7 366 yX7_isLeast cX7_isLeast 4 (some .boolean) 1 := ⟨wc_Bl [(7, 4), (7, 6), (17, 7), (1, 8), (7, 7)] (by decide +kernel) (by decide +kernel), by decide +kernel, by decide +kernel, by decide +kernel⟩
theorem lc_X7_369 : wk_V RX7 369 yX7_costOf cX7_costOf 4 (some .int) 1 := ⟨wc_Bl [(7, 12), (7, 14), (17, 8), (1, 8), (7, 15)] (by decide +kernel) (by decide +kernel), by decide +kernel, by decide +kernel, by decide +kernel⟩
theorem lc_X7_372 : wk_V RX7 372 yX7_priceOf cX7_priceOf 2 (some .int) 1 := ⟨wc_Bl [(7, 28), (7, 30), (17, 11), (1, 8), (7, 31)] (by decide +kernel) (by decide +kernel), by decide +kernel, by decide +kernel, by decide +kernel⟩
theorem lc_X7_375 : wk_V RX7 375 yX7_gainOf cX7_gainOf 6 (some .int) 3 := ⟨wc_Bl [(7, 24), (7, 26), (17, 10), (1, 8), (7, 27)] (by decide +kernel) (by decide +kernel), by decide +kernel, by decide +kernel, by decide +kernel⟩
theorem lc_X7_378 : wk_V RX7 378 yX7_isRest cX7_isRest 5 (some .boolean) 2 := ⟨wc_Bl [(7, 20), (7, 22), (17, 9), (1, 8), (7, 23)] (by decide +kernel) (by decide +kernel), by decide +kernel, by decide +kernel, by decide +kernel⟩
theorem lc_X7_384 : wk_V RX7 384 yX7_dayOf cX7_dayOf 3 (some .int) 2 := ⟨wc_Bl [(7, 48), (7, 50), (17, 14), (1, 8), (7, 51)] (by decide +kernel) (by decide +kernel), by decide +kernel, by decide +kernel, by decide +kernel⟩
theorem lc_X7_387 : wk_V RX7 387 yX7_isSummer cX7_isSummer 2 (some .boolean) 1 := ⟨wc_Bl [(7, 40), (7, 42), (17, 12), (1, 8), (7, 43)] (by decide +kernel) (by decide +kernel), by decide +kernel, by decide +kernel, by decide +kernel⟩
theorem lc_X7_390 : wk_V RX7 390 yX7_summerDays cX7_summerDays 1 (some .int) 0 := ⟨wc_Bl [(7, 44), (7, 46), (17, 13), (1, 8), (7, 47)] (by decide +kernel) (by decide +kernel), by decide +kernel, by decide +kernel, by decide +kernel⟩
theorem lc_X7_393 : wk_V RX7 393 yX7_numberOf cX7_numberOf 2 (some .int) 1 := ⟨wc_Bl [(7, 60), (7, 62), (18, 0), (1, 8), (7, 63)] (by decide +kernel) (by decide +kernel), by decide +kernel, by decide +kernel, by decide +kernel⟩
theorem lc_X7_396 : wk_V RX7 396 yX7_cloudAfter cX7_cloudAfter 6 (some .int) 3 := ⟨wc_Bl [(7, 72), (7, 74), (18, 3), (1, 8), (7, 75)] (by decide +kernel) (by decide +kernel), by decide +kernel, by decide +kernel, by decide +kernel⟩
theorem lc_X7_399 : wk_V RX7 399 yX7_wrongDay cX7_wrongDay 2 (some .int) 0 := ⟨wc_Bl [(7, 56), (7, 58), (17, 15), (1, 8), (7, 59)] (by decide +kernel) (by decide +kernel), by decide +kernel, by decide +kernel, by decide +kernel⟩
theorem lc_X7_402 : wk_V RX7 402 yX7_isHeatRight cX7_isHeatRight 4 (some .boolean) 0 := ⟨wc_Bl [(7, 64), (7, 66), (18, 1), (1, 8), (7, 67)] (by decide +kernel) (by decide +kernel), by decide +kernel, by decide +kernel, by decide +kernel⟩
theorem lc_X7_405 : wk_V RX7 405 yX7_mends cX7_mends 7 none 0 := ⟨wc_Bl [(7, 68), (7, 70), (18, 2), (1, 8), (7, 71)] (by decide +kernel) (by decide +kernel), by decide +kernel, by decide +kernel, by decide +kernel⟩
theorem lc_X7_408 : wk_V RX7 408 yX7_fallsOn cX7_fallsOn 5 (some .int) 1 := ⟨wc_Bl [(7, 76), (7, 78), (18, 4), (1, 8), (7, 79)] (by decide +kernel) (by decide +kernel), by decide +kernel, by decide +kernel, by decide +kernel⟩
theorem lc_X7_411 : wk_V RX7 411 yX7_areSeats cX7_areSeats 5 (some .boolean) 1 := ⟨wc_Bl [(7, 92), (7, 94), (18, 7), (1, 8), (7, 95)] (by decide +kernel) (by decide +kernel), by decide +kernel, by decide +kernel, by decide +kernel⟩
theorem lc_X7_414 : wk_V RX7 414 yX7_proposal cX7_proposal 3 (some .int) 2 := ⟨wc_Bl [(7, 96), (7, 98), (18, 8), (1, 8), (7, 99)] (by decide +kernel) (by decide +kernel), by decide +kernel, by decide +kernel, by decide +kernel⟩
theorem lc_X7_417 : wk_V RX7 417 yX7_isSat cX7_isSat 4 (some .boolean) 1 := ⟨wc_Bl [(7, 88), (7, 90), (18, 6), (1, 8), (7, 91)] (by decide +kernel) (by decide +kernel), by decide +kernel, by decide +kernel, by decide +kernel⟩
theorem lc_X7_420 : wk_V RX7 420 yX7_unlike cX7_unlike 5 (some .int) 1 := ⟨wc_Bl [(7, 84), (7, 86), (18, 5), (1, 8), (7, 87)] (by decide +kernel) (by decide +kernel), by decide +kernel, by decide +kernel, by decide +kernel⟩
theorem lc_X7_423 : wk_V RX7 423 yX7_rainy cX7_rainy 3 (some .int) 1 := ⟨wc_Bl [(7, 104), (7, 106), (18, 9), (1, 8), (7, 107)] (by decide +kernel) (by decide +kernel), by decide +kernel, by decide +kernel, by decide +kernel⟩
theorem lc_X7_429 : wk_V RX7 429 yX7_leakOf cX7_leakOf 3 (some .int) 2 := ⟨wc_Bl [(7, 112), (7, 114), (18, 10), (1, 8), (7, 115)] (by decide +kernel) (by decide +kernel), by decide +kernel, by decide +kernel, by decide +kernel⟩
theorem lc_X7_432 : wk_V RX7 432 yX7_isFit cX7_isFit 5 (some .boolean) 2 := ⟨wc_Bl [(7, 124), (7, 126), (18, 12), (1, 8), (7, 127)] (by decide +kernel) (by decide +kernel), by decide +kernel, by decide +kernel, by decide +kernel⟩
theorem lc_X7_435 : wk_V RX7 435 yX7_fitting cX7_fitting 4 (some .int) 1 := ⟨wc_Bl [(7, 120), (7, 122), (18, 11), (1, 8), (7, 123)] (by decide +kernel) (by decide +kernel), by decide +kernel, by decide +kernel, by decide +kernel⟩
theorem lc_X7_438 : wk_V RX7 438 yX7_rainyFit cX7_rainyFit 3 (some .int) 0 := ⟨wc_Bl [(7, 128), (7, 130), (18, 13), (1, 8), (7, 131)] (by decide +kernel) (by decide +kernel), by decide +kernel, by decide +kernel, by decide +kernel⟩
theorem lc_X7_441 : wk_V RX7 441 yX7_extreme cX7_extreme 6 (some .int) 2 := ⟨wc_Bl [(7, 132), (7, 134), (18, 14), (1, 8), (7, 135)] (by decide +kernel) (by decide +kernel), by decide +kernel, by decide +kernel, by decide +kernel⟩
theorem lc_X7_448 : wk_V RX7 448 yX7_below cX7_below 2 (some .int) 1 := ⟨wc_Bl [(7, 140), (7, 142), (18, 15), (1, 8), (7, 143)] (by decide +kernel) (by decide +kernel), by decide +kernel, by decide +kernel, by decide +kernel⟩
theorem lc_X7_451 : wk_V RX7 451 yX7_thereAt cX7_thereAt 4 (some .int) 1 := ⟨wc_Bl [(7, 145), (7, 147), (19, 0), (1, 8), (7, 148)] (by decide +kernel) (by decide +kernel), by decide +kernel, by decide +kernel, by decide +kernel⟩
theorem lk_X7_40 : Cond.constantLong RX7 40 1048576 ∈ wc_B := wc_Bm (5, 168) (by decide +kernel) rfl
theorem lk_X7_70 : Cond.constantLong RX7 70 32 ∈ wc_B := wc_Bm (5, 157) (by decide +kernel) rfl
theorem lk_X7_72 : Cond.constantLong RX7 72 96 ∈ wc_B := wc_Bm (5, 158) (by decide +kernel) rfl
theorem lk_X7_447 : Cond.constant RX7 447 1103515245 ∈ wc_B := wc_Bm (7, 144) (by decide +kernel) rfl
theorem lp_X7_7 : wc_fpt RX7 7 7 0 true (.array .int) := ⟨RX7, TX7, 35, tyX7, rfl, by decide, wc_Bm (5, 16) (by decide +kernel) rfl, wuX7, tyX7_ok, nmX7, rfl, by decide +kernel, rfl⟩
theorem lp_X7_13 : wc_fpt RX7 13 7 1 true (.array .boolean) := ⟨RX7, TX7, 35, tyX7, rfl, by decide, wc_Bm (5, 17) (by decide +kernel) rfl, wuX7, tyX7_ok, nmX7, rfl, by decide +kernel, rfl⟩
theorem lp_X7_17 : wc_fpt RX7 17 7 10 true (.array .int) := ⟨RX7, TX7, 35, tyX7, rfl, by decide, wc_Bm (5, 26) (by decide +kernel) rfl, wuX7, tyX7_ok, nmX7, rfl, by decide +kernel, rfl⟩
theorem lp_X7_20 : wc_fpt RX7 20 7 27 true (.array .int) := ⟨RX7, TX7, 35, tyX7, rfl, by decide, wc_Bm (5, 43) (by decide +kernel) rfl, wuX7, tyX7_ok, nmX7, rfl, by decide +kernel, rfl⟩
theorem lp_X7_23 : wc_fpt RX7 23 7 28 true (.array .int) := ⟨RX7, TX7, 35, tyX7, rfl, by decide, wc_Bm (5, 44) (by decide +kernel) rfl, wuX7, tyX7_ok, nmX7, rfl, by decide +kernel, rfl⟩
theorem lp_X7_26 : wc_fpt RX7 26 7 31 true (.array .int) := ⟨RX7, TX7, 35, tyX7, rfl, by decide, wc_Bm (5, 47) (by decide +kernel) rfl, wuX7, tyX7_ok, nmX7, rfl, by decide +kernel, rfl⟩
theorem lp_X7_29 : wc_fpt RX7 29 7 32 true (.array .boolean) := ⟨RX7, TX7, 35, tyX7, rfl, by decide, wc_Bm (5, 48) (by decide +kernel) rfl, wuX7, tyX7_ok, nmX7, rfl, by decide +kernel, rfl⟩
theorem lp_X7_32 : wc_fpt RX7 32 7 2 false .int := ⟨RX7, TX7, 35, tyX7, rfl, by decide, wc_Bm (5, 18) (by decide +kernel) rfl, wuX7, tyX7_ok, nmX7, rfl, by decide +kernel, rfl⟩
theorem lp_X7_53 : wc_fpt RX7 53 7 3 false .int := ⟨RX7, TX7, 35, tyX7, rfl, by decide, wc_Bm (5, 19) (by decide +kernel) rfl, wuX7, tyX7_ok, nmX7, rfl, by decide +kernel, rfl⟩
theorem lp_X7_60 : wc_fpt RX7 60 7 4 false .int := ⟨RX7, TX7, 35, tyX7, rfl, by decide, wc_Bm (5, 20) (by decide +kernel) rfl, wuX7, tyX7_ok, nmX7, rfl, by decide +kernel, rfl⟩
theorem lp_X7_63 : wc_fpt RX7 63 7 5 false .int := ⟨RX7, TX7, 35, tyX7, rfl, by decide, wc_Bm (5, 21) (by decide +kernel) rfl, wuX7, tyX7_ok, nmX7, rfl, by decide +kernel, rfl⟩
theorem lp_X7_77 : wc_fpt RX7 77 7 7 false .int := ⟨RX7, TX7, 35, tyX7, rfl, by decide, wc_Bm (5, 23) (by decide +kernel) rfl, wuX7, tyX7_ok, nmX7, rfl, by decide +kernel, rfl⟩
theorem lp_X7_83 : wc_fpt RX7 83 7 6 false .int := ⟨RX7, TX7, 35, tyX7, rfl, by decide, wc_Bm (5, 22) (by decide +kernel) rfl, wuX7, tyX7_ok, nmX7, rfl, by decide +kernel, rfl⟩
theorem lp_X7_86 : wc_fpt RX7 86 7 8 false .boolean := ⟨RX7, TX7, 35, tyX7, rfl, by decide, wc_Bm (5, 24) (by decide +kernel) rfl, wuX7, tyX7_ok, nmX7, rfl, by decide +kernel, rfl⟩
theorem lp_X7_111 : wc_fpt RX7 111 7 9 false .int := ⟨RX7, TX7, 35, tyX7, rfl, by decide, wc_Bm (5, 25) (by decide +kernel) rfl, wuX7, tyX7_ok, nmX7, rfl, by decide +kernel, rfl⟩
theorem lp_X7_175 : wc_fpt RX7 175 7 11 false .int := ⟨RX7, TX7, 35, tyX7, rfl, by decide, wc_Bm (5, 27) (by decide +kernel) rfl, wuX7, tyX7_ok, nmX7, rfl, by decide +kernel, rfl⟩
theorem lp_X7_196 : wc_fpt RX7 196 7 12 false .int := ⟨RX7, TX7, 35, tyX7, rfl, by decide, wc_Bm (5, 28) (by decide +kernel) rfl, wuX7, tyX7_ok, nmX7, rfl, by decide +kernel, rfl⟩
theorem lp_X7_199 : wc_fpt RX7 199 7 13 false .int := ⟨RX7, TX7, 35, tyX7, rfl, by decide, wc_Bm (5, 29) (by decide +kernel) rfl, wuX7, tyX7_ok, nmX7, rfl, by decide +kernel, rfl⟩
theorem lp_X7_202 : wc_fpt RX7 202 7 14 false .int := ⟨RX7, TX7, 35, tyX7, rfl, by decide, wc_Bm (5, 30) (by decide +kernel) rfl, wuX7, tyX7_ok, nmX7, rfl, by decide +kernel, rfl⟩
theorem lp_X7_205 : wc_fpt RX7 205 7 16 false .int := ⟨RX7, TX7, 35, tyX7, rfl, by decide, wc_Bm (5, 32) (by decide +kernel) rfl, wuX7, tyX7_ok, nmX7, rfl, by decide +kernel, rfl⟩
theorem lp_X7_214 : wc_fpt RX7 214 7 15 false .int := ⟨RX7, TX7, 35, tyX7, rfl, by decide, wc_Bm (5, 31) (by decide +kernel) rfl, wuX7, tyX7_ok, nmX7, rfl, by decide +kernel, rfl⟩
theorem lp_X7_226 : wc_fpt RX7 226 7 18 false .int := ⟨RX7, TX7, 35, tyX7, rfl, by decide, wc_Bm (5, 34) (by decide +kernel) rfl, wuX7, tyX7_ok, nmX7, rfl, by decide +kernel, rfl⟩
theorem lp_X7_251 : wc_fpt RX7 251 7 17 false .int := ⟨RX7, TX7, 35, tyX7, rfl, by decide, wc_Bm (5, 33) (by decide +kernel) rfl, wuX7, tyX7_ok, nmX7, rfl, by decide +kernel, rfl⟩
theorem lp_X7_272 : wc_fpt RX7 272 7 19 false .int := ⟨RX7, TX7, 35, tyX7, rfl, by decide, wc_Bm (5, 35) (by decide +kernel) rfl, wuX7, tyX7_ok, nmX7, rfl, by decide +kernel, rfl⟩
theorem lp_X7_275 : wc_fpt RX7 275 7 20 false .int := ⟨RX7, TX7, 35, tyX7, rfl, by decide, wc_Bm (5, 36) (by decide +kernel) rfl, wuX7, tyX7_ok, nmX7, rfl, by decide +kernel, rfl⟩
theorem lp_X7_278 : wc_fpt RX7 278 7 21 false .int := ⟨RX7, TX7, 35, tyX7, rfl, by decide, wc_Bm (5, 37) (by decide +kernel) rfl, wuX7, tyX7_ok, nmX7, rfl, by decide +kernel, rfl⟩
theorem lp_X7_281 : wc_fpt RX7 281 7 22 false .int := ⟨RX7, TX7, 35, tyX7, rfl, by decide, wc_Bm (5, 38) (by decide +kernel) rfl, wuX7, tyX7_ok, nmX7, rfl, by decide +kernel, rfl⟩
theorem lp_X7_284 : wc_fpt RX7 284 7 23 false .int := ⟨RX7, TX7, 35, tyX7, rfl, by decide, wc_Bm (5, 39) (by decide +kernel) rfl, wuX7, tyX7_ok, nmX7, rfl, by decide +kernel, rfl⟩
theorem lp_X7_287 : wc_fpt RX7 287 7 24 false .int := ⟨RX7, TX7, 35, tyX7, rfl, by decide, wc_Bm (5, 40) (by decide +kernel) rfl, wuX7, tyX7_ok, nmX7, rfl, by decide +kernel, rfl⟩
theorem lp_X7_290 : wc_fpt RX7 290 7 25 false .int := ⟨RX7, TX7, 35, tyX7, rfl, by decide, wc_Bm (5, 41) (by decide +kernel) rfl, wuX7, tyX7_ok, nmX7, rfl, by decide +kernel, rfl⟩
theorem lp_X7_293 : wc_fpt RX7 293 7 26 false .int := ⟨RX7, TX7, 35, tyX7, rfl, by decide, wc_Bm (5, 42) (by decide +kernel) rfl, wuX7, tyX7_ok, nmX7, rfl, by decide +kernel, rfl⟩
theorem lp_X7_305 : wc_fpt RX7 305 7 29 false .int := ⟨RX7, TX7, 35, tyX7, rfl, by decide, wc_Bm (5, 45) (by decide +kernel) rfl, wuX7, tyX7_ok, nmX7, rfl, by decide +kernel, rfl⟩
theorem lp_X7_381 : wc_fpt RX7 381 7 30 false .int := ⟨RX7, TX7, 35, tyX7, rfl, by decide, wc_Bm (5, 46) (by decide +kernel) rfl, wuX7, tyX7_ok, nmX7, rfl, by decide +kernel, rfl⟩
theorem lp_X7_426 : wc_fpt RX7 426 7 33 false .int := ⟨RX7, TX7, 35, tyX7, rfl, by decide, wc_Bm (5, 49) (by decide +kernel) rfl, wuX7, tyX7_ok, nmX7, rfl, by decide +kernel, rfl⟩
theorem lp_X7_444 : wc_fpt RX7 444 7 34 false .int := ⟨RX7, TX7, 35, tyX7, rfl, by decide, wc_Bm (5, 50) (by decide +kernel) rfl, wuX7, tyX7_ok, nmX7, rfl, by decide +kernel, rfl⟩
theorem la_int : Cond.arrayClass .int ∈ wc_B := wc_Bm (1, 103) (by decide +kernel) rfl
theorem la_bool : Cond.arrayClass .boolean ∈ wc_B := wc_Bm (5, 122) (by decide +kernel) rfl
end
section
theorem WW_ls {p : Program} {l : Launch} {e : Env} {R : Room} {s : State} {m : MethodId} {args : Array Value} {below : List Frame} {meth : Method} {c : Code} {Q : State → Prop} {G : EG} {nL n0 s0 rc rs pc : Nat} {ls ls2 : List (Option EV)} {st : List EV} {w : EW} (h : ls = ls2) (k : WW p l e R s m args below meth c Q G nL n0 s0 rc rs pc ls2 st w) : WW p l e R s m args below meth c Q G nL n0 s0 rc rs pc ls st w := h ▸ k
theorem wc_lt_of {n : Nat} {i : Int32} (hn : n < 2147483648) (hi : vp_in i n) : ¬ Int32.ofNat n ≤ i := by
  obtain ⟨j, h1, rfl⟩ := vp_in_of hi hn
  exact nI_ge h1 hn
theorem dJ7_fill_53178_0 : decode cJ7_fill_53178 0 = .ok (.iconst 0, 1) := by decide +kernel
theorem dJ7_fill_53178_1 : decode cJ7_fill_53178 1 = .ok (.istore_n 2, 1) := by decide +kernel
theorem dJ7_fill_53178_2 : decode cJ7_fill_53178 2 = .ok (.aload_n 0, 1) := by decide +kernel
theorem dJ7_fill_53178_3 : decode cJ7_fill_53178 3 = .ok (.arraylength, 1) := by decide +kernel
theorem dJ7_fill_53178_4 : decode cJ7_fill_53178 4 = .ok (.istore_n 3, 1) := by decide +kernel
theorem dJ7_fill_53178_5 : decode cJ7_fill_53178 5 = .ok (.iload_n 2, 1) := by decide +kernel
theorem dJ7_fill_53178_6 : decode cJ7_fill_53178 6 = .ok (.iload_n 3, 1) := by decide +kernel
theorem dJ7_fill_53178_7 : decode cJ7_fill_53178 7 = .ok (.if_icmp .ge 13, 3) := by decide +kernel
theorem dJ7_fill_53178_10 : decode cJ7_fill_53178 10 = .ok (.aload_n 0, 1) := by decide +kernel
theorem dJ7_fill_53178_11 : decode cJ7_fill_53178 11 = .ok (.iload_n 2, 1) := by decide +kernel
theorem dJ7_fill_53178_12 : decode cJ7_fill_53178 12 = .ok (.iload_n 1, 1) := by decide +kernel
theorem dJ7_fill_53178_13 : decode cJ7_fill_53178 13 = .ok (.iastore, 1) := by decide +kernel
theorem dJ7_fill_53178_14 : decode cJ7_fill_53178 14 = .ok (.iinc 2 1, 3) := by decide +kernel
theorem dJ7_fill_53178_17 : decode cJ7_fill_53178 17 = .ok (.goto (-12), 3) := by decide +kernel
theorem dJ7_fill_53178_20 : decode cJ7_fill_53178 20 = .ok (.return_, 1) := by decide +kernel
theorem dX0_init_0 : decode cX0_init 0 = .ok (.aload_n 0, 1) := by decide +kernel
theorem dX0_init_1 : decode cX0_init 1 = .ok (.invokespecial 3, 3) := by decide +kernel
theorem dX0_init_4 : decode cX0_init 4 = .ok (.aload_n 0, 1) := by decide +kernel
theorem dX0_init_5 : decode cX0_init 5 = .ok (.new 9, 3) := by decide +kernel
theorem dX0_init_8 : decode cX0_init 8 = .ok (.dup, 1) := by decide +kernel
theorem dX0_init_9 : decode cX0_init 9 = .ok (.invokespecial 11, 3) := by decide +kernel
theorem dX0_init_12 : decode cX0_init 12 = .ok (.putfield 12, 3) := by decide +kernel
theorem dX0_init_15 : decode cX0_init 15 = .ok (.aload_n 0, 1) := by decide +kernel
theorem dX0_init_16 : decode cX0_init 16 = .ok (.bipush 6, 2) := by decide +kernel
theorem dX0_init_18 : decode cX0_init 18 = .ok (.newarray .int, 2) := by decide +kernel
theorem dX0_init_20 : decode cX0_init 20 = .ok (.putfield 18, 3) := by decide +kernel
theorem dX0_init_23 : decode cX0_init 23 = .ok (.aload_n 0, 1) := by decide +kernel
theorem dX0_init_24 : decode cX0_init 24 = .ok (.iconst 3, 1) := by decide +kernel
theorem dX0_init_25 : decode cX0_init 25 = .ok (.newarray .int, 2) := by decide +kernel
theorem dX0_init_27 : decode cX0_init 27 = .ok (.putfield 22, 3) := by decide +kernel
theorem dX0_init_30 : decode cX0_init 30 = .ok (.return_, 1) := by decide +kernel
theorem dX1_init_0 : decode cX1_init 0 = .ok (.aload_n 0, 1) := by decide +kernel
theorem dX1_init_1 : decode cX1_init 1 = .ok (.invokespecial 3, 3) := by decide +kernel
theorem dX1_init_4 : decode cX1_init 4 = .ok (.aload_n 0, 1) := by decide +kernel
theorem dX1_init_5 : decode cX1_init 5 = .ok (.new 9, 3) := by decide +kernel
theorem dX1_init_8 : decode cX1_init 8 = .ok (.dup, 1) := by decide +kernel
theorem dX1_init_9 : decode cX1_init 9 = .ok (.invokespecial 11, 3) := by decide +kernel
theorem dX1_init_12 : decode cX1_init 12 = .ok (.putfield 12, 3) := by decide +kernel
theorem dX1_init_15 : decode cX1_init 15 = .ok (.aload_n 0, 1) := by decide +kernel
theorem dX1_init_16 : decode cX1_init 16 = .ok (.new 18, 3) := by decide +kernel
theorem dX1_init_19 : decode cX1_init 19 = .ok (.dup, 1) := by decide +kernel
theorem dX1_init_20 : decode cX1_init 20 = .ok (.invokespecial 20, 3) := by decide +kernel
theorem dX1_init_23 : decode cX1_init 23 = .ok (.putfield 21, 3) := by decide +kernel
theorem dX1_init_26 : decode cX1_init 26 = .ok (.aload_n 0, 1) := by decide +kernel
theorem dX1_init_27 : decode cX1_init 27 = .ok (.sipush 600, 3) := by decide +kernel
theorem dX1_init_30 : decode cX1_init 30 = .ok (.newarray .int, 2) := by decide +kernel
theorem dX1_init_32 : decode cX1_init 32 = .ok (.putfield 25, 3) := by decide +kernel
theorem dX1_init_35 : decode cX1_init 35 = .ok (.aload_n 0, 1) := by decide +kernel
theorem dX1_init_36 : decode cX1_init 36 = .ok (.iconst 5, 1) := by decide +kernel
theorem dX1_init_37 : decode cX1_init 37 = .ok (.newarray .int, 2) := by decide +kernel
theorem dX1_init_39 : decode cX1_init 39 = .ok (.putfield 29, 3) := by decide +kernel
theorem dX1_init_42 : decode cX1_init 42 = .ok (.return_, 1) := by decide +kernel
theorem dX2_init_0 : decode cX2_init 0 = .ok (.aload_n 0, 1) := by decide +kernel
theorem dX2_init_1 : decode cX2_init 1 = .ok (.invokespecial 3, 3) := by decide +kernel
theorem dX2_init_4 : decode cX2_init 4 = .ok (.aload_n 0, 1) := by decide +kernel
theorem dX2_init_5 : decode cX2_init 5 = .ok (.bipush 6, 2) := by decide +kernel
theorem dX2_init_7 : decode cX2_init 7 = .ok (.newarray .int, 2) := by decide +kernel
theorem dX2_init_9 : decode cX2_init 9 = .ok (.putfield 9, 3) := by decide +kernel
theorem dX2_init_12 : decode cX2_init 12 = .ok (.aload_n 0, 1) := by decide +kernel
theorem dX2_init_13 : decode cX2_init 13 = .ok (.bipush 6, 2) := by decide +kernel
theorem dX2_init_15 : decode cX2_init 15 = .ok (.newarray .int, 2) := by decide +kernel
theorem dX2_init_17 : decode cX2_init 17 = .ok (.putfield 15, 3) := by decide +kernel
theorem dX2_init_20 : decode cX2_init 20 = .ok (.aload_n 0, 1) := by decide +kernel
theorem dX2_init_21 : decode cX2_init 21 = .ok (.bipush 6, 2) := by decide +kernel
theorem dX2_init_23 : decode cX2_init 23 = .ok (.newarray .int, 2) := by decide +kernel
theorem dX2_init_25 : decode cX2_init 25 = .ok (.putfield 18, 3) := by decide +kernel
theorem dX2_init_28 : decode cX2_init 28 = .ok (.aload_n 0, 1) := by decide +kernel
theorem dX2_init_29 : decode cX2_init 29 = .ok (.bipush 6, 2) := by decide +kernel
theorem dX2_init_31 : decode cX2_init 31 = .ok (.newarray .int, 2) := by decide +kernel
theorem dX2_init_33 : decode cX2_init 33 = .ok (.putfield 21, 3) := by decide +kernel
theorem dX2_init_36 : decode cX2_init 36 = .ok (.aload_n 0, 1) := by decide +kernel
theorem dX2_init_37 : decode cX2_init 37 = .ok (.bipush 72, 2) := by decide +kernel
theorem dX2_init_39 : decode cX2_init 39 = .ok (.newarray .int, 2) := by decide +kernel
theorem dX2_init_41 : decode cX2_init 41 = .ok (.putfield 24, 3) := by decide +kernel
theorem dX2_init_44 : decode cX2_init 44 = .ok (.aload_n 0, 1) := by decide +kernel
theorem dX2_init_45 : decode cX2_init 45 = .ok (.bipush 6, 2) := by decide +kernel
theorem dX2_init_47 : decode cX2_init 47 = .ok (.newarray .int, 2) := by decide +kernel
theorem dX2_init_49 : decode cX2_init 49 = .ok (.putfield 27, 3) := by decide +kernel
theorem dX2_init_52 : decode cX2_init 52 = .ok (.aload_n 0, 1) := by decide +kernel
theorem dX2_init_53 : decode cX2_init 53 = .ok (.iconst 3, 1) := by decide +kernel
theorem dX2_init_54 : decode cX2_init 54 = .ok (.newarray .int, 2) := by decide +kernel
theorem dX2_init_56 : decode cX2_init 56 = .ok (.putfield 30, 3) := by decide +kernel
theorem dX2_init_59 : decode cX2_init 59 = .ok (.return_, 1) := by decide +kernel
theorem dX3_init_0 : decode cX3_init 0 = .ok (.aload_n 0, 1) := by decide +kernel
theorem dX3_init_1 : decode cX3_init 1 = .ok (.invokespecial 3, 3) := by decide +kernel
theorem dX3_init_4 : decode cX3_init 4 = .ok (.aload_n 0, 1) := by decide +kernel
theorem dX3_init_5 : decode cX3_init 5 = .ok (.sipush 200, 3) := by decide +kernel
theorem dX3_init_8 : decode cX3_init 8 = .ok (.newarray .int, 2) := by decide +kernel
theorem dX3_init_10 : decode cX3_init 10 = .ok (.putfield 9, 3) := by decide +kernel
theorem dX3_init_13 : decode cX3_init 13 = .ok (.return_, 1) := by decide +kernel
theorem dX4_init_0 : decode cX4_init 0 = .ok (.aload_n 0, 1) := by decide +kernel
theorem dX4_init_1 : decode cX4_init 1 = .ok (.invokespecial 3, 3) := by decide +kernel
theorem dX4_init_4 : decode cX4_init 4 = .ok (.return_, 1) := by decide +kernel
theorem dX5_init_0 : decode cX5_init 0 = .ok (.aload_n 0, 1) := by decide +kernel
theorem dX5_init_1 : decode cX5_init 1 = .ok (.invokespecial 3, 3) := by decide +kernel
theorem dX5_init_4 : decode cX5_init 4 = .ok (.aload_n 0, 1) := by decide +kernel
theorem dX5_init_5 : decode cX5_init 5 = .ok (.sipush 600, 3) := by decide +kernel
theorem dX5_init_8 : decode cX5_init 8 = .ok (.newarray .int, 2) := by decide +kernel
theorem dX5_init_10 : decode cX5_init 10 = .ok (.putfield 9, 3) := by decide +kernel
theorem dX5_init_13 : decode cX5_init 13 = .ok (.aload_n 0, 1) := by decide +kernel
theorem dX5_init_14 : decode cX5_init 14 = .ok (.iconst (-1), 1) := by decide +kernel
theorem dX5_init_15 : decode cX5_init 15 = .ok (.putfield 15, 3) := by decide +kernel
theorem dX5_init_18 : decode cX5_init 18 = .ok (.aload_n 0, 1) := by decide +kernel
theorem dX5_init_19 : decode cX5_init 19 = .ok (.bipush 6, 2) := by decide +kernel
theorem dX5_init_21 : decode cX5_init 21 = .ok (.newarray .int, 2) := by decide +kernel
theorem dX5_init_23 : decode cX5_init 23 = .ok (.putfield 19, 3) := by decide +kernel
theorem dX5_init_26 : decode cX5_init 26 = .ok (.aload_n 0, 1) := by decide +kernel
theorem dX5_init_27 : decode cX5_init 27 = .ok (.iconst 2, 1) := by decide +kernel
theorem dX5_init_28 : decode cX5_init 28 = .ok (.anewarray 22, 3) := by decide +kernel
theorem dX5_init_31 : decode cX5_init 31 = .ok (.putfield 24, 3) := by decide +kernel
theorem dX5_init_34 : decode cX5_init 34 = .ok (.aload_n 0, 1) := by decide +kernel
theorem dX5_init_35 : decode cX5_init 35 = .ok (.bipush 10, 2) := by decide +kernel
theorem dX5_init_37 : decode cX5_init 37 = .ok (.anewarray 28, 3) := by decide +kernel
theorem dX5_init_40 : decode cX5_init 40 = .ok (.putfield 30, 3) := by decide +kernel
theorem dX5_init_43 : decode cX5_init 43 = .ok (.iconst 0, 1) := by decide +kernel
theorem dX5_init_44 : decode cX5_init 44 = .ok (.istore_n 1, 1) := by decide +kernel
theorem dX5_init_45 : decode cX5_init 45 = .ok (.iload_n 1, 1) := by decide +kernel
theorem dX5_init_46 : decode cX5_init 46 = .ok (.aload_n 0, 1) := by decide +kernel
theorem dX5_init_47 : decode cX5_init 47 = .ok (.getfield 24, 3) := by decide +kernel
theorem dX5_init_50 : decode cX5_init 50 = .ok (.arraylength, 1) := by decide +kernel
theorem dX5_init_51 : decode cX5_init 51 = .ok (.if_icmp .ge 22, 3) := by decide +kernel
theorem dX5_init_54 : decode cX5_init 54 = .ok (.aload_n 0, 1) := by decide +kernel
theorem dX5_init_55 : decode cX5_init 55 = .ok (.getfield 24, 3) := by decide +kernel
theorem dX5_init_58 : decode cX5_init 58 = .ok (.iload_n 1, 1) := by decide +kernel
theorem dX5_init_59 : decode cX5_init 59 = .ok (.new 22, 3) := by decide +kernel
theorem dX5_init_62 : decode cX5_init 62 = .ok (.dup, 1) := by decide +kernel
theorem dX5_init_63 : decode cX5_init 63 = .ok (.invokespecial 34, 3) := by decide +kernel
theorem dX5_init_66 : decode cX5_init 66 = .ok (.aastore, 1) := by decide +kernel
theorem dX5_init_67 : decode cX5_init 67 = .ok (.iinc 1 1, 3) := by decide +kernel
theorem dX5_init_70 : decode cX5_init 70 = .ok (.goto (-25), 3) := by decide +kernel
theorem dX5_init_73 : decode cX5_init 73 = .ok (.iconst 0, 1) := by decide +kernel
theorem dX5_init_74 : decode cX5_init 74 = .ok (.istore_n 1, 1) := by decide +kernel
theorem dX5_init_75 : decode cX5_init 75 = .ok (.iload_n 1, 1) := by decide +kernel
theorem dX5_init_76 : decode cX5_init 76 = .ok (.aload_n 0, 1) := by decide +kernel
theorem dX5_init_77 : decode cX5_init 77 = .ok (.getfield 30, 3) := by decide +kernel
theorem dX5_init_80 : decode cX5_init 80 = .ok (.arraylength, 1) := by decide +kernel
theorem dX5_init_81 : decode cX5_init 81 = .ok (.if_icmp .ge 22, 3) := by decide +kernel
theorem dX5_init_84 : decode cX5_init 84 = .ok (.aload_n 0, 1) := by decide +kernel
theorem dX5_init_85 : decode cX5_init 85 = .ok (.getfield 30, 3) := by decide +kernel
theorem dX5_init_88 : decode cX5_init 88 = .ok (.iload_n 1, 1) := by decide +kernel
theorem dX5_init_89 : decode cX5_init 89 = .ok (.new 28, 3) := by decide +kernel
theorem dX5_init_92 : decode cX5_init 92 = .ok (.dup, 1) := by decide +kernel
theorem dX5_init_93 : decode cX5_init 93 = .ok (.invokespecial 35, 3) := by decide +kernel
theorem dX5_init_96 : decode cX5_init 96 = .ok (.aastore, 1) := by decide +kernel
theorem dX5_init_97 : decode cX5_init 97 = .ok (.iinc 1 1, 3) := by decide +kernel
theorem dX5_init_100 : decode cX5_init 100 = .ok (.goto (-25), 3) := by decide +kernel
theorem dX5_init_103 : decode cX5_init 103 = .ok (.return_, 1) := by decide +kernel
theorem dX6_agreed_0 : decode cX6_agreed 0 = .ok (.aload_n 0, 1) := by decide +kernel
theorem dX6_agreed_1 : decode cX6_agreed 1 = .ok (.iload_n 1, 1) := by decide +kernel
theorem dX6_agreed_2 : decode cX6_agreed 2 = .ok (.iload_n 3, 1) := by decide +kernel
theorem dX6_agreed_3 : decode cX6_agreed 3 = .ok (.iload 4, 2) := by decide +kernel
theorem dX6_agreed_5 : decode cX6_agreed 5 = .ok (.iconst 0, 1) := by decide +kernel
theorem dX6_agreed_6 : decode cX6_agreed 6 = .ok (.invokevirtual 200, 3) := by decide +kernel
theorem dX6_agreed_9 : decode cX6_agreed 9 = .ok (.astore 6, 2) := by decide +kernel
theorem dX6_agreed_11 : decode cX6_agreed 11 = .ok (.aload_n 0, 1) := by decide +kernel
theorem dX6_agreed_12 : decode cX6_agreed 12 = .ok (.iconst 1, 1) := by decide +kernel
theorem dX6_agreed_13 : decode cX6_agreed 13 = .ok (.iload_n 2, 1) := by decide +kernel
theorem dX6_agreed_14 : decode cX6_agreed 14 = .ok (.invokevirtual 182, 3) := by decide +kernel
theorem dX6_agreed_17 : decode cX6_agreed 17 = .ok (.astore 7, 2) := by decide +kernel
theorem dX6_agreed_19 : decode cX6_agreed 19 = .ok (.aload 6, 2) := by decide +kernel
theorem dX6_agreed_21 : decode cX6_agreed 21 = .ok (.ifnull 13, 3) := by decide +kernel
theorem dX6_agreed_24 : decode cX6_agreed 24 = .ok (.aload 7, 2) := by decide +kernel
theorem dX6_agreed_26 : decode cX6_agreed 26 = .ok (.ifnonnull 11, 3) := by decide +kernel
theorem dX6_agreed_29 : decode cX6_agreed 29 = .ok (.iload_n 2, 1) := by decide +kernel
theorem dX6_agreed_30 : decode cX6_agreed 30 = .ok (.iconst (-1), 1) := by decide +kernel
theorem dX6_agreed_31 : decode cX6_agreed 31 = .ok (.if_icmp .eq 6, 3) := by decide +kernel
theorem dX6_agreed_34 : decode cX6_agreed 34 = .ok (.bipush (-2), 2) := by decide +kernel
theorem dX6_agreed_36 : decode cX6_agreed 36 = .ok (.ireturn, 1) := by decide +kernel
theorem dX6_agreed_37 : decode cX6_agreed 37 = .ok (.iload 5, 2) := by decide +kernel
theorem dX6_agreed_39 : decode cX6_agreed 39 = .ok (.tableswitch 63 0 2 #[25, 37, 50], 25) := by decide +kernel
theorem dX6_agreed_64 : decode cX6_agreed 64 = .ok (.aload_n 0, 1) := by decide +kernel
theorem dX6_agreed_65 : decode cX6_agreed 65 = .ok (.aload 6, 2) := by decide +kernel
theorem dX6_agreed_67 : decode cX6_agreed 67 = .ok (.aload 7, 2) := by decide +kernel
theorem dX6_agreed_69 : decode cX6_agreed 69 = .ok (.iload_n 3, 1) := by decide +kernel
theorem dX6_agreed_70 : decode cX6_agreed 70 = .ok (.iload 4, 2) := by decide +kernel
theorem dX6_agreed_72 : decode cX6_agreed 72 = .ok (.invokevirtual 275, 3) := by decide +kernel
theorem dX6_agreed_75 : decode cX6_agreed 75 = .ok (.ireturn, 1) := by decide +kernel
theorem dX6_agreed_76 : decode cX6_agreed 76 = .ok (.aload_n 0, 1) := by decide +kernel
theorem dX6_agreed_77 : decode cX6_agreed 77 = .ok (.aload 6, 2) := by decide +kernel
theorem dX6_agreed_79 : decode cX6_agreed 79 = .ok (.aload 7, 2) := by decide +kernel
theorem dX6_agreed_81 : decode cX6_agreed 81 = .ok (.iload_n 3, 1) := by decide +kernel
theorem dX6_agreed_82 : decode cX6_agreed 82 = .ok (.iload 4, 2) := by decide +kernel
theorem dX6_agreed_84 : decode cX6_agreed 84 = .ok (.iconst 1, 1) := by decide +kernel
theorem dX6_agreed_85 : decode cX6_agreed 85 = .ok (.invokevirtual 279, 3) := by decide +kernel
theorem dX6_agreed_88 : decode cX6_agreed 88 = .ok (.ireturn, 1) := by decide +kernel
theorem dX6_agreed_89 : decode cX6_agreed 89 = .ok (.aload_n 0, 1) := by decide +kernel
theorem dX6_agreed_90 : decode cX6_agreed 90 = .ok (.aload 6, 2) := by decide +kernel
theorem dX6_agreed_92 : decode cX6_agreed 92 = .ok (.aload 7, 2) := by decide +kernel
theorem dX6_agreed_94 : decode cX6_agreed 94 = .ok (.iload_n 3, 1) := by decide +kernel
theorem dX6_agreed_95 : decode cX6_agreed 95 = .ok (.iload 4, 2) := by decide +kernel
theorem dX6_agreed_97 : decode cX6_agreed 97 = .ok (.iconst 0, 1) := by decide +kernel
theorem dX6_agreed_98 : decode cX6_agreed 98 = .ok (.invokevirtual 279, 3) := by decide +kernel
theorem dX6_agreed_101 : decode cX6_agreed 101 = .ok (.ireturn, 1) := by decide +kernel
theorem dX6_agreed_102 : decode cX6_agreed 102 = .ok (.bipush (-2), 2) := by decide +kernel
theorem dX6_agreed_104 : decode cX6_agreed 104 = .ok (.ireturn, 1) := by decide +kernel
theorem dX6_bargain_0 : decode cX6_bargain 0 = .ok (.aload_n 0, 1) := by decide +kernel
theorem dX6_bargain_1 : decode cX6_bargain 1 = .ok (.iload_n 1, 1) := by decide +kernel
theorem dX6_bargain_2 : decode cX6_bargain 2 = .ok (.invokevirtual 129, 3) := by decide +kernel
theorem dX6_bargain_5 : decode cX6_bargain 5 = .ok (.astore 4, 2) := by decide +kernel
theorem dX6_bargain_7 : decode cX6_bargain 7 = .ok (.aload_n 0, 1) := by decide +kernel
theorem dX6_bargain_8 : decode cX6_bargain 8 = .ok (.iconst 5, 1) := by decide +kernel
theorem dX6_bargain_9 : decode cX6_bargain 9 = .ok (.iload_n 2, 1) := by decide +kernel
theorem dX6_bargain_10 : decode cX6_bargain 10 = .ok (.invokevirtual 182, 3) := by decide +kernel
theorem dX6_bargain_13 : decode cX6_bargain 13 = .ok (.astore 5, 2) := by decide +kernel
theorem dX6_bargain_15 : decode cX6_bargain 15 = .ok (.aload 4, 2) := by decide +kernel
theorem dX6_bargain_17 : decode cX6_bargain 17 = .ok (.ifnull 8, 3) := by decide +kernel
theorem dX6_bargain_20 : decode cX6_bargain 20 = .ok (.aload 5, 2) := by decide +kernel
theorem dX6_bargain_22 : decode cX6_bargain 22 = .ok (.ifnonnull 6, 3) := by decide +kernel
theorem dX6_bargain_25 : decode cX6_bargain 25 = .ok (.bipush (-2), 2) := by decide +kernel
theorem dX6_bargain_27 : decode cX6_bargain 27 = .ok (.ireturn, 1) := by decide +kernel
theorem dX6_bargain_28 : decode cX6_bargain 28 = .ok (.iload_n 3, 1) := by decide +kernel
theorem dX6_bargain_29 : decode cX6_bargain 29 = .ok (.ifCond .lt 17, 3) := by decide +kernel
theorem dX6_bargain_32 : decode cX6_bargain 32 = .ok (.iload_n 3, 1) := by decide +kernel
theorem dX6_bargain_33 : decode cX6_bargain 33 = .ok (.bipush 6, 2) := by decide +kernel
theorem dX6_bargain_35 : decode cX6_bargain 35 = .ok (.if_icmp .ge 11, 3) := by decide +kernel
theorem dX6_bargain_38 : decode cX6_bargain 38 = .ok (.aload 5, 2) := by decide +kernel
theorem dX6_bargain_40 : decode cX6_bargain 40 = .ok (.iload_n 3, 1) := by decide +kernel
theorem dX6_bargain_41 : decode cX6_bargain 41 = .ok (.iconst 0, 1) := by decide +kernel
theorem dX6_bargain_42 : decode cX6_bargain 42 = .ok (.invokevirtual 190, 3) := by decide +kernel
theorem dX6_bargain_45 : decode cX6_bargain 45 = .ok (.ireturn, 1) := by decide +kernel
theorem dX6_bargain_46 : decode cX6_bargain 46 = .ok (.iload_n 3, 1) := by decide +kernel
theorem dX6_bargain_47 : decode cX6_bargain 47 = .ok (.lookupswitch 43 #[(10, 25), (11, 34)], 25) := by decide +kernel
theorem dX6_bargain_72 : decode cX6_bargain 72 = .ok (.aload 4, 2) := by decide +kernel
theorem dX6_bargain_74 : decode cX6_bargain 74 = .ok (.aload 5, 2) := by decide +kernel
theorem dX6_bargain_76 : decode cX6_bargain 76 = .ok (.iconst 0, 1) := by decide +kernel
theorem dX6_bargain_77 : decode cX6_bargain 77 = .ok (.invokestatic 345, 3) := by decide +kernel
theorem dX6_bargain_80 : decode cX6_bargain 80 = .ok (.ireturn, 1) := by decide +kernel
theorem dX6_bargain_81 : decode cX6_bargain 81 = .ok (.aload 4, 2) := by decide +kernel
theorem dX6_bargain_83 : decode cX6_bargain 83 = .ok (.aload 5, 2) := by decide +kernel
theorem dX6_bargain_85 : decode cX6_bargain 85 = .ok (.iconst 1, 1) := by decide +kernel
theorem dX6_bargain_86 : decode cX6_bargain 86 = .ok (.invokestatic 345, 3) := by decide +kernel
theorem dX6_bargain_89 : decode cX6_bargain 89 = .ok (.ireturn, 1) := by decide +kernel
theorem dX6_bargain_90 : decode cX6_bargain 90 = .ok (.bipush (-2), 2) := by decide +kernel
theorem dX6_bargain_92 : decode cX6_bargain 92 = .ok (.ireturn, 1) := by decide +kernel
theorem dX6_bribe_0 : decode cX6_bribe 0 = .ok (.iload 4, 2) := by decide +kernel
theorem dX6_bribe_2 : decode cX6_bribe 2 = .ok (.iload 5, 2) := by decide +kernel
theorem dX6_bribe_4 : decode cX6_bribe 4 = .ok (.iload 6, 2) := by decide +kernel
theorem dX6_bribe_6 : decode cX6_bribe 6 = .ok (.invokestatic 196, 3) := by decide +kernel
theorem dX6_bribe_9 : decode cX6_bribe 9 = .ok (.istore 8, 2) := by decide +kernel
theorem dX6_bribe_11 : decode cX6_bribe 11 = .ok (.aload_n 0, 1) := by decide +kernel
theorem dX6_bribe_12 : decode cX6_bribe 12 = .ok (.iload_n 1, 1) := by decide +kernel
theorem dX6_bribe_13 : decode cX6_bribe 13 = .ok (.iload_n 2, 1) := by decide +kernel
theorem dX6_bribe_14 : decode cX6_bribe 14 = .ok (.iload_n 3, 1) := by decide +kernel
theorem dX6_bribe_15 : decode cX6_bribe 15 = .ok (.iload 8, 2) := by decide +kernel
theorem dX6_bribe_17 : decode cX6_bribe 17 = .ok (.invokevirtual 200, 3) := by decide +kernel
theorem dX6_bribe_20 : decode cX6_bribe 20 = .ok (.astore 9, 2) := by decide +kernel
theorem dX6_bribe_22 : decode cX6_bribe 22 = .ok (.aload 9, 2) := by decide +kernel
theorem dX6_bribe_24 : decode cX6_bribe 24 = .ok (.ifnonnull 5, 3) := by decide +kernel
theorem dX6_bribe_27 : decode cX6_bribe 27 = .ok (.iconst (-1), 1) := by decide +kernel
theorem dX6_bribe_28 : decode cX6_bribe 28 = .ok (.ireturn, 1) := by decide +kernel
theorem dX6_bribe_29 : decode cX6_bribe 29 = .ok (.aload 9, 2) := by decide +kernel
theorem dX6_bribe_31 : decode cX6_bribe 31 = .ok (.iload_n 2, 1) := by decide +kernel
theorem dX6_bribe_32 : decode cX6_bribe 32 = .ok (.iload_n 3, 1) := by decide +kernel
theorem dX6_bribe_33 : decode cX6_bribe 33 = .ok (.iload 8, 2) := by decide +kernel
theorem dX6_bribe_35 : decode cX6_bribe 35 = .ok (.invokevirtual 207, 3) := by decide +kernel
theorem dX6_bribe_38 : decode cX6_bribe 38 = .ok (.istore 10, 2) := by decide +kernel
theorem dX6_bribe_40 : decode cX6_bribe 40 = .ok (.iconst (-1), 1) := by decide +kernel
theorem dX6_bribe_41 : decode cX6_bribe 41 = .ok (.istore 11, 2) := by decide +kernel
theorem dX6_bribe_43 : decode cX6_bribe 43 = .ok (.iconst (-1), 1) := by decide +kernel
theorem dX6_bribe_44 : decode cX6_bribe 44 = .ok (.istore 12, 2) := by decide +kernel
theorem dX6_bribe_46 : decode cX6_bribe 46 = .ok (.iconst 0, 1) := by decide +kernel
theorem dX6_bribe_47 : decode cX6_bribe 47 = .ok (.istore 13, 2) := by decide +kernel
theorem dX6_bribe_49 : decode cX6_bribe 49 = .ok (.iload 13, 2) := by decide +kernel
theorem dX6_bribe_51 : decode cX6_bribe 51 = .ok (.aload 9, 2) := by decide +kernel
theorem dX6_bribe_53 : decode cX6_bribe 53 = .ok (.invokevirtual 210, 3) := by decide +kernel
theorem dX6_bribe_56 : decode cX6_bribe 56 = .ok (.if_icmp .gt 69, 3) := by decide +kernel
theorem dX6_bribe_59 : decode cX6_bribe 59 = .ok (.iload 13, 2) := by decide +kernel
theorem dX6_bribe_61 : decode cX6_bribe 61 = .ok (.iload 10, 2) := by decide +kernel
theorem dX6_bribe_63 : decode cX6_bribe 63 = .ok (.iand, 1) := by decide +kernel
theorem dX6_bribe_64 : decode cX6_bribe 64 = .ok (.ifCond .ne 55, 3) := by decide +kernel
theorem dX6_bribe_67 : decode cX6_bribe 67 = .ok (.aload 9, 2) := by decide +kernel
theorem dX6_bribe_69 : decode cX6_bribe 69 = .ok (.aload 9, 2) := by decide +kernel
theorem dX6_bribe_71 : decode cX6_bribe 71 = .ok (.invokevirtual 210, 3) := by decide +kernel
theorem dX6_bribe_74 : decode cX6_bribe 74 = .ok (.iload 10, 2) := by decide +kernel
theorem dX6_bribe_76 : decode cX6_bribe 76 = .ok (.iload 13, 2) := by decide +kernel
theorem dX6_bribe_78 : decode cX6_bribe 78 = .ok (.ior, 1) := by decide +kernel
theorem dX6_bribe_79 : decode cX6_bribe 79 = .ok (.invokevirtual 214, 3) := by decide +kernel
theorem dX6_bribe_82 : decode cX6_bribe 82 = .ok (.ifCond .eq 37, 3) := by decide +kernel
theorem dX6_bribe_85 : decode cX6_bribe 85 = .ok (.aload 9, 2) := by decide +kernel
theorem dX6_bribe_87 : decode cX6_bribe 87 = .ok (.iload 13, 2) := by decide +kernel
theorem dX6_bribe_89 : decode cX6_bribe 89 = .ok (.iload_n 2, 1) := by decide +kernel
theorem dX6_bribe_90 : decode cX6_bribe 90 = .ok (.iload_n 3, 1) := by decide +kernel
theorem dX6_bribe_91 : decode cX6_bribe 91 = .ok (.iload 8, 2) := by decide +kernel
theorem dX6_bribe_93 : decode cX6_bribe 93 = .ok (.invokestatic 326, 3) := by decide +kernel
theorem dX6_bribe_96 : decode cX6_bribe 96 = .ok (.istore 14, 2) := by decide +kernel
theorem dX6_bribe_98 : decode cX6_bribe 98 = .ok (.iload 11, 2) := by decide +kernel
theorem dX6_bribe_100 : decode cX6_bribe 100 = .ok (.iconst (-1), 1) := by decide +kernel
theorem dX6_bribe_101 : decode cX6_bribe 101 = .ok (.if_icmp .eq 10, 3) := by decide +kernel
theorem dX6_bribe_104 : decode cX6_bribe 104 = .ok (.iload 14, 2) := by decide +kernel
theorem dX6_bribe_106 : decode cX6_bribe 106 = .ok (.iload 11, 2) := by decide +kernel
theorem dX6_bribe_108 : decode cX6_bribe 108 = .ok (.if_icmp .ge 11, 3) := by decide +kernel
theorem dX6_bribe_111 : decode cX6_bribe 111 = .ok (.iload 14, 2) := by decide +kernel
theorem dX6_bribe_113 : decode cX6_bribe 113 = .ok (.istore 11, 2) := by decide +kernel
theorem dX6_bribe_115 : decode cX6_bribe 115 = .ok (.iload 13, 2) := by decide +kernel
theorem dX6_bribe_117 : decode cX6_bribe 117 = .ok (.istore 12, 2) := by decide +kernel
theorem dX6_bribe_119 : decode cX6_bribe 119 = .ok (.iinc 13 1, 3) := by decide +kernel
theorem dX6_bribe_122 : decode cX6_bribe 122 = .ok (.goto (-73), 3) := by decide +kernel
theorem dX6_bribe_125 : decode cX6_bribe 125 = .ok (.iload 7, 2) := by decide +kernel
theorem dX6_bribe_127 : decode cX6_bribe 127 = .ok (.ifCond .eq 8, 3) := by decide +kernel
theorem dX6_bribe_130 : decode cX6_bribe 130 = .ok (.iload 12, 2) := by decide +kernel
theorem dX6_bribe_132 : decode cX6_bribe 132 = .ok (.goto 5, 3) := by decide +kernel
theorem dX6_bribe_135 : decode cX6_bribe 135 = .ok (.iload 11, 2) := by decide +kernel
theorem dX6_bribe_137 : decode cX6_bribe 137 = .ok (.ireturn, 1) := by decide +kernel
theorem dX6_broken_0 : decode cX6_broken 0 = .ok (.aload_n 0, 1) := by decide +kernel
theorem dX6_broken_1 : decode cX6_broken 1 = .ok (.iconst 1, 1) := by decide +kernel
theorem dX6_broken_2 : decode cX6_broken 2 = .ok (.iload_n 1, 1) := by decide +kernel
theorem dX6_broken_3 : decode cX6_broken 3 = .ok (.invokevirtual 182, 3) := by decide +kernel
theorem dX6_broken_6 : decode cX6_broken 6 = .ok (.astore 7, 2) := by decide +kernel
theorem dX6_broken_8 : decode cX6_broken 8 = .ok (.iload_n 3, 1) := by decide +kernel
theorem dX6_broken_9 : decode cX6_broken 9 = .ok (.iload 4, 2) := by decide +kernel
theorem dX6_broken_11 : decode cX6_broken 11 = .ok (.iload 5, 2) := by decide +kernel
theorem dX6_broken_13 : decode cX6_broken 13 = .ok (.invokestatic 196, 3) := by decide +kernel
theorem dX6_broken_16 : decode cX6_broken 16 = .ok (.istore 8, 2) := by decide +kernel
theorem dX6_broken_18 : decode cX6_broken 18 = .ok (.aload 7, 2) := by decide +kernel
theorem dX6_broken_20 : decode cX6_broken 20 = .ok (.ifnull 30, 3) := by decide +kernel
theorem dX6_broken_23 : decode cX6_broken 23 = .ok (.iload_n 2, 1) := by decide +kernel
theorem dX6_broken_24 : decode cX6_broken 24 = .ok (.invokestatic 193, 3) := by decide +kernel
theorem dX6_broken_27 : decode cX6_broken 27 = .ok (.ifCond .eq 23, 3) := by decide +kernel
theorem dX6_broken_30 : decode cX6_broken 30 = .ok (.iload 8, 2) := by decide +kernel
theorem dX6_broken_32 : decode cX6_broken 32 = .ok (.iconst (-1), 1) := by decide +kernel
theorem dX6_broken_33 : decode cX6_broken 33 = .ok (.if_icmp .eq 17, 3) := by decide +kernel
theorem dX6_broken_36 : decode cX6_broken 36 = .ok (.iload 6, 2) := by decide +kernel
theorem dX6_broken_38 : decode cX6_broken 38 = .ok (.iconst (-1), 1) := by decide +kernel
theorem dX6_broken_39 : decode cX6_broken 39 = .ok (.if_icmp .lt 11, 3) := by decide +kernel
theorem dX6_broken_42 : decode cX6_broken 42 = .ok (.iload 6, 2) := by decide +kernel
theorem dX6_broken_44 : decode cX6_broken 44 = .ok (.sipush 1000, 3) := by decide +kernel
theorem dX6_broken_47 : decode cX6_broken 47 = .ok (.if_icmp .lt 5, 3) := by decide +kernel
theorem dX6_broken_50 : decode cX6_broken 50 = .ok (.iconst (-1), 1) := by decide +kernel
theorem dX6_broken_51 : decode cX6_broken 51 = .ok (.ireturn, 1) := by decide +kernel
theorem dX6_broken_52 : decode cX6_broken 52 = .ok (.aload 7, 2) := by decide +kernel
theorem dX6_broken_54 : decode cX6_broken 54 = .ok (.iload_n 2, 1) := by decide +kernel
theorem dX6_broken_55 : decode cX6_broken 55 = .ok (.iload 8, 2) := by decide +kernel
theorem dX6_broken_57 : decode cX6_broken 57 = .ok (.iload 6, 2) := by decide +kernel
theorem dX6_broken_59 : decode cX6_broken 59 = .ok (.invokestatic 217, 3) := by decide +kernel
theorem dX6_broken_62 : decode cX6_broken 62 = .ok (.ireturn, 1) := by decide +kernel
theorem dX6_cell_0 : decode cX6_cell 0 = .ok (.iload_n 1, 1) := by decide +kernel
theorem dX6_cell_1 : decode cX6_cell 1 = .ok (.ifCond .lt 15, 3) := by decide +kernel
theorem dX6_cell_4 : decode cX6_cell 4 = .ok (.iload_n 1, 1) := by decide +kernel
theorem dX6_cell_5 : decode cX6_cell 5 = .ok (.aload_n 0, 1) := by decide +kernel
theorem dX6_cell_6 : decode cX6_cell 6 = .ok (.arraylength, 1) := by decide +kernel
theorem dX6_cell_7 : decode cX6_cell 7 = .ok (.if_icmp .ge 9, 3) := by decide +kernel
theorem dX6_cell_10 : decode cX6_cell 10 = .ok (.aload_n 0, 1) := by decide +kernel
theorem dX6_cell_11 : decode cX6_cell 11 = .ok (.iload_n 1, 1) := by decide +kernel
theorem dX6_cell_12 : decode cX6_cell 12 = .ok (.iaload, 1) := by decide +kernel
theorem dX6_cell_13 : decode cX6_cell 13 = .ok (.goto 4, 3) := by decide +kernel
theorem dX6_cell_16 : decode cX6_cell 16 = .ok (.iconst 0, 1) := by decide +kernel
theorem dX6_cell_17 : decode cX6_cell 17 = .ok (.ireturn, 1) := by decide +kernel
theorem dX6_coalition_0 : decode cX6_coalition 0 = .ok (.aload_n 0, 1) := by decide +kernel
theorem dX6_coalition_1 : decode cX6_coalition 1 = .ok (.iload_n 1, 1) := by decide +kernel
theorem dX6_coalition_2 : decode cX6_coalition 2 = .ok (.invokevirtual 129, 3) := by decide +kernel
theorem dX6_coalition_5 : decode cX6_coalition 5 = .ok (.astore_n 3, 1) := by decide +kernel
theorem dX6_coalition_6 : decode cX6_coalition 6 = .ok (.aload_n 3, 1) := by decide +kernel
theorem dX6_coalition_7 : decode cX6_coalition 7 = .ok (.ifnull 9, 3) := by decide +kernel
theorem dX6_coalition_10 : decode cX6_coalition 10 = .ok (.iload_n 2, 1) := by decide +kernel
theorem dX6_coalition_11 : decode cX6_coalition 11 = .ok (.bipush (-2), 2) := by decide +kernel
theorem dX6_coalition_13 : decode cX6_coalition 13 = .ok (.if_icmp .ge 6, 3) := by decide +kernel
theorem dX6_coalition_16 : decode cX6_coalition 16 = .ok (.bipush (-3), 2) := by decide +kernel
theorem dX6_coalition_18 : decode cX6_coalition 18 = .ok (.ireturn, 1) := by decide +kernel
theorem dX6_coalition_19 : decode cX6_coalition 19 = .ok (.iload_n 2, 1) := by decide +kernel
theorem dX6_coalition_20 : decode cX6_coalition 20 = .ok (.bipush (-2), 2) := by decide +kernel
theorem dX6_coalition_22 : decode cX6_coalition 22 = .ok (.if_icmp .ne 10, 3) := by decide +kernel
theorem dX6_coalition_25 : decode cX6_coalition 25 = .ok (.aload_n 3, 1) := by decide +kernel
theorem dX6_coalition_26 : decode cX6_coalition 26 = .ok (.invokestatic 315, 3) := by decide +kernel
theorem dX6_coalition_29 : decode cX6_coalition 29 = .ok (.goto 8, 3) := by decide +kernel
theorem dX6_coalition_32 : decode cX6_coalition 32 = .ok (.aload_n 3, 1) := by decide +kernel
theorem dX6_coalition_33 : decode cX6_coalition 33 = .ok (.iload_n 2, 1) := by decide +kernel
theorem dX6_coalition_34 : decode cX6_coalition 34 = .ok (.invokestatic 319, 3) := by decide +kernel
theorem dX6_coalition_37 : decode cX6_coalition 37 = .ok (.ireturn, 1) := by decide +kernel
theorem dX6_copy_0 : decode cX6_copy 0 = .ok (.aload_n 0, 1) := by decide +kernel
theorem dX6_copy_1 : decode cX6_copy 1 = .ok (.iconst 0, 1) := by decide +kernel
theorem dX6_copy_2 : decode cX6_copy 2 = .ok (.aload_n 1, 1) := by decide +kernel
theorem dX6_copy_3 : decode cX6_copy 3 = .ok (.iconst 0, 1) := by decide +kernel
theorem dX6_copy_4 : decode cX6_copy 4 = .ok (.aload_n 0, 1) := by decide +kernel
theorem dX6_copy_5 : decode cX6_copy 5 = .ok (.arraylength, 1) := by decide +kernel
theorem dX6_copy_6 : decode cX6_copy 6 = .ok (.aload_n 1, 1) := by decide +kernel
theorem dX6_copy_7 : decode cX6_copy 7 = .ok (.arraylength, 1) := by decide +kernel
theorem dX6_copy_8 : decode cX6_copy 8 = .ok (.invokestatic 366, 3) := by decide +kernel
theorem dX6_copy_11 : decode cX6_copy 11 = .ok (.invokestatic 422, 3) := by decide +kernel
theorem dX6_copy_14 : decode cX6_copy 14 = .ok (.return_, 1) := by decide +kernel
theorem dX6_dayOf_0 : decode cX6_dayOf 0 = .ok (.iload_n 0, 1) := by decide +kernel
theorem dX6_dayOf_1 : decode cX6_dayOf 1 = .ok (.invokestatic 419, 3) := by decide +kernel
theorem dX6_dayOf_4 : decode cX6_dayOf 4 = .ok (.ifCond .eq 26, 3) := by decide +kernel
theorem dX6_dayOf_7 : decode cX6_dayOf 7 = .ok (.iload_n 1, 1) := by decide +kernel
theorem dX6_dayOf_8 : decode cX6_dayOf 8 = .ok (.invokestatic 419, 3) := by decide +kernel
theorem dX6_dayOf_11 : decode cX6_dayOf 11 = .ok (.ifCond .eq 19, 3) := by decide +kernel
theorem dX6_dayOf_14 : decode cX6_dayOf 14 = .ok (.iload_n 2, 1) := by decide +kernel
theorem dX6_dayOf_15 : decode cX6_dayOf 15 = .ok (.invokestatic 419, 3) := by decide +kernel
theorem dX6_dayOf_18 : decode cX6_dayOf 18 = .ok (.ifCond .eq 12, 3) := by decide +kernel
theorem dX6_dayOf_21 : decode cX6_dayOf 21 = .ok (.iload_n 0, 1) := by decide +kernel
theorem dX6_dayOf_22 : decode cX6_dayOf 22 = .ok (.iload_n 1, 1) := by decide +kernel
theorem dX6_dayOf_23 : decode cX6_dayOf 23 = .ok (.iload_n 2, 1) := by decide +kernel
theorem dX6_dayOf_24 : decode cX6_dayOf 24 = .ok (.invokestatic 297, 3) := by decide +kernel
theorem dX6_dayOf_27 : decode cX6_dayOf 27 = .ok (.goto 4, 3) := by decide +kernel
theorem dX6_dayOf_30 : decode cX6_dayOf 30 = .ok (.iconst (-1), 1) := by decide +kernel
theorem dX6_dayOf_31 : decode cX6_dayOf 31 = .ok (.ireturn, 1) := by decide +kernel
theorem dX6_deed_0 : decode cX6_deed 0 = .ok (.aload_n 0, 1) := by decide +kernel
theorem dX6_deed_1 : decode cX6_deed 1 = .ok (.iconst 2, 1) := by decide +kernel
theorem dX6_deed_2 : decode cX6_deed 2 = .ok (.iload_n 1, 1) := by decide +kernel
theorem dX6_deed_3 : decode cX6_deed 3 = .ok (.invokevirtual 182, 3) := by decide +kernel
theorem dX6_deed_6 : decode cX6_deed 6 = .ok (.iload_n 2, 1) := by decide +kernel
theorem dX6_deed_7 : decode cX6_deed 7 = .ok (.iload_n 3, 1) := by decide +kernel
theorem dX6_deed_8 : decode cX6_deed 8 = .ok (.iconst 5, 1) := by decide +kernel
theorem dX6_deed_9 : decode cX6_deed 9 = .ok (.invokestatic 185, 3) := by decide +kernel
theorem dX6_deed_12 : decode cX6_deed 12 = .ok (.ireturn, 1) := by decide +kernel
theorem dX6_drawn_0 : decode cX6_drawn 0 = .ok (.aload_n 0, 1) := by decide +kernel
theorem dX6_drawn_1 : decode cX6_drawn 1 = .ok (.iload_n 1, 1) := by decide +kernel
theorem dX6_drawn_2 : decode cX6_drawn 2 = .ok (.invokevirtual 129, 3) := by decide +kernel
theorem dX6_drawn_5 : decode cX6_drawn 5 = .ok (.astore 5, 2) := by decide +kernel
theorem dX6_drawn_7 : decode cX6_drawn 7 = .ok (.aload 5, 2) := by decide +kernel
theorem dX6_drawn_9 : decode cX6_drawn 9 = .ok (.ifnull 13, 3) := by decide +kernel
theorem dX6_drawn_12 : decode cX6_drawn 12 = .ok (.iload_n 3, 1) := by decide +kernel
theorem dX6_drawn_13 : decode cX6_drawn 13 = .ok (.ifCond .lt 9, 3) := by decide +kernel
theorem dX6_drawn_16 : decode cX6_drawn 16 = .ok (.iload_n 3, 1) := by decide +kernel
theorem dX6_drawn_17 : decode cX6_drawn 17 = .ok (.bipush 60, 2) := by decide +kernel
theorem dX6_drawn_19 : decode cX6_drawn 19 = .ok (.if_icmp .le 6, 3) := by decide +kernel
theorem dX6_drawn_22 : decode cX6_drawn 22 = .ok (.bipush (-2), 2) := by decide +kernel
theorem dX6_drawn_24 : decode cX6_drawn 24 = .ok (.ireturn, 1) := by decide +kernel
theorem dX6_drawn_25 : decode cX6_drawn 25 = .ok (.aload_n 0, 1) := by decide +kernel
theorem dX6_drawn_26 : decode cX6_drawn 26 = .ok (.getfield 30, 3) := by decide +kernel
theorem dX6_drawn_29 : decode cX6_drawn 29 = .ok (.aload 5, 2) := by decide +kernel
theorem dX6_drawn_31 : decode cX6_drawn 31 = .ok (.iload_n 2, 1) := by decide +kernel
theorem dX6_drawn_32 : decode cX6_drawn 32 = .ok (.iload_n 3, 1) := by decide +kernel
theorem dX6_drawn_33 : decode cX6_drawn 33 = .ok (.invokevirtual 265, 3) := by decide +kernel
theorem dX6_drawn_36 : decode cX6_drawn 36 = .ok (.iload 4, 2) := by decide +kernel
theorem dX6_drawn_38 : decode cX6_drawn 38 = .ok (.tableswitch 107 0 6 #[42, 53, 64, 75, 83, 91, 99], 42) := by decide +kernel
theorem dX6_drawn_80 : decode cX6_drawn 80 = .ok (.aload_n 0, 1) := by decide +kernel
theorem dX6_drawn_81 : decode cX6_drawn 81 = .ok (.getfield 30, 3) := by decide +kernel
theorem dX6_drawn_84 : decode cX6_drawn 84 = .ok (.getfield 247, 3) := by decide +kernel
theorem dX6_drawn_87 : decode cX6_drawn 87 = .ok (.getfield 248, 3) := by decide +kernel
theorem dX6_drawn_90 : decode cX6_drawn 90 = .ok (.ireturn, 1) := by decide +kernel
theorem dX6_drawn_91 : decode cX6_drawn 91 = .ok (.aload_n 0, 1) := by decide +kernel
theorem dX6_drawn_92 : decode cX6_drawn 92 = .ok (.getfield 30, 3) := by decide +kernel
theorem dX6_drawn_95 : decode cX6_drawn 95 = .ok (.getfield 247, 3) := by decide +kernel
theorem dX6_drawn_98 : decode cX6_drawn 98 = .ok (.getfield 249, 3) := by decide +kernel
theorem dX6_drawn_101 : decode cX6_drawn 101 = .ok (.ireturn, 1) := by decide +kernel
theorem dX6_drawn_102 : decode cX6_drawn 102 = .ok (.aload_n 0, 1) := by decide +kernel
theorem dX6_drawn_103 : decode cX6_drawn 103 = .ok (.getfield 30, 3) := by decide +kernel
theorem dX6_drawn_106 : decode cX6_drawn 106 = .ok (.getfield 247, 3) := by decide +kernel
theorem dX6_drawn_109 : decode cX6_drawn 109 = .ok (.getfield 250, 3) := by decide +kernel
theorem dX6_drawn_112 : decode cX6_drawn 112 = .ok (.ireturn, 1) := by decide +kernel
theorem dX6_drawn_113 : decode cX6_drawn 113 = .ok (.aload_n 0, 1) := by decide +kernel
theorem dX6_drawn_114 : decode cX6_drawn 114 = .ok (.getfield 30, 3) := by decide +kernel
theorem dX6_drawn_117 : decode cX6_drawn 117 = .ok (.getfield 241, 3) := by decide +kernel
theorem dX6_drawn_120 : decode cX6_drawn 120 = .ok (.ireturn, 1) := by decide +kernel
theorem dX6_drawn_121 : decode cX6_drawn 121 = .ok (.aload_n 0, 1) := by decide +kernel
theorem dX6_drawn_122 : decode cX6_drawn 122 = .ok (.getfield 30, 3) := by decide +kernel
theorem dX6_drawn_125 : decode cX6_drawn 125 = .ok (.getfield 251, 3) := by decide +kernel
theorem dX6_drawn_128 : decode cX6_drawn 128 = .ok (.ireturn, 1) := by decide +kernel
theorem dX6_drawn_129 : decode cX6_drawn 129 = .ok (.aload_n 0, 1) := by decide +kernel
theorem dX6_drawn_130 : decode cX6_drawn 130 = .ok (.getfield 30, 3) := by decide +kernel
theorem dX6_drawn_133 : decode cX6_drawn 133 = .ok (.getfield 269, 3) := by decide +kernel
theorem dX6_drawn_136 : decode cX6_drawn 136 = .ok (.ireturn, 1) := by decide +kernel
theorem dX6_drawn_137 : decode cX6_drawn 137 = .ok (.aload_n 0, 1) := by decide +kernel
theorem dX6_drawn_138 : decode cX6_drawn 138 = .ok (.getfield 30, 3) := by decide +kernel
theorem dX6_drawn_141 : decode cX6_drawn 141 = .ok (.getfield 272, 3) := by decide +kernel
theorem dX6_drawn_144 : decode cX6_drawn 144 = .ok (.ireturn, 1) := by decide +kernel
theorem dX6_drawn_145 : decode cX6_drawn 145 = .ok (.bipush (-2), 2) := by decide +kernel
theorem dX6_drawn_147 : decode cX6_drawn 147 = .ok (.ireturn, 1) := by decide +kernel
theorem dX6_fits_0 : decode cX6_fits 0 = .ok (.aload_n 0, 1) := by decide +kernel
theorem dX6_fits_1 : decode cX6_fits 1 = .ok (.iload_n 1, 1) := by decide +kernel
theorem dX6_fits_2 : decode cX6_fits 2 = .ok (.iload_n 3, 1) := by decide +kernel
theorem dX6_fits_3 : decode cX6_fits 3 = .ok (.iload 4, 2) := by decide +kernel
theorem dX6_fits_5 : decode cX6_fits 5 = .ok (.iconst 0, 1) := by decide +kernel
theorem dX6_fits_6 : decode cX6_fits 6 = .ok (.invokevirtual 200, 3) := by decide +kernel
theorem dX6_fits_9 : decode cX6_fits 9 = .ok (.astore 6, 2) := by decide +kernel
theorem dX6_fits_11 : decode cX6_fits 11 = .ok (.aload_n 0, 1) := by decide +kernel
theorem dX6_fits_12 : decode cX6_fits 12 = .ok (.iconst 3, 1) := by decide +kernel
theorem dX6_fits_13 : decode cX6_fits 13 = .ok (.iload_n 2, 1) := by decide +kernel
theorem dX6_fits_14 : decode cX6_fits 14 = .ok (.invokevirtual 182, 3) := by decide +kernel
theorem dX6_fits_17 : decode cX6_fits 17 = .ok (.astore 7, 2) := by decide +kernel
theorem dX6_fits_19 : decode cX6_fits 19 = .ok (.aload 6, 2) := by decide +kernel
theorem dX6_fits_21 : decode cX6_fits 21 = .ok (.ifnull 18, 3) := by decide +kernel
theorem dX6_fits_24 : decode cX6_fits 24 = .ok (.aload 7, 2) := by decide +kernel
theorem dX6_fits_26 : decode cX6_fits 26 = .ok (.ifnull 13, 3) := by decide +kernel
theorem dX6_fits_29 : decode cX6_fits 29 = .ok (.aload 6, 2) := by decide +kernel
theorem dX6_fits_31 : decode cX6_fits 31 = .ok (.aload 7, 2) := by decide +kernel
theorem dX6_fits_33 : decode cX6_fits 33 = .ok (.invokestatic 398, 3) := by decide +kernel
theorem dX6_fits_36 : decode cX6_fits 36 = .ok (.ifCond .ne 6, 3) := by decide +kernel
theorem dX6_fits_39 : decode cX6_fits 39 = .ok (.bipush (-2), 2) := by decide +kernel
theorem dX6_fits_41 : decode cX6_fits 41 = .ok (.ireturn, 1) := by decide +kernel
theorem dX6_fits_42 : decode cX6_fits 42 = .ok (.iload 5, 2) := by decide +kernel
theorem dX6_fits_44 : decode cX6_fits 44 = .ok (.tableswitch 187 0 22 #[108, 120, 120, 142, 187, 187, 187, 187, 187, 187, 153, 153, 153, 187, 187, 187, 187, 187, 187, 187, 170, 170, 170], 108) := by decide +kernel
theorem dX6_fits_152 : decode cX6_fits 152 = .ok (.aload 6, 2) := by decide +kernel
theorem dX6_fits_154 : decode cX6_fits 154 = .ok (.aload 7, 2) := by decide +kernel
theorem dX6_fits_156 : decode cX6_fits 156 = .ok (.iload_n 3, 1) := by decide +kernel
theorem dX6_fits_157 : decode cX6_fits 157 = .ok (.iload 4, 2) := by decide +kernel
theorem dX6_fits_159 : decode cX6_fits 159 = .ok (.iconst 0, 1) := by decide +kernel
theorem dX6_fits_160 : decode cX6_fits 160 = .ok (.invokestatic 402, 3) := by decide +kernel
theorem dX6_fits_163 : decode cX6_fits 163 = .ok (.ireturn, 1) := by decide +kernel
theorem dX6_fits_164 : decode cX6_fits 164 = .ok (.aload 6, 2) := by decide +kernel
theorem dX6_fits_166 : decode cX6_fits 166 = .ok (.aload 7, 2) := by decide +kernel
theorem dX6_fits_168 : decode cX6_fits 168 = .ok (.iload_n 3, 1) := by decide +kernel
theorem dX6_fits_169 : decode cX6_fits 169 = .ok (.iload 4, 2) := by decide +kernel
theorem dX6_fits_171 : decode cX6_fits 171 = .ok (.iload 5, 2) := by decide +kernel
theorem dX6_fits_173 : decode cX6_fits 173 = .ok (.iconst 2, 1) := by decide +kernel
theorem dX6_fits_174 : decode cX6_fits 174 = .ok (.if_icmp .ne 7, 3) := by decide +kernel
theorem dX6_fits_177 : decode cX6_fits 177 = .ok (.iconst 1, 1) := by decide +kernel
theorem dX6_fits_178 : decode cX6_fits 178 = .ok (.goto 4, 3) := by decide +kernel
theorem dX6_fits_181 : decode cX6_fits 181 = .ok (.iconst 0, 1) := by decide +kernel
theorem dX6_fits_182 : decode cX6_fits 182 = .ok (.invokestatic 405, 3) := by decide +kernel
theorem dX6_fits_185 : decode cX6_fits 185 = .ok (.ireturn, 1) := by decide +kernel
theorem dX6_fits_186 : decode cX6_fits 186 = .ok (.aload 6, 2) := by decide +kernel
theorem dX6_fits_188 : decode cX6_fits 188 = .ok (.aload 7, 2) := by decide +kernel
theorem dX6_fits_190 : decode cX6_fits 190 = .ok (.iload_n 3, 1) := by decide +kernel
theorem dX6_fits_191 : decode cX6_fits 191 = .ok (.iload 4, 2) := by decide +kernel
theorem dX6_fits_193 : decode cX6_fits 193 = .ok (.invokestatic 408, 3) := by decide +kernel
theorem dX6_fits_196 : decode cX6_fits 196 = .ok (.ireturn, 1) := by decide +kernel
theorem dX6_fits_197 : decode cX6_fits 197 = .ok (.aload 6, 2) := by decide +kernel
theorem dX6_fits_199 : decode cX6_fits 199 = .ok (.aload 7, 2) := by decide +kernel
theorem dX6_fits_201 : decode cX6_fits 201 = .ok (.iload_n 3, 1) := by decide +kernel
theorem dX6_fits_202 : decode cX6_fits 202 = .ok (.iload 4, 2) := by decide +kernel
theorem dX6_fits_204 : decode cX6_fits 204 = .ok (.iload 5, 2) := by decide +kernel
theorem dX6_fits_206 : decode cX6_fits 206 = .ok (.bipush 10, 2) := by decide +kernel
theorem dX6_fits_208 : decode cX6_fits 208 = .ok (.isub, 1) := by decide +kernel
theorem dX6_fits_209 : decode cX6_fits 209 = .ok (.iconst 0, 1) := by decide +kernel
theorem dX6_fits_210 : decode cX6_fits 210 = .ok (.invokestatic 411, 3) := by decide +kernel
theorem dX6_fits_213 : decode cX6_fits 213 = .ok (.ireturn, 1) := by decide +kernel
theorem dX6_fits_214 : decode cX6_fits 214 = .ok (.aload 6, 2) := by decide +kernel
theorem dX6_fits_216 : decode cX6_fits 216 = .ok (.aload 7, 2) := by decide +kernel
theorem dX6_fits_218 : decode cX6_fits 218 = .ok (.iload_n 3, 1) := by decide +kernel
theorem dX6_fits_219 : decode cX6_fits 219 = .ok (.iload 4, 2) := by decide +kernel
theorem dX6_fits_221 : decode cX6_fits 221 = .ok (.iload 5, 2) := by decide +kernel
theorem dX6_fits_223 : decode cX6_fits 223 = .ok (.bipush 20, 2) := by decide +kernel
theorem dX6_fits_225 : decode cX6_fits 225 = .ok (.isub, 1) := by decide +kernel
theorem dX6_fits_226 : decode cX6_fits 226 = .ok (.iconst 1, 1) := by decide +kernel
theorem dX6_fits_227 : decode cX6_fits 227 = .ok (.invokestatic 411, 3) := by decide +kernel
theorem dX6_fits_230 : decode cX6_fits 230 = .ok (.ireturn, 1) := by decide +kernel
theorem dX6_fits_231 : decode cX6_fits 231 = .ok (.bipush (-2), 2) := by decide +kernel
theorem dX6_fits_233 : decode cX6_fits 233 = .ok (.ireturn, 1) := by decide +kernel
theorem dX6_init_0 : decode cX6_init 0 = .ok (.aload_n 0, 1) := by decide +kernel
theorem dX6_init_1 : decode cX6_init 1 = .ok (.invokespecial 1, 3) := by decide +kernel
theorem dX6_init_4 : decode cX6_init 4 = .ok (.aload_n 0, 1) := by decide +kernel
theorem dX6_init_5 : decode cX6_init 5 = .ok (.new 7, 3) := by decide +kernel
theorem dX6_init_8 : decode cX6_init 8 = .ok (.dup, 1) := by decide +kernel
theorem dX6_init_9 : decode cX6_init 9 = .ok (.invokespecial 9, 3) := by decide +kernel
theorem dX6_init_12 : decode cX6_init 12 = .ok (.putfield 10, 3) := by decide +kernel
theorem dX6_init_15 : decode cX6_init 15 = .ok (.aload_n 0, 1) := by decide +kernel
theorem dX6_init_16 : decode cX6_init 16 = .ok (.iconst 3, 1) := by decide +kernel
theorem dX6_init_17 : decode cX6_init 17 = .ok (.anewarray 7, 3) := by decide +kernel
theorem dX6_init_20 : decode cX6_init 20 = .ok (.putfield 16, 3) := by decide +kernel
theorem dX6_init_23 : decode cX6_init 23 = .ok (.aload_n 0, 1) := by decide +kernel
theorem dX6_init_24 : decode cX6_init 24 = .ok (.new 20, 3) := by decide +kernel
theorem dX6_init_27 : decode cX6_init 27 = .ok (.dup, 1) := by decide +kernel
theorem dX6_init_28 : decode cX6_init 28 = .ok (.invokespecial 22, 3) := by decide +kernel
theorem dX6_init_31 : decode cX6_init 31 = .ok (.putfield 23, 3) := by decide +kernel
theorem dX6_init_34 : decode cX6_init 34 = .ok (.aload_n 0, 1) := by decide +kernel
theorem dX6_init_35 : decode cX6_init 35 = .ok (.new 27, 3) := by decide +kernel
theorem dX6_init_38 : decode cX6_init 38 = .ok (.dup, 1) := by decide +kernel
theorem dX6_init_39 : decode cX6_init 39 = .ok (.invokespecial 29, 3) := by decide +kernel
theorem dX6_init_42 : decode cX6_init 42 = .ok (.putfield 30, 3) := by decide +kernel
theorem dX6_init_45 : decode cX6_init 45 = .ok (.aload_n 0, 1) := by decide +kernel
theorem dX6_init_46 : decode cX6_init 46 = .ok (.new 34, 3) := by decide +kernel
theorem dX6_init_49 : decode cX6_init 49 = .ok (.dup, 1) := by decide +kernel
theorem dX6_init_50 : decode cX6_init 50 = .ok (.invokespecial 36, 3) := by decide +kernel
theorem dX6_init_53 : decode cX6_init 53 = .ok (.putfield 37, 3) := by decide +kernel
theorem dX6_init_56 : decode cX6_init 56 = .ok (.aload_n 0, 1) := by decide +kernel
theorem dX6_init_57 : decode cX6_init 57 = .ok (.bipush 40, 2) := by decide +kernel
theorem dX6_init_59 : decode cX6_init 59 = .ok (.newarray .int, 2) := by decide +kernel
theorem dX6_init_61 : decode cX6_init 61 = .ok (.putfield 41, 3) := by decide +kernel
theorem dX6_init_64 : decode cX6_init 64 = .ok (.aload_n 0, 1) := by decide +kernel
theorem dX6_init_65 : decode cX6_init 65 = .ok (.sipush 216, 3) := by decide +kernel
theorem dX6_init_68 : decode cX6_init 68 = .ok (.newarray .int, 2) := by decide +kernel
theorem dX6_init_70 : decode cX6_init 70 = .ok (.putfield 45, 3) := by decide +kernel
theorem dX6_init_73 : decode cX6_init 73 = .ok (.aload_n 0, 1) := by decide +kernel
theorem dX6_init_74 : decode cX6_init 74 = .ok (.sipush 1000, 3) := by decide +kernel
theorem dX6_init_77 : decode cX6_init 77 = .ok (.newarray .int, 2) := by decide +kernel
theorem dX6_init_79 : decode cX6_init 79 = .ok (.putfield 48, 3) := by decide +kernel
theorem dX6_init_82 : decode cX6_init 82 = .ok (.return_, 1) := by decide +kernel
theorem dX6_isAmount_0 : decode cX6_isAmount 0 = .ok (.iload_n 0, 1) := by decide +kernel
theorem dX6_isAmount_1 : decode cX6_isAmount 1 = .ok (.ifCond .lt 13, 3) := by decide +kernel
theorem dX6_isAmount_4 : decode cX6_isAmount 4 = .ok (.iload_n 0, 1) := by decide +kernel
theorem dX6_isAmount_5 : decode cX6_isAmount 5 = .ok (.bipush 10, 2) := by decide +kernel
theorem dX6_isAmount_7 : decode cX6_isAmount 7 = .ok (.if_icmp .ge 7, 3) := by decide +kernel
theorem dX6_isAmount_10 : decode cX6_isAmount 10 = .ok (.iconst 1, 1) := by decide +kernel
theorem dX6_isAmount_11 : decode cX6_isAmount 11 = .ok (.goto 4, 3) := by decide +kernel
theorem dX6_isAmount_14 : decode cX6_isAmount 14 = .ok (.iconst 0, 1) := by decide +kernel
theorem dX6_isAmount_15 : decode cX6_isAmount 15 = .ok (.ireturn, 1) := by decide +kernel
theorem dX6_isSeason_0 : decode cX6_isSeason 0 = .ok (.iload_n 0, 1) := by decide +kernel
theorem dX6_isSeason_1 : decode cX6_isSeason 1 = .ok (.ifCond .lt 12, 3) := by decide +kernel
theorem dX6_isSeason_4 : decode cX6_isSeason 4 = .ok (.iload_n 0, 1) := by decide +kernel
theorem dX6_isSeason_5 : decode cX6_isSeason 5 = .ok (.iconst 4, 1) := by decide +kernel
theorem dX6_isSeason_6 : decode cX6_isSeason 6 = .ok (.if_icmp .ge 7, 3) := by decide +kernel
theorem dX6_isSeason_9 : decode cX6_isSeason 9 = .ok (.iconst 1, 1) := by decide +kernel
theorem dX6_isSeason_10 : decode cX6_isSeason 10 = .ok (.goto 4, 3) := by decide +kernel
theorem dX6_isSeason_13 : decode cX6_isSeason 13 = .ok (.iconst 0, 1) := by decide +kernel
theorem dX6_isSeason_14 : decode cX6_isSeason 14 = .ok (.ireturn, 1) := by decide +kernel
theorem dX6_leak_0 : decode cX6_leak 0 = .ok (.aload_n 0, 1) := by decide +kernel
theorem dX6_leak_1 : decode cX6_leak 1 = .ok (.iconst 3, 1) := by decide +kernel
theorem dX6_leak_2 : decode cX6_leak 2 = .ok (.iload_n 1, 1) := by decide +kernel
theorem dX6_leak_3 : decode cX6_leak 3 = .ok (.invokevirtual 182, 3) := by decide +kernel
theorem dX6_leak_6 : decode cX6_leak 6 = .ok (.iload_n 2, 1) := by decide +kernel
theorem dX6_leak_7 : decode cX6_leak 7 = .ok (.iload_n 3, 1) := by decide +kernel
theorem dX6_leak_8 : decode cX6_leak 8 = .ok (.iconst 2, 1) := by decide +kernel
theorem dX6_leak_9 : decode cX6_leak 9 = .ok (.invokestatic 185, 3) := by decide +kernel
theorem dX6_leak_12 : decode cX6_leak 12 = .ok (.ireturn, 1) := by decide +kernel
theorem dX6_lobby_0 : decode cX6_lobby 0 = .ok (.iload 4, 2) := by decide +kernel
theorem dX6_lobby_2 : decode cX6_lobby 2 = .ok (.iload 5, 2) := by decide +kernel
theorem dX6_lobby_4 : decode cX6_lobby 4 = .ok (.iload 6, 2) := by decide +kernel
theorem dX6_lobby_6 : decode cX6_lobby 6 = .ok (.invokestatic 196, 3) := by decide +kernel
theorem dX6_lobby_9 : decode cX6_lobby 9 = .ok (.istore 8, 2) := by decide +kernel
theorem dX6_lobby_11 : decode cX6_lobby 11 = .ok (.aload_n 0, 1) := by decide +kernel
theorem dX6_lobby_12 : decode cX6_lobby 12 = .ok (.iload_n 1, 1) := by decide +kernel
theorem dX6_lobby_13 : decode cX6_lobby 13 = .ok (.iload_n 2, 1) := by decide +kernel
theorem dX6_lobby_14 : decode cX6_lobby 14 = .ok (.iload_n 3, 1) := by decide +kernel
theorem dX6_lobby_15 : decode cX6_lobby 15 = .ok (.iload 8, 2) := by decide +kernel
theorem dX6_lobby_17 : decode cX6_lobby 17 = .ok (.invokevirtual 200, 3) := by decide +kernel
theorem dX6_lobby_20 : decode cX6_lobby 20 = .ok (.astore 9, 2) := by decide +kernel
theorem dX6_lobby_22 : decode cX6_lobby 22 = .ok (.aload 9, 2) := by decide +kernel
theorem dX6_lobby_24 : decode cX6_lobby 24 = .ok (.ifnonnull 5, 3) := by decide +kernel
theorem dX6_lobby_27 : decode cX6_lobby 27 = .ok (.iconst (-1), 1) := by decide +kernel
theorem dX6_lobby_28 : decode cX6_lobby 28 = .ok (.ireturn, 1) := by decide +kernel
theorem dX6_lobby_29 : decode cX6_lobby 29 = .ok (.aload 9, 2) := by decide +kernel
theorem dX6_lobby_31 : decode cX6_lobby 31 = .ok (.iload_n 2, 1) := by decide +kernel
theorem dX6_lobby_32 : decode cX6_lobby 32 = .ok (.iload_n 3, 1) := by decide +kernel
theorem dX6_lobby_33 : decode cX6_lobby 33 = .ok (.iload 8, 2) := by decide +kernel
theorem dX6_lobby_35 : decode cX6_lobby 35 = .ok (.invokevirtual 207, 3) := by decide +kernel
theorem dX6_lobby_38 : decode cX6_lobby 38 = .ok (.istore 10, 2) := by decide +kernel
theorem dX6_lobby_40 : decode cX6_lobby 40 = .ok (.iconst 0, 1) := by decide +kernel
theorem dX6_lobby_41 : decode cX6_lobby 41 = .ok (.istore 11, 2) := by decide +kernel
theorem dX6_lobby_43 : decode cX6_lobby 43 = .ok (.iconst 0, 1) := by decide +kernel
theorem dX6_lobby_44 : decode cX6_lobby 44 = .ok (.istore 12, 2) := by decide +kernel
theorem dX6_lobby_46 : decode cX6_lobby 46 = .ok (.iload 12, 2) := by decide +kernel
theorem dX6_lobby_48 : decode cX6_lobby 48 = .ok (.aload 9, 2) := by decide +kernel
theorem dX6_lobby_50 : decode cX6_lobby 50 = .ok (.getfield 132, 3) := by decide +kernel
theorem dX6_lobby_53 : decode cX6_lobby 53 = .ok (.if_icmp .gt 61, 3) := by decide +kernel
theorem dX6_lobby_56 : decode cX6_lobby 56 = .ok (.iconst 0, 1) := by decide +kernel
theorem dX6_lobby_57 : decode cX6_lobby 57 = .ok (.istore 13, 2) := by decide +kernel
theorem dX6_lobby_59 : decode cX6_lobby 59 = .ok (.iload 13, 2) := by decide +kernel
theorem dX6_lobby_61 : decode cX6_lobby 61 = .ok (.aload 9, 2) := by decide +kernel
theorem dX6_lobby_63 : decode cX6_lobby 63 = .ok (.getfield 132, 3) := by decide +kernel
theorem dX6_lobby_66 : decode cX6_lobby 66 = .ok (.if_icmp .gt 42, 3) := by decide +kernel
theorem dX6_lobby_69 : decode cX6_lobby 69 = .ok (.aload 9, 2) := by decide +kernel
theorem dX6_lobby_71 : decode cX6_lobby 71 = .ok (.iload 10, 2) := by decide +kernel
theorem dX6_lobby_73 : decode cX6_lobby 73 = .ok (.iload 12, 2) := by decide +kernel
theorem dX6_lobby_75 : decode cX6_lobby 75 = .ok (.iload 13, 2) := by decide +kernel
theorem dX6_lobby_77 : decode cX6_lobby 77 = .ok (.invokestatic 333, 3) := by decide +kernel
theorem dX6_lobby_80 : decode cX6_lobby 80 = .ok (.ifCond .eq 22, 3) := by decide +kernel
theorem dX6_lobby_83 : decode cX6_lobby 83 = .ok (.iload 11, 2) := by decide +kernel
theorem dX6_lobby_85 : decode cX6_lobby 85 = .ok (.iload 7, 2) := by decide +kernel
theorem dX6_lobby_87 : decode cX6_lobby 87 = .ok (.if_icmp .ne 12, 3) := by decide +kernel
theorem dX6_lobby_90 : decode cX6_lobby 90 = .ok (.bipush 7, 2) := by decide +kernel
theorem dX6_lobby_92 : decode cX6_lobby 92 = .ok (.iload 12, 2) := by decide +kernel
theorem dX6_lobby_94 : decode cX6_lobby 94 = .ok (.imul, 1) := by decide +kernel
theorem dX6_lobby_95 : decode cX6_lobby 95 = .ok (.iload 13, 2) := by decide +kernel
theorem dX6_lobby_97 : decode cX6_lobby 97 = .ok (.iadd, 1) := by decide +kernel
theorem dX6_lobby_98 : decode cX6_lobby 98 = .ok (.ireturn, 1) := by decide +kernel
theorem dX6_lobby_99 : decode cX6_lobby 99 = .ok (.iinc 11 1, 3) := by decide +kernel
theorem dX6_lobby_102 : decode cX6_lobby 102 = .ok (.iinc 13 1, 3) := by decide +kernel
theorem dX6_lobby_105 : decode cX6_lobby 105 = .ok (.goto (-46), 3) := by decide +kernel
theorem dX6_lobby_108 : decode cX6_lobby 108 = .ok (.iinc 12 1, 3) := by decide +kernel
theorem dX6_lobby_111 : decode cX6_lobby 111 = .ok (.goto (-65), 3) := by decide +kernel
theorem dX6_lobby_114 : decode cX6_lobby 114 = .ok (.iload 7, 2) := by decide +kernel
theorem dX6_lobby_116 : decode cX6_lobby 116 = .ok (.iconst (-1), 1) := by decide +kernel
theorem dX6_lobby_117 : decode cX6_lobby 117 = .ok (.if_icmp .ne 8, 3) := by decide +kernel
theorem dX6_lobby_120 : decode cX6_lobby 120 = .ok (.iload 11, 2) := by decide +kernel
theorem dX6_lobby_122 : decode cX6_lobby 122 = .ok (.goto 4, 3) := by decide +kernel
theorem dX6_lobby_125 : decode cX6_lobby 125 = .ok (.iconst (-1), 1) := by decide +kernel
theorem dX6_lobby_126 : decode cX6_lobby 126 = .ok (.ireturn, 1) := by decide +kernel
theorem dX6_minister_0 : decode cX6_minister 0 = .ok (.aload_n 0, 1) := by decide +kernel
theorem dX6_minister_1 : decode cX6_minister 1 = .ok (.iload_n 1, 1) := by decide +kernel
theorem dX6_minister_2 : decode cX6_minister 2 = .ok (.invokevirtual 129, 3) := by decide +kernel
theorem dX6_minister_5 : decode cX6_minister 5 = .ok (.astore 4, 2) := by decide +kernel
theorem dX6_minister_7 : decode cX6_minister 7 = .ok (.aload 4, 2) := by decide +kernel
theorem dX6_minister_9 : decode cX6_minister 9 = .ok (.ifnull 12, 3) := by decide +kernel
theorem dX6_minister_12 : decode cX6_minister 12 = .ok (.aload 4, 2) := by decide +kernel
theorem dX6_minister_14 : decode cX6_minister 14 = .ok (.iload_n 2, 1) := by decide +kernel
theorem dX6_minister_15 : decode cX6_minister 15 = .ok (.invokevirtual 153, 3) := by decide +kernel
theorem dX6_minister_18 : decode cX6_minister 18 = .ok (.ifCond .ne 5, 3) := by decide +kernel
theorem dX6_minister_21 : decode cX6_minister 21 = .ok (.iconst (-1), 1) := by decide +kernel
theorem dX6_minister_22 : decode cX6_minister 22 = .ok (.ireturn, 1) := by decide +kernel
theorem dX6_minister_23 : decode cX6_minister 23 = .ok (.iload_n 3, 1) := by decide +kernel
theorem dX6_minister_24 : decode cX6_minister 24 = .ok (.tableswitch 108 0 5 #[40, 50, 60, 70, 80, 98], 40) := by decide +kernel
theorem dX6_minister_64 : decode cX6_minister 64 = .ok (.aload 4, 2) := by decide +kernel
theorem dX6_minister_66 : decode cX6_minister 66 = .ok (.getfield 157, 3) := by decide +kernel
theorem dX6_minister_69 : decode cX6_minister 69 = .ok (.iload_n 2, 1) := by decide +kernel
theorem dX6_minister_70 : decode cX6_minister 70 = .ok (.invokestatic 88, 3) := by decide +kernel
theorem dX6_minister_73 : decode cX6_minister 73 = .ok (.ireturn, 1) := by decide +kernel
theorem dX6_minister_74 : decode cX6_minister 74 = .ok (.aload 4, 2) := by decide +kernel
theorem dX6_minister_76 : decode cX6_minister 76 = .ok (.getfield 160, 3) := by decide +kernel
theorem dX6_minister_79 : decode cX6_minister 79 = .ok (.iload_n 2, 1) := by decide +kernel
theorem dX6_minister_80 : decode cX6_minister 80 = .ok (.invokestatic 88, 3) := by decide +kernel
theorem dX6_minister_83 : decode cX6_minister 83 = .ok (.ireturn, 1) := by decide +kernel
theorem dX6_minister_84 : decode cX6_minister 84 = .ok (.aload 4, 2) := by decide +kernel
theorem dX6_minister_86 : decode cX6_minister 86 = .ok (.getfield 163, 3) := by decide +kernel
theorem dX6_minister_89 : decode cX6_minister 89 = .ok (.iload_n 2, 1) := by decide +kernel
theorem dX6_minister_90 : decode cX6_minister 90 = .ok (.invokestatic 88, 3) := by decide +kernel
theorem dX6_minister_93 : decode cX6_minister 93 = .ok (.ireturn, 1) := by decide +kernel
theorem dX6_minister_94 : decode cX6_minister 94 = .ok (.aload 4, 2) := by decide +kernel
theorem dX6_minister_96 : decode cX6_minister 96 = .ok (.getfield 166, 3) := by decide +kernel
theorem dX6_minister_99 : decode cX6_minister 99 = .ok (.iload_n 2, 1) := by decide +kernel
theorem dX6_minister_100 : decode cX6_minister 100 = .ok (.invokestatic 88, 3) := by decide +kernel
theorem dX6_minister_103 : decode cX6_minister 103 = .ok (.ireturn, 1) := by decide +kernel
theorem dX6_minister_104 : decode cX6_minister 104 = .ok (.aload 4, 2) := by decide +kernel
theorem dX6_minister_106 : decode cX6_minister 106 = .ok (.getfield 169, 3) := by decide +kernel
theorem dX6_minister_109 : decode cX6_minister 109 = .ok (.iload_n 2, 1) := by decide +kernel
theorem dX6_minister_110 : decode cX6_minister 110 = .ok (.invokestatic 172, 3) := by decide +kernel
theorem dX6_minister_113 : decode cX6_minister 113 = .ok (.ifCond .eq 7, 3) := by decide +kernel
theorem dX6_minister_116 : decode cX6_minister 116 = .ok (.iconst 1, 1) := by decide +kernel
theorem dX6_minister_117 : decode cX6_minister 117 = .ok (.goto 4, 3) := by decide +kernel
theorem dX6_minister_120 : decode cX6_minister 120 = .ok (.iconst 0, 1) := by decide +kernel
theorem dX6_minister_121 : decode cX6_minister 121 = .ok (.ireturn, 1) := by decide +kernel
theorem dX6_minister_122 : decode cX6_minister 122 = .ok (.aload 4, 2) := by decide +kernel
theorem dX6_minister_124 : decode cX6_minister 124 = .ok (.getfield 176, 3) := by decide +kernel
theorem dX6_minister_127 : decode cX6_minister 127 = .ok (.iload_n 2, 1) := by decide +kernel
theorem dX6_minister_128 : decode cX6_minister 128 = .ok (.invokestatic 88, 3) := by decide +kernel
theorem dX6_minister_131 : decode cX6_minister 131 = .ok (.ireturn, 1) := by decide +kernel
theorem dX6_minister_132 : decode cX6_minister 132 = .ok (.iload_n 3, 1) := by decide +kernel
theorem dX6_minister_133 : decode cX6_minister 133 = .ok (.bipush 10, 2) := by decide +kernel
theorem dX6_minister_135 : decode cX6_minister 135 = .ok (.if_icmp .lt 22, 3) := by decide +kernel
theorem dX6_minister_138 : decode cX6_minister 138 = .ok (.iload_n 3, 1) := by decide +kernel
theorem dX6_minister_139 : decode cX6_minister 139 = .ok (.bipush 22, 2) := by decide +kernel
theorem dX6_minister_141 : decode cX6_minister 141 = .ok (.if_icmp .ge 16, 3) := by decide +kernel
theorem dX6_minister_144 : decode cX6_minister 144 = .ok (.aload 4, 2) := by decide +kernel
theorem dX6_minister_146 : decode cX6_minister 146 = .ok (.iload_n 2, 1) := by decide +kernel
theorem dX6_minister_147 : decode cX6_minister 147 = .ok (.iload_n 3, 1) := by decide +kernel
theorem dX6_minister_148 : decode cX6_minister 148 = .ok (.bipush 10, 2) := by decide +kernel
theorem dX6_minister_150 : decode cX6_minister 150 = .ok (.isub, 1) := by decide +kernel
theorem dX6_minister_151 : decode cX6_minister 151 = .ok (.invokevirtual 179, 3) := by decide +kernel
theorem dX6_minister_154 : decode cX6_minister 154 = .ok (.goto 4, 3) := by decide +kernel
theorem dX6_minister_157 : decode cX6_minister 157 = .ok (.iconst (-1), 1) := by decide +kernel
theorem dX6_minister_158 : decode cX6_minister 158 = .ok (.ireturn, 1) := by decide +kernel
theorem dX6_movedIn_0 : decode cX6_movedIn 0 = .ok (.aload_n 0, 1) := by decide +kernel
theorem dX6_movedIn_1 : decode cX6_movedIn 1 = .ok (.iload_n 1, 1) := by decide +kernel
theorem dX6_movedIn_2 : decode cX6_movedIn 2 = .ok (.invokevirtual 129, 3) := by decide +kernel
theorem dX6_movedIn_5 : decode cX6_movedIn 5 = .ok (.astore 5, 2) := by decide +kernel
theorem dX6_movedIn_7 : decode cX6_movedIn 7 = .ok (.aload 5, 2) := by decide +kernel
theorem dX6_movedIn_9 : decode cX6_movedIn 9 = .ok (.ifnull 30, 3) := by decide +kernel
theorem dX6_movedIn_12 : decode cX6_movedIn 12 = .ok (.aload 5, 2) := by decide +kernel
theorem dX6_movedIn_14 : decode cX6_movedIn 14 = .ok (.iload_n 2, 1) := by decide +kernel
theorem dX6_movedIn_15 : decode cX6_movedIn 15 = .ok (.invokevirtual 153, 3) := by decide +kernel
theorem dX6_movedIn_18 : decode cX6_movedIn 18 = .ok (.ifCond .eq 21, 3) := by decide +kernel
theorem dX6_movedIn_21 : decode cX6_movedIn 21 = .ok (.iload_n 3, 1) := by decide +kernel
theorem dX6_movedIn_22 : decode cX6_movedIn 22 = .ok (.invokestatic 193, 3) := by decide +kernel
theorem dX6_movedIn_25 : decode cX6_movedIn 25 = .ok (.ifCond .eq 14, 3) := by decide +kernel
theorem dX6_movedIn_28 : decode cX6_movedIn 28 = .ok (.iload 4, 2) := by decide +kernel
theorem dX6_movedIn_30 : decode cX6_movedIn 30 = .ok (.iconst (-1), 1) := by decide +kernel
theorem dX6_movedIn_31 : decode cX6_movedIn 31 = .ok (.if_icmp .eq 8, 3) := by decide +kernel
theorem dX6_movedIn_34 : decode cX6_movedIn 34 = .ok (.aload 5, 2) := by decide +kernel
theorem dX6_movedIn_36 : decode cX6_movedIn 36 = .ok (.goto 4, 3) := by decide +kernel
theorem dX6_movedIn_39 : decode cX6_movedIn 39 = .ok (.aconst_null, 1) := by decide +kernel
theorem dX6_movedIn_40 : decode cX6_movedIn 40 = .ok (.areturn, 1) := by decide +kernel
theorem dX6_nature_0 : decode cX6_nature 0 = .ok (.aload_n 0, 1) := by decide +kernel
theorem dX6_nature_1 : decode cX6_nature 1 = .ok (.iload_n 1, 1) := by decide +kernel
theorem dX6_nature_2 : decode cX6_nature 2 = .ok (.invokevirtual 129, 3) := by decide +kernel
theorem dX6_nature_5 : decode cX6_nature 5 = .ok (.astore 4, 2) := by decide +kernel
theorem dX6_nature_7 : decode cX6_nature 7 = .ok (.aload_n 0, 1) := by decide +kernel
theorem dX6_nature_8 : decode cX6_nature 8 = .ok (.iconst 4, 1) := by decide +kernel
theorem dX6_nature_9 : decode cX6_nature 9 = .ok (.iload_n 2, 1) := by decide +kernel
theorem dX6_nature_10 : decode cX6_nature 10 = .ok (.invokevirtual 182, 3) := by decide +kernel
theorem dX6_nature_13 : decode cX6_nature 13 = .ok (.astore 5, 2) := by decide +kernel
theorem dX6_nature_15 : decode cX6_nature 15 = .ok (.aload 4, 2) := by decide +kernel
theorem dX6_nature_17 : decode cX6_nature 17 = .ok (.ifnull 8, 3) := by decide +kernel
theorem dX6_nature_20 : decode cX6_nature 20 = .ok (.aload 5, 2) := by decide +kernel
theorem dX6_nature_22 : decode cX6_nature 22 = .ok (.ifnonnull 6, 3) := by decide +kernel
theorem dX6_nature_25 : decode cX6_nature 25 = .ok (.bipush (-2), 2) := by decide +kernel
theorem dX6_nature_27 : decode cX6_nature 27 = .ok (.ireturn, 1) := by decide +kernel
theorem dX6_nature_28 : decode cX6_nature 28 = .ok (.iload_n 3, 1) := by decide +kernel
theorem dX6_nature_29 : decode cX6_nature 29 = .ok (.ifCond .ne 12, 3) := by decide +kernel
theorem dX6_nature_32 : decode cX6_nature 32 = .ok (.aload_n 0, 1) := by decide +kernel
theorem dX6_nature_33 : decode cX6_nature 33 = .ok (.aload 4, 2) := by decide +kernel
theorem dX6_nature_35 : decode cX6_nature 35 = .ok (.aload 5, 2) := by decide +kernel
theorem dX6_nature_37 : decode cX6_nature 37 = .ok (.invokevirtual 353, 3) := by decide +kernel
theorem dX6_nature_40 : decode cX6_nature 40 = .ok (.ireturn, 1) := by decide +kernel
theorem dX6_nature_41 : decode cX6_nature 41 = .ok (.aload_n 0, 1) := by decide +kernel
theorem dX6_nature_42 : decode cX6_nature 42 = .ok (.aload 4, 2) := by decide +kernel
theorem dX6_nature_44 : decode cX6_nature 44 = .ok (.aload 5, 2) := by decide +kernel
theorem dX6_nature_46 : decode cX6_nature 46 = .ok (.invokevirtual 357, 3) := by decide +kernel
theorem dX6_nature_49 : decode cX6_nature 49 = .ok (.istore 6, 2) := by decide +kernel
theorem dX6_nature_51 : decode cX6_nature 51 = .ok (.iload_n 3, 1) := by decide +kernel
theorem dX6_nature_52 : decode cX6_nature 52 = .ok (.iconst 1, 1) := by decide +kernel
theorem dX6_nature_53 : decode cX6_nature 53 = .ok (.if_icmp .ne 6, 3) := by decide +kernel
theorem dX6_nature_56 : decode cX6_nature 56 = .ok (.iload 6, 2) := by decide +kernel
theorem dX6_nature_58 : decode cX6_nature 58 = .ok (.ireturn, 1) := by decide +kernel
theorem dX6_nature_59 : decode cX6_nature 59 = .ok (.iload_n 3, 1) := by decide +kernel
theorem dX6_nature_60 : decode cX6_nature 60 = .ok (.bipush 10, 2) := by decide +kernel
theorem dX6_nature_62 : decode cX6_nature 62 = .ok (.if_icmp .lt 19, 3) := by decide +kernel
theorem dX6_nature_65 : decode cX6_nature 65 = .ok (.iload_n 3, 1) := by decide +kernel
theorem dX6_nature_66 : decode cX6_nature 66 = .ok (.bipush 10, 2) := by decide +kernel
theorem dX6_nature_68 : decode cX6_nature 68 = .ok (.isub, 1) := by decide +kernel
theorem dX6_nature_69 : decode cX6_nature 69 = .ok (.aload 5, 2) := by decide +kernel
theorem dX6_nature_71 : decode cX6_nature 71 = .ok (.getfield 189, 3) := by decide +kernel
theorem dX6_nature_74 : decode cX6_nature 74 = .ok (.if_icmp .ge 7, 3) := by decide +kernel
theorem dX6_nature_77 : decode cX6_nature 77 = .ok (.iconst 1, 1) := by decide +kernel
theorem dX6_nature_78 : decode cX6_nature 78 = .ok (.goto 4, 3) := by decide +kernel
theorem dX6_nature_81 : decode cX6_nature 81 = .ok (.iconst 0, 1) := by decide +kernel
theorem dX6_nature_82 : decode cX6_nature 82 = .ok (.istore 7, 2) := by decide +kernel
theorem dX6_nature_84 : decode cX6_nature 84 = .ok (.iload 7, 2) := by decide +kernel
theorem dX6_nature_86 : decode cX6_nature 86 = .ok (.ifCond .eq 23, 3) := by decide +kernel
theorem dX6_nature_89 : decode cX6_nature 89 = .ok (.iload 6, 2) := by decide +kernel
theorem dX6_nature_91 : decode cX6_nature 91 = .ok (.iconst (-1), 1) := by decide +kernel
theorem dX6_nature_92 : decode cX6_nature 92 = .ok (.if_icmp .eq 17, 3) := by decide +kernel
theorem dX6_nature_95 : decode cX6_nature 95 = .ok (.aload_n 0, 1) := by decide +kernel
theorem dX6_nature_96 : decode cX6_nature 96 = .ok (.getfield 41, 3) := by decide +kernel
theorem dX6_nature_99 : decode cX6_nature 99 = .ok (.iload_n 3, 1) := by decide +kernel
theorem dX6_nature_100 : decode cX6_nature 100 = .ok (.bipush 10, 2) := by decide +kernel
theorem dX6_nature_102 : decode cX6_nature 102 = .ok (.isub, 1) := by decide +kernel
theorem dX6_nature_103 : decode cX6_nature 103 = .ok (.invokestatic 88, 3) := by decide +kernel
theorem dX6_nature_106 : decode cX6_nature 106 = .ok (.goto 5, 3) := by decide +kernel
theorem dX6_nature_109 : decode cX6_nature 109 = .ok (.bipush (-2), 2) := by decide +kernel
theorem dX6_nature_111 : decode cX6_nature 111 = .ok (.ireturn, 1) := by decide +kernel
theorem dX6_numberOf_0 : decode cX6_numberOf 0 = .ok (.iload_n 0, 1) := by decide +kernel
theorem dX6_numberOf_1 : decode cX6_numberOf 1 = .ok (.bipush 10, 2) := by decide +kernel
theorem dX6_numberOf_3 : decode cX6_numberOf 3 = .ok (.imul, 1) := by decide +kernel
theorem dX6_numberOf_4 : decode cX6_numberOf 4 = .ok (.iload_n 1, 1) := by decide +kernel
theorem dX6_numberOf_5 : decode cX6_numberOf 5 = .ok (.iadd, 1) := by decide +kernel
theorem dX6_numberOf_6 : decode cX6_numberOf 6 = .ok (.bipush 10, 2) := by decide +kernel
theorem dX6_numberOf_8 : decode cX6_numberOf 8 = .ok (.imul, 1) := by decide +kernel
theorem dX6_numberOf_9 : decode cX6_numberOf 9 = .ok (.iload_n 2, 1) := by decide +kernel
theorem dX6_numberOf_10 : decode cX6_numberOf 10 = .ok (.iadd, 1) := by decide +kernel
theorem dX6_numberOf_11 : decode cX6_numberOf 11 = .ok (.ireturn, 1) := by decide +kernel
theorem dX6_off_0 : decode cX6_off 0 = .ok (.iload 4, 2) := by decide +kernel
theorem dX6_off_2 : decode cX6_off 2 = .ok (.iload 5, 2) := by decide +kernel
theorem dX6_off_4 : decode cX6_off 4 = .ok (.iload 6, 2) := by decide +kernel
theorem dX6_off_6 : decode cX6_off 6 = .ok (.invokestatic 196, 3) := by decide +kernel
theorem dX6_off_9 : decode cX6_off 9 = .ok (.istore 7, 2) := by decide +kernel
theorem dX6_off_11 : decode cX6_off 11 = .ok (.aload_n 0, 1) := by decide +kernel
theorem dX6_off_12 : decode cX6_off 12 = .ok (.iload_n 1, 1) := by decide +kernel
theorem dX6_off_13 : decode cX6_off 13 = .ok (.iload_n 2, 1) := by decide +kernel
theorem dX6_off_14 : decode cX6_off 14 = .ok (.iload_n 3, 1) := by decide +kernel
theorem dX6_off_15 : decode cX6_off 15 = .ok (.iload 7, 2) := by decide +kernel
theorem dX6_off_17 : decode cX6_off 17 = .ok (.invokevirtual 200, 3) := by decide +kernel
theorem dX6_off_20 : decode cX6_off 20 = .ok (.astore 8, 2) := by decide +kernel
theorem dX6_off_22 : decode cX6_off 22 = .ok (.aload 8, 2) := by decide +kernel
theorem dX6_off_24 : decode cX6_off 24 = .ok (.ifnonnull 7, 3) := by decide +kernel
theorem dX6_off_27 : decode cX6_off 27 = .ok (.iconst (-1), 1) := by decide +kernel
theorem dX6_off_28 : decode cX6_off 28 = .ok (.goto 12, 3) := by decide +kernel
theorem dX6_off_31 : decode cX6_off 31 = .ok (.aload 8, 2) := by decide +kernel
theorem dX6_off_33 : decode cX6_off 33 = .ok (.iload_n 2, 1) := by decide +kernel
theorem dX6_off_34 : decode cX6_off 34 = .ok (.iload_n 3, 1) := by decide +kernel
theorem dX6_off_35 : decode cX6_off 35 = .ok (.iload 7, 2) := by decide +kernel
theorem dX6_off_37 : decode cX6_off 37 = .ok (.invokevirtual 204, 3) := by decide +kernel
theorem dX6_off_40 : decode cX6_off 40 = .ok (.ireturn, 1) := by decide +kernel
theorem dX6_order_0 : decode cX6_order 0 = .ok (.aload_n 0, 1) := by decide +kernel
theorem dX6_order_1 : decode cX6_order 1 = .ok (.iconst 1, 1) := by decide +kernel
theorem dX6_order_2 : decode cX6_order 2 = .ok (.iload_n 1, 1) := by decide +kernel
theorem dX6_order_3 : decode cX6_order 3 = .ok (.invokevirtual 182, 3) := by decide +kernel
theorem dX6_order_6 : decode cX6_order 6 = .ok (.iload_n 2, 1) := by decide +kernel
theorem dX6_order_7 : decode cX6_order 7 = .ok (.iload_n 3, 1) := by decide +kernel
theorem dX6_order_8 : decode cX6_order 8 = .ok (.iconst 5, 1) := by decide +kernel
theorem dX6_order_9 : decode cX6_order 9 = .ok (.invokestatic 185, 3) := by decide +kernel
theorem dX6_order_12 : decode cX6_order 12 = .ok (.ireturn, 1) := by decide +kernel
theorem dX6_power_0 : decode cX6_power 0 = .ok (.aload_n 0, 1) := by decide +kernel
theorem dX6_power_1 : decode cX6_power 1 = .ok (.iload_n 1, 1) := by decide +kernel
theorem dX6_power_2 : decode cX6_power 2 = .ok (.invokevirtual 129, 3) := by decide +kernel
theorem dX6_power_5 : decode cX6_power 5 = .ok (.astore 4, 2) := by decide +kernel
theorem dX6_power_7 : decode cX6_power 7 = .ok (.aload 4, 2) := by decide +kernel
theorem dX6_power_9 : decode cX6_power 9 = .ok (.ifnull 12, 3) := by decide +kernel
theorem dX6_power_12 : decode cX6_power 12 = .ok (.aload 4, 2) := by decide +kernel
theorem dX6_power_14 : decode cX6_power 14 = .ok (.iload_n 2, 1) := by decide +kernel
theorem dX6_power_15 : decode cX6_power 15 = .ok (.invokevirtual 153, 3) := by decide +kernel
theorem dX6_power_18 : decode cX6_power 18 = .ok (.ifCond .ne 5, 3) := by decide +kernel
theorem dX6_power_21 : decode cX6_power 21 = .ok (.iconst (-1), 1) := by decide +kernel
theorem dX6_power_22 : decode cX6_power 22 = .ok (.ireturn, 1) := by decide +kernel
theorem dX6_power_23 : decode cX6_power 23 = .ok (.aload 4, 2) := by decide +kernel
theorem dX6_power_25 : decode cX6_power 25 = .ok (.iload_n 2, 1) := by decide +kernel
theorem dX6_power_26 : decode cX6_power 26 = .ok (.invokestatic 300, 3) := by decide +kernel
theorem dX6_power_29 : decode cX6_power 29 = .ok (.getstatic 303, 3) := by decide +kernel
theorem dX6_power_32 : decode cX6_power 32 = .ok (.aload 4, 2) := by decide +kernel
theorem dX6_power_34 : decode cX6_power 34 = .ok (.getfield 132, 3) := by decide +kernel
theorem dX6_power_37 : decode cX6_power 37 = .ok (.invokestatic 88, 3) := by decide +kernel
theorem dX6_power_40 : decode cX6_power 40 = .ok (.iload_n 3, 1) := by decide +kernel
theorem dX6_power_41 : decode cX6_power 41 = .ok (.invokestatic 306, 3) := by decide +kernel
theorem dX6_power_44 : decode cX6_power 44 = .ok (.ireturn, 1) := by decide +kernel
theorem dX6_put_0 : decode cX6_put 0 = .ok (.iload_n 1, 1) := by decide +kernel
theorem dX6_put_1 : decode cX6_put 1 = .ok (.ifCond .lt 13, 3) := by decide +kernel
theorem dX6_put_4 : decode cX6_put 4 = .ok (.iload_n 1, 1) := by decide +kernel
theorem dX6_put_5 : decode cX6_put 5 = .ok (.aload_n 0, 1) := by decide +kernel
theorem dX6_put_6 : decode cX6_put 6 = .ok (.arraylength, 1) := by decide +kernel
theorem dX6_put_7 : decode cX6_put 7 = .ok (.if_icmp .ge 7, 3) := by decide +kernel
theorem dX6_put_10 : decode cX6_put 10 = .ok (.aload_n 0, 1) := by decide +kernel
theorem dX6_put_11 : decode cX6_put 11 = .ok (.iload_n 1, 1) := by decide +kernel
theorem dX6_put_12 : decode cX6_put 12 = .ok (.iload_n 2, 1) := by decide +kernel
theorem dX6_put_13 : decode cX6_put 13 = .ok (.iastore, 1) := by decide +kernel
theorem dX6_put_14 : decode cX6_put 14 = .ok (.return_, 1) := by decide +kernel
theorem dX6_republic_0 : decode cX6_republic 0 = .ok (.aload_n 0, 1) := by decide +kernel
theorem dX6_republic_1 : decode cX6_republic 1 = .ok (.iload_n 1, 1) := by decide +kernel
theorem dX6_republic_2 : decode cX6_republic 2 = .ok (.invokevirtual 129, 3) := by decide +kernel
theorem dX6_republic_5 : decode cX6_republic 5 = .ok (.astore_n 3, 1) := by decide +kernel
theorem dX6_republic_6 : decode cX6_republic 6 = .ok (.aload_n 3, 1) := by decide +kernel
theorem dX6_republic_7 : decode cX6_republic 7 = .ok (.ifnonnull 5, 3) := by decide +kernel
theorem dX6_republic_10 : decode cX6_republic 10 = .ok (.iconst (-1), 1) := by decide +kernel
theorem dX6_republic_11 : decode cX6_republic 11 = .ok (.ireturn, 1) := by decide +kernel
theorem dX6_republic_12 : decode cX6_republic 12 = .ok (.iload_n 2, 1) := by decide +kernel
theorem dX6_republic_13 : decode cX6_republic 13 = .ok (.tableswitch 109 0 12 #[67, 72, 77, 82, 87, 92, 109, 109, 109, 109, 97, 97, 97], 67) := by decide +kernel
theorem dX6_republic_80 : decode cX6_republic 80 = .ok (.aload_n 3, 1) := by decide +kernel
theorem dX6_republic_81 : decode cX6_republic 81 = .ok (.getfield 132, 3) := by decide +kernel
theorem dX6_republic_84 : decode cX6_republic 84 = .ok (.ireturn, 1) := by decide +kernel
theorem dX6_republic_85 : decode cX6_republic 85 = .ok (.aload_n 3, 1) := by decide +kernel
theorem dX6_republic_86 : decode cX6_republic 86 = .ok (.getfield 135, 3) := by decide +kernel
theorem dX6_republic_89 : decode cX6_republic 89 = .ok (.ireturn, 1) := by decide +kernel
theorem dX6_republic_90 : decode cX6_republic 90 = .ok (.aload_n 3, 1) := by decide +kernel
theorem dX6_republic_91 : decode cX6_republic 91 = .ok (.getfield 138, 3) := by decide +kernel
theorem dX6_republic_94 : decode cX6_republic 94 = .ok (.ireturn, 1) := by decide +kernel
theorem dX6_republic_95 : decode cX6_republic 95 = .ok (.aload_n 3, 1) := by decide +kernel
theorem dX6_republic_96 : decode cX6_republic 96 = .ok (.getfield 141, 3) := by decide +kernel
theorem dX6_republic_99 : decode cX6_republic 99 = .ok (.ireturn, 1) := by decide +kernel
theorem dX6_republic_100 : decode cX6_republic 100 = .ok (.aload_n 3, 1) := by decide +kernel
theorem dX6_republic_101 : decode cX6_republic 101 = .ok (.getfield 144, 3) := by decide +kernel
theorem dX6_republic_104 : decode cX6_republic 104 = .ok (.ireturn, 1) := by decide +kernel
theorem dX6_republic_105 : decode cX6_republic 105 = .ok (.aload_n 3, 1) := by decide +kernel
theorem dX6_republic_106 : decode cX6_republic 106 = .ok (.getfield 147, 3) := by decide +kernel
theorem dX6_republic_109 : decode cX6_republic 109 = .ok (.ireturn, 1) := by decide +kernel
theorem dX6_republic_110 : decode cX6_republic 110 = .ok (.aload_n 3, 1) := by decide +kernel
theorem dX6_republic_111 : decode cX6_republic 111 = .ok (.getfield 150, 3) := by decide +kernel
theorem dX6_republic_114 : decode cX6_republic 114 = .ok (.iload_n 2, 1) := by decide +kernel
theorem dX6_republic_115 : decode cX6_republic 115 = .ok (.bipush 10, 2) := by decide +kernel
theorem dX6_republic_117 : decode cX6_republic 117 = .ok (.isub, 1) := by decide +kernel
theorem dX6_republic_118 : decode cX6_republic 118 = .ok (.invokestatic 88, 3) := by decide +kernel
theorem dX6_republic_121 : decode cX6_republic 121 = .ok (.ireturn, 1) := by decide +kernel
theorem dX6_republic_122 : decode cX6_republic 122 = .ok (.iconst (-1), 1) := by decide +kernel
theorem dX6_republic_123 : decode cX6_republic 123 = .ok (.ireturn, 1) := by decide +kernel
theorem dX6_republicAt_0 : decode cX6_republicAt 0 = .ok (.iload_n 1, 1) := by decide +kernel
theorem dX6_republicAt_1 : decode cX6_republicAt 1 = .ok (.ifCond .lt 29, 3) := by decide +kernel
theorem dX6_republicAt_4 : decode cX6_republicAt 4 = .ok (.iload_n 1, 1) := by decide +kernel
theorem dX6_republicAt_5 : decode cX6_republicAt 5 = .ok (.aload_n 0, 1) := by decide +kernel
theorem dX6_republicAt_6 : decode cX6_republicAt 6 = .ok (.getfield 10, 3) := by decide +kernel
theorem dX6_republicAt_9 : decode cX6_republicAt 9 = .ok (.getfield 85, 3) := by decide +kernel
theorem dX6_republicAt_12 : decode cX6_republicAt 12 = .ok (.iconst 0, 1) := by decide +kernel
theorem dX6_republicAt_13 : decode cX6_republicAt 13 = .ok (.invokestatic 88, 3) := by decide +kernel
theorem dX6_republicAt_16 : decode cX6_republicAt 16 = .ok (.if_icmp .ge 14, 3) := by decide +kernel
theorem dX6_republicAt_19 : decode cX6_republicAt 19 = .ok (.aload_n 0, 1) := by decide +kernel
theorem dX6_republicAt_20 : decode cX6_republicAt 20 = .ok (.getfield 10, 3) := by decide +kernel
theorem dX6_republicAt_23 : decode cX6_republicAt 23 = .ok (.iload_n 1, 1) := by decide +kernel
theorem dX6_republicAt_24 : decode cX6_republicAt 24 = .ok (.invokevirtual 92, 3) := by decide +kernel
theorem dX6_republicAt_27 : decode cX6_republicAt 27 = .ok (.goto 4, 3) := by decide +kernel
theorem dX6_republicAt_30 : decode cX6_republicAt 30 = .ok (.aconst_null, 1) := by decide +kernel
theorem dX6_republicAt_31 : decode cX6_republicAt 31 = .ok (.areturn, 1) := by decide +kernel
theorem dX6_reshuffle_0 : decode cX6_reshuffle 0 = .ok (.aload_n 0, 1) := by decide +kernel
theorem dX6_reshuffle_1 : decode cX6_reshuffle 1 = .ok (.iload_n 1, 1) := by decide +kernel
theorem dX6_reshuffle_2 : decode cX6_reshuffle 2 = .ok (.invokevirtual 129, 3) := by decide +kernel
theorem dX6_reshuffle_5 : decode cX6_reshuffle 5 = .ok (.astore_n 3, 1) := by decide +kernel
theorem dX6_reshuffle_6 : decode cX6_reshuffle 6 = .ok (.aload_n 3, 1) := by decide +kernel
theorem dX6_reshuffle_7 : decode cX6_reshuffle 7 = .ok (.ifnonnull 5, 3) := by decide +kernel
theorem dX6_reshuffle_10 : decode cX6_reshuffle 10 = .ok (.iconst (-1), 1) := by decide +kernel
theorem dX6_reshuffle_11 : decode cX6_reshuffle 11 = .ok (.ireturn, 1) := by decide +kernel
theorem dX6_reshuffle_12 : decode cX6_reshuffle 12 = .ok (.iconst (-1), 1) := by decide +kernel
theorem dX6_reshuffle_13 : decode cX6_reshuffle 13 = .ok (.istore 4, 2) := by decide +kernel
theorem dX6_reshuffle_15 : decode cX6_reshuffle 15 = .ok (.iconst (-1), 1) := by decide +kernel
theorem dX6_reshuffle_16 : decode cX6_reshuffle 16 = .ok (.istore 5, 2) := by decide +kernel
theorem dX6_reshuffle_18 : decode cX6_reshuffle 18 = .ok (.iconst 0, 1) := by decide +kernel
theorem dX6_reshuffle_19 : decode cX6_reshuffle 19 = .ok (.istore 6, 2) := by decide +kernel
theorem dX6_reshuffle_21 : decode cX6_reshuffle 21 = .ok (.iload 6, 2) := by decide +kernel
theorem dX6_reshuffle_23 : decode cX6_reshuffle 23 = .ok (.sipush 216, 3) := by decide +kernel
theorem dX6_reshuffle_26 : decode cX6_reshuffle 26 = .ok (.if_icmp .ge 41, 3) := by decide +kernel
theorem dX6_reshuffle_29 : decode cX6_reshuffle 29 = .ok (.aload_n 3, 1) := by decide +kernel
theorem dX6_reshuffle_30 : decode cX6_reshuffle 30 = .ok (.iload 6, 2) := by decide +kernel
theorem dX6_reshuffle_32 : decode cX6_reshuffle 32 = .ok (.invokevirtual 379, 3) := by decide +kernel
theorem dX6_reshuffle_35 : decode cX6_reshuffle 35 = .ok (.ifCond .eq 26, 3) := by decide +kernel
theorem dX6_reshuffle_38 : decode cX6_reshuffle 38 = .ok (.aload_n 3, 1) := by decide +kernel
theorem dX6_reshuffle_39 : decode cX6_reshuffle 39 = .ok (.iload 6, 2) := by decide +kernel
theorem dX6_reshuffle_41 : decode cX6_reshuffle 41 = .ok (.invokestatic 395, 3) := by decide +kernel
theorem dX6_reshuffle_44 : decode cX6_reshuffle 44 = .ok (.istore 7, 2) := by decide +kernel
theorem dX6_reshuffle_46 : decode cX6_reshuffle 46 = .ok (.iload 7, 2) := by decide +kernel
theorem dX6_reshuffle_48 : decode cX6_reshuffle 48 = .ok (.iload 5, 2) := by decide +kernel
theorem dX6_reshuffle_50 : decode cX6_reshuffle 50 = .ok (.if_icmp .le 11, 3) := by decide +kernel
theorem dX6_reshuffle_53 : decode cX6_reshuffle 53 = .ok (.iload 7, 2) := by decide +kernel
theorem dX6_reshuffle_55 : decode cX6_reshuffle 55 = .ok (.istore 5, 2) := by decide +kernel
theorem dX6_reshuffle_57 : decode cX6_reshuffle 57 = .ok (.iload 6, 2) := by decide +kernel
theorem dX6_reshuffle_59 : decode cX6_reshuffle 59 = .ok (.istore 4, 2) := by decide +kernel
theorem dX6_reshuffle_61 : decode cX6_reshuffle 61 = .ok (.iinc 6 1, 3) := by decide +kernel
theorem dX6_reshuffle_64 : decode cX6_reshuffle 64 = .ok (.goto (-43), 3) := by decide +kernel
theorem dX6_reshuffle_67 : decode cX6_reshuffle 67 = .ok (.iload_n 2, 1) := by decide +kernel
theorem dX6_reshuffle_68 : decode cX6_reshuffle 68 = .ok (.ifCond .eq 8, 3) := by decide +kernel
theorem dX6_reshuffle_71 : decode cX6_reshuffle 71 = .ok (.iload 5, 2) := by decide +kernel
theorem dX6_reshuffle_73 : decode cX6_reshuffle 73 = .ok (.goto 5, 3) := by decide +kernel
theorem dX6_reshuffle_76 : decode cX6_reshuffle 76 = .ok (.iload 4, 2) := by decide +kernel
theorem dX6_reshuffle_78 : decode cX6_reshuffle 78 = .ok (.ireturn, 1) := by decide +kernel
theorem dX6_rowTold_0 : decode cX6_rowTold 0 = .ok (.aload_n 0, 1) := by decide +kernel
theorem dX6_rowTold_1 : decode cX6_rowTold 1 = .ok (.ifnull 12, 3) := by decide +kernel
theorem dX6_rowTold_4 : decode cX6_rowTold 4 = .ok (.iload_n 2, 1) := by decide +kernel
theorem dX6_rowTold_5 : decode cX6_rowTold 5 = .ok (.ifCond .lt 8, 3) := by decide +kernel
theorem dX6_rowTold_8 : decode cX6_rowTold 8 = .ok (.iload_n 2, 1) := by decide +kernel
theorem dX6_rowTold_9 : decode cX6_rowTold 9 = .ok (.iload_n 3, 1) := by decide +kernel
theorem dX6_rowTold_10 : decode cX6_rowTold 10 = .ok (.if_icmp .lt 6, 3) := by decide +kernel
theorem dX6_rowTold_13 : decode cX6_rowTold 13 = .ok (.bipush (-2), 2) := by decide +kernel
theorem dX6_rowTold_15 : decode cX6_rowTold 15 = .ok (.ireturn, 1) := by decide +kernel
theorem dX6_rowTold_16 : decode cX6_rowTold 16 = .ok (.iload_n 1, 1) := by decide +kernel
theorem dX6_rowTold_17 : decode cX6_rowTold 17 = .ok (.iconst (-1), 1) := by decide +kernel
theorem dX6_rowTold_18 : decode cX6_rowTold 18 = .ok (.if_icmp .ne 17, 3) := by decide +kernel
theorem dX6_rowTold_21 : decode cX6_rowTold 21 = .ok (.iload_n 2, 1) := by decide +kernel
theorem dX6_rowTold_22 : decode cX6_rowTold 22 = .ok (.ifCond .ne 10, 3) := by decide +kernel
theorem dX6_rowTold_25 : decode cX6_rowTold 25 = .ok (.aload_n 0, 1) := by decide +kernel
theorem dX6_rowTold_26 : decode cX6_rowTold 26 = .ok (.getfield 189, 3) := by decide +kernel
theorem dX6_rowTold_29 : decode cX6_rowTold 29 = .ok (.goto 5, 3) := by decide +kernel
theorem dX6_rowTold_32 : decode cX6_rowTold 32 = .ok (.bipush (-2), 2) := by decide +kernel
theorem dX6_rowTold_34 : decode cX6_rowTold 34 = .ok (.ireturn, 1) := by decide +kernel
theorem dX6_rowTold_35 : decode cX6_rowTold 35 = .ok (.iload_n 1, 1) := by decide +kernel
theorem dX6_rowTold_36 : decode cX6_rowTold 36 = .ok (.ifCond .lt 20, 3) := by decide +kernel
theorem dX6_rowTold_39 : decode cX6_rowTold 39 = .ok (.iload_n 1, 1) := by decide +kernel
theorem dX6_rowTold_40 : decode cX6_rowTold 40 = .ok (.aload_n 0, 1) := by decide +kernel
theorem dX6_rowTold_41 : decode cX6_rowTold 41 = .ok (.getfield 189, 3) := by decide +kernel
theorem dX6_rowTold_44 : decode cX6_rowTold 44 = .ok (.if_icmp .ge 12, 3) := by decide +kernel
theorem dX6_rowTold_47 : decode cX6_rowTold 47 = .ok (.aload_n 0, 1) := by decide +kernel
theorem dX6_rowTold_48 : decode cX6_rowTold 48 = .ok (.iload_n 1, 1) := by decide +kernel
theorem dX6_rowTold_49 : decode cX6_rowTold 49 = .ok (.iload_n 2, 1) := by decide +kernel
theorem dX6_rowTold_50 : decode cX6_rowTold 50 = .ok (.invokevirtual 190, 3) := by decide +kernel
theorem dX6_rowTold_53 : decode cX6_rowTold 53 = .ok (.goto 5, 3) := by decide +kernel
theorem dX6_rowTold_56 : decode cX6_rowTold 56 = .ok (.bipush (-2), 2) := by decide +kernel
theorem dX6_rowTold_58 : decode cX6_rowTold 58 = .ok (.ireturn, 1) := by decide +kernel
theorem dX6_rowsAt_0 : decode cX6_rowsAt 0 = .ok (.iload_n 2, 1) := by decide +kernel
theorem dX6_rowsAt_1 : decode cX6_rowsAt 1 = .ok (.ifCond .lt 30, 3) := by decide +kernel
theorem dX6_rowsAt_4 : decode cX6_rowsAt 4 = .ok (.iload_n 2, 1) := by decide +kernel
theorem dX6_rowsAt_5 : decode cX6_rowsAt 5 = .ok (.aload_n 0, 1) := by decide +kernel
theorem dX6_rowsAt_6 : decode cX6_rowsAt 6 = .ok (.getfield 10, 3) := by decide +kernel
theorem dX6_rowsAt_9 : decode cX6_rowsAt 9 = .ok (.getfield 85, 3) := by decide +kernel
theorem dX6_rowsAt_12 : decode cX6_rowsAt 12 = .ok (.iload_n 1, 1) := by decide +kernel
theorem dX6_rowsAt_13 : decode cX6_rowsAt 13 = .ok (.invokestatic 88, 3) := by decide +kernel
theorem dX6_rowsAt_16 : decode cX6_rowsAt 16 = .ok (.if_icmp .ge 15, 3) := by decide +kernel
theorem dX6_rowsAt_19 : decode cX6_rowsAt 19 = .ok (.aload_n 0, 1) := by decide +kernel
theorem dX6_rowsAt_20 : decode cX6_rowsAt 20 = .ok (.getfield 10, 3) := by decide +kernel
theorem dX6_rowsAt_23 : decode cX6_rowsAt 23 = .ok (.iload_n 1, 1) := by decide +kernel
theorem dX6_rowsAt_24 : decode cX6_rowsAt 24 = .ok (.iload_n 2, 1) := by decide +kernel
theorem dX6_rowsAt_25 : decode cX6_rowsAt 25 = .ok (.invokevirtual 106, 3) := by decide +kernel
theorem dX6_rowsAt_28 : decode cX6_rowsAt 28 = .ok (.goto 4, 3) := by decide +kernel
theorem dX6_rowsAt_31 : decode cX6_rowsAt 31 = .ok (.aconst_null, 1) := by decide +kernel
theorem dX6_rowsAt_32 : decode cX6_rowsAt 32 = .ok (.areturn, 1) := by decide +kernel
theorem dX6_seats_0 : decode cX6_seats 0 = .ok (.aload_n 0, 1) := by decide +kernel
theorem dX6_seats_1 : decode cX6_seats 1 = .ok (.iload_n 1, 1) := by decide +kernel
theorem dX6_seats_2 : decode cX6_seats 2 = .ok (.invokevirtual 129, 3) := by decide +kernel
theorem dX6_seats_5 : decode cX6_seats 5 = .ok (.astore 4, 2) := by decide +kernel
theorem dX6_seats_7 : decode cX6_seats 7 = .ok (.aload_n 0, 1) := by decide +kernel
theorem dX6_seats_8 : decode cX6_seats 8 = .ok (.iconst 4, 1) := by decide +kernel
theorem dX6_seats_9 : decode cX6_seats 9 = .ok (.iload_n 2, 1) := by decide +kernel
theorem dX6_seats_10 : decode cX6_seats 10 = .ok (.invokevirtual 182, 3) := by decide +kernel
theorem dX6_seats_13 : decode cX6_seats 13 = .ok (.astore 5, 2) := by decide +kernel
theorem dX6_seats_15 : decode cX6_seats 15 = .ok (.aload 4, 2) := by decide +kernel
theorem dX6_seats_17 : decode cX6_seats 17 = .ok (.ifnull 8, 3) := by decide +kernel
theorem dX6_seats_20 : decode cX6_seats 20 = .ok (.aload 5, 2) := by decide +kernel
theorem dX6_seats_22 : decode cX6_seats 22 = .ok (.ifnonnull 6, 3) := by decide +kernel
theorem dX6_seats_25 : decode cX6_seats 25 = .ok (.bipush (-4), 2) := by decide +kernel
theorem dX6_seats_27 : decode cX6_seats 27 = .ok (.ireturn, 1) := by decide +kernel
theorem dX6_seats_28 : decode cX6_seats 28 = .ok (.aload_n 0, 1) := by decide +kernel
theorem dX6_seats_29 : decode cX6_seats 29 = .ok (.aload 4, 2) := by decide +kernel
theorem dX6_seats_31 : decode cX6_seats 31 = .ok (.aload 5, 2) := by decide +kernel
theorem dX6_seats_33 : decode cX6_seats 33 = .ok (.invokevirtual 369, 3) := by decide +kernel
theorem dX6_seats_36 : decode cX6_seats 36 = .ok (.istore 6, 2) := by decide +kernel
theorem dX6_seats_38 : decode cX6_seats 38 = .ok (.iload_n 3, 1) := by decide +kernel
theorem dX6_seats_39 : decode cX6_seats 39 = .ok (.ifCond .lt 23, 3) := by decide +kernel
theorem dX6_seats_42 : decode cX6_seats 42 = .ok (.iload_n 3, 1) := by decide +kernel
theorem dX6_seats_43 : decode cX6_seats 43 = .ok (.iload 6, 2) := by decide +kernel
theorem dX6_seats_45 : decode cX6_seats 45 = .ok (.if_icmp .ge 14, 3) := by decide +kernel
theorem dX6_seats_48 : decode cX6_seats 48 = .ok (.aload_n 0, 1) := by decide +kernel
theorem dX6_seats_49 : decode cX6_seats 49 = .ok (.getfield 45, 3) := by decide +kernel
theorem dX6_seats_52 : decode cX6_seats 52 = .ok (.iload_n 3, 1) := by decide +kernel
theorem dX6_seats_53 : decode cX6_seats 53 = .ok (.invokestatic 88, 3) := by decide +kernel
theorem dX6_seats_56 : decode cX6_seats 56 = .ok (.goto 5, 3) := by decide +kernel
theorem dX6_seats_59 : decode cX6_seats 59 = .ok (.bipush (-4), 2) := by decide +kernel
theorem dX6_seats_61 : decode cX6_seats 61 = .ok (.ireturn, 1) := by decide +kernel
theorem dX6_seats_62 : decode cX6_seats 62 = .ok (.iload_n 3, 1) := by decide +kernel
theorem dX6_seats_63 : decode cX6_seats 63 = .ok (.tableswitch 63 (-3) (-1) #[46, 28, 25], 25) := by decide +kernel
theorem dX6_seats_88 : decode cX6_seats 88 = .ok (.iload 6, 2) := by decide +kernel
theorem dX6_seats_90 : decode cX6_seats 90 = .ok (.ireturn, 1) := by decide +kernel
theorem dX6_seats_91 : decode cX6_seats 91 = .ok (.iload 6, 2) := by decide +kernel
theorem dX6_seats_93 : decode cX6_seats 93 = .ok (.ifCond .ne 7, 3) := by decide +kernel
theorem dX6_seats_96 : decode cX6_seats 96 = .ok (.iconst (-1), 1) := by decide +kernel
theorem dX6_seats_97 : decode cX6_seats 97 = .ok (.goto 11, 3) := by decide +kernel
theorem dX6_seats_100 : decode cX6_seats 100 = .ok (.aload_n 0, 1) := by decide +kernel
theorem dX6_seats_101 : decode cX6_seats 101 = .ok (.aload 4, 2) := by decide +kernel
theorem dX6_seats_103 : decode cX6_seats 103 = .ok (.iload 6, 2) := by decide +kernel
theorem dX6_seats_105 : decode cX6_seats 105 = .ok (.invokevirtual 372, 3) := by decide +kernel
theorem dX6_seats_108 : decode cX6_seats 108 = .ok (.ireturn, 1) := by decide +kernel
theorem dX6_seats_109 : decode cX6_seats 109 = .ok (.aload_n 0, 1) := by decide +kernel
theorem dX6_seats_110 : decode cX6_seats 110 = .ok (.aload 4, 2) := by decide +kernel
theorem dX6_seats_112 : decode cX6_seats 112 = .ok (.aload_n 0, 1) := by decide +kernel
theorem dX6_seats_113 : decode cX6_seats 113 = .ok (.aload 4, 2) := by decide +kernel
theorem dX6_seats_115 : decode cX6_seats 115 = .ok (.iload 6, 2) := by decide +kernel
theorem dX6_seats_117 : decode cX6_seats 117 = .ok (.invokevirtual 372, 3) := by decide +kernel
theorem dX6_seats_120 : decode cX6_seats 120 = .ok (.iload 6, 2) := by decide +kernel
theorem dX6_seats_122 : decode cX6_seats 122 = .ok (.invokevirtual 375, 3) := by decide +kernel
theorem dX6_seats_125 : decode cX6_seats 125 = .ok (.ireturn, 1) := by decide +kernel
theorem dX6_seats_126 : decode cX6_seats 126 = .ok (.bipush (-4), 2) := by decide +kernel
theorem dX6_seats_128 : decode cX6_seats 128 = .ok (.ireturn, 1) := by decide +kernel
theorem dX6_state_0 : decode cX6_state 0 = .ok (.aload_n 0, 1) := by decide +kernel
theorem dX6_state_1 : decode cX6_state 1 = .ok (.iload_n 1, 1) := by decide +kernel
theorem dX6_state_2 : decode cX6_state 2 = .ok (.invokevirtual 129, 3) := by decide +kernel
theorem dX6_state_5 : decode cX6_state 5 = .ok (.astore 6, 2) := by decide +kernel
theorem dX6_state_7 : decode cX6_state 7 = .ok (.aload_n 0, 1) := by decide +kernel
theorem dX6_state_8 : decode cX6_state 8 = .ok (.iconst 1, 1) := by decide +kernel
theorem dX6_state_9 : decode cX6_state 9 = .ok (.iload_n 2, 1) := by decide +kernel
theorem dX6_state_10 : decode cX6_state 10 = .ok (.invokevirtual 182, 3) := by decide +kernel
theorem dX6_state_13 : decode cX6_state 13 = .ok (.astore 7, 2) := by decide +kernel
theorem dX6_state_15 : decode cX6_state 15 = .ok (.aload_n 0, 1) := by decide +kernel
theorem dX6_state_16 : decode cX6_state 16 = .ok (.iconst 2, 1) := by decide +kernel
theorem dX6_state_17 : decode cX6_state 17 = .ok (.iload_n 3, 1) := by decide +kernel
theorem dX6_state_18 : decode cX6_state 18 = .ok (.invokevirtual 182, 3) := by decide +kernel
theorem dX6_state_21 : decode cX6_state 21 = .ok (.astore 8, 2) := by decide +kernel
theorem dX6_state_23 : decode cX6_state 23 = .ok (.aload 6, 2) := by decide +kernel
theorem dX6_state_25 : decode cX6_state 25 = .ok (.ifnull 28, 3) := by decide +kernel
theorem dX6_state_28 : decode cX6_state 28 = .ok (.aload 7, 2) := by decide +kernel
theorem dX6_state_30 : decode cX6_state 30 = .ok (.ifnull 23, 3) := by decide +kernel
theorem dX6_state_33 : decode cX6_state 33 = .ok (.aload 8, 2) := by decide +kernel
theorem dX6_state_35 : decode cX6_state 35 = .ok (.ifnull 18, 3) := by decide +kernel
theorem dX6_state_38 : decode cX6_state 38 = .ok (.iload 4, 2) := by decide +kernel
theorem dX6_state_40 : decode cX6_state 40 = .ok (.ifCond .lt 13, 3) := by decide +kernel
theorem dX6_state_43 : decode cX6_state 43 = .ok (.iload 4, 2) := by decide +kernel
theorem dX6_state_45 : decode cX6_state 45 = .ok (.aload 8, 2) := by decide +kernel
theorem dX6_state_47 : decode cX6_state 47 = .ok (.getfield 189, 3) := by decide +kernel
theorem dX6_state_50 : decode cX6_state 50 = .ok (.if_icmp .le 6, 3) := by decide +kernel
theorem dX6_state_53 : decode cX6_state 53 = .ok (.bipush (-2), 2) := by decide +kernel
theorem dX6_state_55 : decode cX6_state 55 = .ok (.ireturn, 1) := by decide +kernel
theorem dX6_state_56 : decode cX6_state 56 = .ok (.aload_n 0, 1) := by decide +kernel
theorem dX6_state_57 : decode cX6_state 57 = .ok (.getfield 30, 3) := by decide +kernel
theorem dX6_state_60 : decode cX6_state 60 = .ok (.aload 6, 2) := by decide +kernel
theorem dX6_state_62 : decode cX6_state 62 = .ok (.aload 7, 2) := by decide +kernel
theorem dX6_state_64 : decode cX6_state 64 = .ok (.aload 8, 2) := by decide +kernel
theorem dX6_state_66 : decode cX6_state 66 = .ok (.iload 4, 2) := by decide +kernel
theorem dX6_state_68 : decode cX6_state 68 = .ok (.invokevirtual 227, 3) := by decide +kernel
theorem dX6_state_71 : decode cX6_state 71 = .ok (.iload 4, 2) := by decide +kernel
theorem dX6_state_73 : decode cX6_state 73 = .ok (.if_icmp .ne 14, 3) := by decide +kernel
theorem dX6_state_76 : decode cX6_state 76 = .ok (.aload_n 0, 1) := by decide +kernel
theorem dX6_state_77 : decode cX6_state 77 = .ok (.aload 6, 2) := by decide +kernel
theorem dX6_state_79 : decode cX6_state 79 = .ok (.iload 5, 2) := by decide +kernel
theorem dX6_state_81 : decode cX6_state 81 = .ok (.invokevirtual 231, 3) := by decide +kernel
theorem dX6_state_84 : decode cX6_state 84 = .ok (.goto 5, 3) := by decide +kernel
theorem dX6_state_87 : decode cX6_state 87 = .ok (.bipush (-2), 2) := by decide +kernel
theorem dX6_state_89 : decode cX6_state 89 = .ok (.ireturn, 1) := by decide +kernel
theorem dX6_stop_0 : decode cX6_stop 0 = .ok (.aload_n 0, 1) := by decide +kernel
theorem dX6_stop_1 : decode cX6_stop 1 = .ok (.iload_n 1, 1) := by decide +kernel
theorem dX6_stop_2 : decode cX6_stop 2 = .ok (.invokevirtual 129, 3) := by decide +kernel
theorem dX6_stop_5 : decode cX6_stop 5 = .ok (.astore 4, 2) := by decide +kernel
theorem dX6_stop_7 : decode cX6_stop 7 = .ok (.aload_n 0, 1) := by decide +kernel
theorem dX6_stop_8 : decode cX6_stop 8 = .ok (.iconst 1, 1) := by decide +kernel
theorem dX6_stop_9 : decode cX6_stop 9 = .ok (.iload_n 2, 1) := by decide +kernel
theorem dX6_stop_10 : decode cX6_stop 10 = .ok (.invokevirtual 182, 3) := by decide +kernel
theorem dX6_stop_13 : decode cX6_stop 13 = .ok (.astore 5, 2) := by decide +kernel
theorem dX6_stop_15 : decode cX6_stop 15 = .ok (.aload_n 0, 1) := by decide +kernel
theorem dX6_stop_16 : decode cX6_stop 16 = .ok (.iconst 2, 1) := by decide +kernel
theorem dX6_stop_17 : decode cX6_stop 17 = .ok (.iload_n 3, 1) := by decide +kernel
theorem dX6_stop_18 : decode cX6_stop 18 = .ok (.invokevirtual 182, 3) := by decide +kernel
theorem dX6_stop_21 : decode cX6_stop 21 = .ok (.astore 6, 2) := by decide +kernel
theorem dX6_stop_23 : decode cX6_stop 23 = .ok (.aload 4, 2) := by decide +kernel
theorem dX6_stop_25 : decode cX6_stop 25 = .ok (.ifnull 13, 3) := by decide +kernel
theorem dX6_stop_28 : decode cX6_stop 28 = .ok (.aload 5, 2) := by decide +kernel
theorem dX6_stop_30 : decode cX6_stop 30 = .ok (.ifnull 8, 3) := by decide +kernel
theorem dX6_stop_33 : decode cX6_stop 33 = .ok (.aload 6, 2) := by decide +kernel
theorem dX6_stop_35 : decode cX6_stop 35 = .ok (.ifnonnull 5, 3) := by decide +kernel
theorem dX6_stop_38 : decode cX6_stop 38 = .ok (.iconst (-1), 1) := by decide +kernel
theorem dX6_stop_39 : decode cX6_stop 39 = .ok (.ireturn, 1) := by decide +kernel
theorem dX6_stop_40 : decode cX6_stop 40 = .ok (.aload_n 0, 1) := by decide +kernel
theorem dX6_stop_41 : decode cX6_stop 41 = .ok (.getfield 30, 3) := by decide +kernel
theorem dX6_stop_44 : decode cX6_stop 44 = .ok (.aload 4, 2) := by decide +kernel
theorem dX6_stop_46 : decode cX6_stop 46 = .ok (.aload 5, 2) := by decide +kernel
theorem dX6_stop_48 : decode cX6_stop 48 = .ok (.aload 6, 2) := by decide +kernel
theorem dX6_stop_50 : decode cX6_stop 50 = .ok (.aload 6, 2) := by decide +kernel
theorem dX6_stop_52 : decode cX6_stop 52 = .ok (.getfield 189, 3) := by decide +kernel
theorem dX6_stop_55 : decode cX6_stop 55 = .ok (.invokevirtual 227, 3) := by decide +kernel
theorem dX6_stop_58 : decode cX6_stop 58 = .ok (.ireturn, 1) := by decide +kernel
theorem dX6_vote_0 : decode cX6_vote 0 = .ok (.iload 4, 2) := by decide +kernel
theorem dX6_vote_2 : decode cX6_vote 2 = .ok (.iload 5, 2) := by decide +kernel
theorem dX6_vote_4 : decode cX6_vote 4 = .ok (.iload 6, 2) := by decide +kernel
theorem dX6_vote_6 : decode cX6_vote 6 = .ok (.invokestatic 196, 3) := by decide +kernel
theorem dX6_vote_9 : decode cX6_vote 9 = .ok (.istore 8, 2) := by decide +kernel
theorem dX6_vote_11 : decode cX6_vote 11 = .ok (.aload_n 0, 1) := by decide +kernel
theorem dX6_vote_12 : decode cX6_vote 12 = .ok (.iload_n 1, 1) := by decide +kernel
theorem dX6_vote_13 : decode cX6_vote 13 = .ok (.iload_n 2, 1) := by decide +kernel
theorem dX6_vote_14 : decode cX6_vote 14 = .ok (.iload_n 3, 1) := by decide +kernel
theorem dX6_vote_15 : decode cX6_vote 15 = .ok (.iload 8, 2) := by decide +kernel
theorem dX6_vote_17 : decode cX6_vote 17 = .ok (.invokevirtual 200, 3) := by decide +kernel
theorem dX6_vote_20 : decode cX6_vote 20 = .ok (.astore 9, 2) := by decide +kernel
theorem dX6_vote_22 : decode cX6_vote 22 = .ok (.aload 9, 2) := by decide +kernel
theorem dX6_vote_24 : decode cX6_vote 24 = .ok (.ifnonnull 5, 3) := by decide +kernel
theorem dX6_vote_27 : decode cX6_vote 27 = .ok (.iconst (-1), 1) := by decide +kernel
theorem dX6_vote_28 : decode cX6_vote 28 = .ok (.ireturn, 1) := by decide +kernel
theorem dX6_vote_29 : decode cX6_vote 29 = .ok (.aload 9, 2) := by decide +kernel
theorem dX6_vote_31 : decode cX6_vote 31 = .ok (.iload_n 2, 1) := by decide +kernel
theorem dX6_vote_32 : decode cX6_vote 32 = .ok (.iload_n 3, 1) := by decide +kernel
theorem dX6_vote_33 : decode cX6_vote 33 = .ok (.iload 8, 2) := by decide +kernel
theorem dX6_vote_35 : decode cX6_vote 35 = .ok (.invokevirtual 207, 3) := by decide +kernel
theorem dX6_vote_38 : decode cX6_vote 38 = .ok (.istore 10, 2) := by decide +kernel
theorem dX6_vote_40 : decode cX6_vote 40 = .ok (.iload 7, 2) := by decide +kernel
theorem dX6_vote_42 : decode cX6_vote 42 = .ok (.ifCond .ne 6, 3) := by decide +kernel
theorem dX6_vote_45 : decode cX6_vote 45 = .ok (.iload 10, 2) := by decide +kernel
theorem dX6_vote_47 : decode cX6_vote 47 = .ok (.ireturn, 1) := by decide +kernel
theorem dX6_vote_48 : decode cX6_vote 48 = .ok (.aload 9, 2) := by decide +kernel
theorem dX6_vote_50 : decode cX6_vote 50 = .ok (.aload 9, 2) := by decide +kernel
theorem dX6_vote_52 : decode cX6_vote 52 = .ok (.invokevirtual 210, 3) := by decide +kernel
theorem dX6_vote_55 : decode cX6_vote 55 = .ok (.iload 10, 2) := by decide +kernel
theorem dX6_vote_57 : decode cX6_vote 57 = .ok (.invokevirtual 214, 3) := by decide +kernel
theorem dX6_vote_60 : decode cX6_vote 60 = .ok (.ifCond .eq 7, 3) := by decide +kernel
theorem dX6_vote_63 : decode cX6_vote 63 = .ok (.iconst 1, 1) := by decide +kernel
theorem dX6_vote_64 : decode cX6_vote 64 = .ok (.goto 4, 3) := by decide +kernel
theorem dX6_vote_67 : decode cX6_vote 67 = .ok (.iconst 0, 1) := by decide +kernel
theorem dX6_vote_68 : decode cX6_vote 68 = .ok (.ireturn, 1) := by decide +kernel
theorem dX6_was_0 : decode cX6_was 0 = .ok (.aload_n 0, 1) := by decide +kernel
theorem dX6_was_1 : decode cX6_was 1 = .ok (.iconst 4, 1) := by decide +kernel
theorem dX6_was_2 : decode cX6_was 2 = .ok (.iload_n 1, 1) := by decide +kernel
theorem dX6_was_3 : decode cX6_was 3 = .ok (.invokevirtual 182, 3) := by decide +kernel
theorem dX6_was_6 : decode cX6_was 6 = .ok (.iload_n 2, 1) := by decide +kernel
theorem dX6_was_7 : decode cX6_was 7 = .ok (.iload_n 3, 1) := by decide +kernel
theorem dX6_was_8 : decode cX6_was 8 = .ok (.iconst 4, 1) := by decide +kernel
theorem dX6_was_9 : decode cX6_was 9 = .ok (.invokestatic 185, 3) := by decide +kernel
theorem dX6_was_12 : decode cX6_was 12 = .ok (.ireturn, 1) := by decide +kernel
theorem dX7_agreed_0 : decode cX7_agreed 0 = .ok (.aload_n 0, 1) := by decide +kernel
theorem dX7_agreed_1 : decode cX7_agreed 1 = .ok (.iload_n 1, 1) := by decide +kernel
theorem dX7_agreed_2 : decode cX7_agreed 2 = .ok (.iload_n 3, 1) := by decide +kernel
theorem dX7_agreed_3 : decode cX7_agreed 3 = .ok (.iload 4, 2) := by decide +kernel
theorem dX7_agreed_5 : decode cX7_agreed 5 = .ok (.iconst 0, 1) := by decide +kernel
theorem dX7_agreed_6 : decode cX7_agreed 6 = .ok (.iconst 0, 1) := by decide +kernel
theorem dX7_agreed_7 : decode cX7_agreed 7 = .ok (.iconst 0, 1) := by decide +kernel
theorem dX7_agreed_8 : decode cX7_agreed 8 = .ok (.invokevirtual 241, 3) := by decide +kernel
theorem dX7_agreed_11 : decode cX7_agreed 11 = .ok (.ifCond .eq 26, 3) := by decide +kernel
theorem dX7_agreed_14 : decode cX7_agreed 14 = .ok (.iload 5, 2) := by decide +kernel
theorem dX7_agreed_16 : decode cX7_agreed 16 = .ok (.iconst 0, 1) := by decide +kernel
theorem dX7_agreed_17 : decode cX7_agreed 17 = .ok (.iconst 2, 1) := by decide +kernel
theorem dX7_agreed_18 : decode cX7_agreed 18 = .ok (.invokestatic 93, 3) := by decide +kernel
theorem dX7_agreed_21 : decode cX7_agreed 21 = .ok (.ifCond .eq 16, 3) := by decide +kernel
theorem dX7_agreed_24 : decode cX7_agreed 24 = .ok (.iload_n 2, 1) := by decide +kernel
theorem dX7_agreed_25 : decode cX7_agreed 25 = .ok (.iconst (-1), 1) := by decide +kernel
theorem dX7_agreed_26 : decode cX7_agreed 26 = .ok (.if_icmp .eq 14, 3) := by decide +kernel
theorem dX7_agreed_29 : decode cX7_agreed 29 = .ok (.aload_n 0, 1) := by decide +kernel
theorem dX7_agreed_30 : decode cX7_agreed 30 = .ok (.iload_n 2, 1) := by decide +kernel
theorem dX7_agreed_31 : decode cX7_agreed 31 = .ok (.invokevirtual 254, 3) := by decide +kernel
theorem dX7_agreed_34 : decode cX7_agreed 34 = .ok (.ifCond .ne 6, 3) := by decide +kernel
theorem dX7_agreed_37 : decode cX7_agreed 37 = .ok (.bipush (-2), 2) := by decide +kernel
theorem dX7_agreed_39 : decode cX7_agreed 39 = .ok (.ireturn, 1) := by decide +kernel
theorem dX7_agreed_40 : decode cX7_agreed 40 = .ok (.iconst 0, 1) := by decide +kernel
theorem dX7_agreed_41 : decode cX7_agreed 41 = .ok (.istore 6, 2) := by decide +kernel
theorem dX7_agreed_43 : decode cX7_agreed 43 = .ok (.iconst (-1), 1) := by decide +kernel
theorem dX7_agreed_44 : decode cX7_agreed 44 = .ok (.istore 7, 2) := by decide +kernel
theorem dX7_agreed_46 : decode cX7_agreed 46 = .ok (.iconst 0, 1) := by decide +kernel
theorem dX7_agreed_47 : decode cX7_agreed 47 = .ok (.istore 8, 2) := by decide +kernel
theorem dX7_agreed_49 : decode cX7_agreed 49 = .ok (.iload 8, 2) := by decide +kernel
theorem dX7_agreed_51 : decode cX7_agreed 51 = .ok (.sipush 1000, 3) := by decide +kernel
theorem dX7_agreed_54 : decode cX7_agreed 54 = .ok (.if_icmp .ge 84, 3) := by decide +kernel
theorem dX7_agreed_57 : decode cX7_agreed 57 = .ok (.aload_n 0, 1) := by decide +kernel
theorem dX7_agreed_58 : decode cX7_agreed 58 = .ok (.iload 8, 2) := by decide +kernel
theorem dX7_agreed_60 : decode cX7_agreed 60 = .ok (.iload_n 2, 1) := by decide +kernel
theorem dX7_agreed_61 : decode cX7_agreed 61 = .ok (.iconst (-1), 1) := by decide +kernel
theorem dX7_agreed_62 : decode cX7_agreed 62 = .ok (.if_icmp .eq 7, 3) := by decide +kernel
theorem dX7_agreed_65 : decode cX7_agreed 65 = .ok (.iconst 1, 1) := by decide +kernel
theorem dX7_agreed_66 : decode cX7_agreed 66 = .ok (.goto 4, 3) := by decide +kernel
theorem dX7_agreed_69 : decode cX7_agreed 69 = .ok (.iconst 0, 1) := by decide +kernel
theorem dX7_agreed_70 : decode cX7_agreed 70 = .ok (.invokevirtual 336, 3) := by decide +kernel
theorem dX7_agreed_73 : decode cX7_agreed 73 = .ok (.ifCond .ne 6, 3) := by decide +kernel
theorem dX7_agreed_76 : decode cX7_agreed 76 = .ok (.goto 56, 3) := by decide +kernel
theorem dX7_agreed_79 : decode cX7_agreed 79 = .ok (.iinc 6 1, 3) := by decide +kernel
theorem dX7_agreed_82 : decode cX7_agreed 82 = .ok (.iload 7, 2) := by decide +kernel
theorem dX7_agreed_84 : decode cX7_agreed 84 = .ok (.iconst (-1), 1) := by decide +kernel
theorem dX7_agreed_85 : decode cX7_agreed 85 = .ok (.if_icmp .eq 38, 3) := by decide +kernel
theorem dX7_agreed_88 : decode cX7_agreed 88 = .ok (.iload 8, 2) := by decide +kernel
theorem dX7_agreed_90 : decode cX7_agreed 90 = .ok (.iload 5, 2) := by decide +kernel
theorem dX7_agreed_92 : decode cX7_agreed 92 = .ok (.iconst 2, 1) := by decide +kernel
theorem dX7_agreed_93 : decode cX7_agreed 93 = .ok (.if_icmp .ne 7, 3) := by decide +kernel
theorem dX7_agreed_96 : decode cX7_agreed 96 = .ok (.iconst 1, 1) := by decide +kernel
theorem dX7_agreed_97 : decode cX7_agreed 97 = .ok (.goto 4, 3) := by decide +kernel
theorem dX7_agreed_100 : decode cX7_agreed 100 = .ok (.iconst 0, 1) := by decide +kernel
theorem dX7_agreed_101 : decode cX7_agreed 101 = .ok (.invokestatic 340, 3) := by decide +kernel
theorem dX7_agreed_104 : decode cX7_agreed 104 = .ok (.iload 7, 2) := by decide +kernel
theorem dX7_agreed_106 : decode cX7_agreed 106 = .ok (.iload 5, 2) := by decide +kernel
theorem dX7_agreed_108 : decode cX7_agreed 108 = .ok (.iconst 2, 1) := by decide +kernel
theorem dX7_agreed_109 : decode cX7_agreed 109 = .ok (.if_icmp .ne 7, 3) := by decide +kernel
theorem dX7_agreed_112 : decode cX7_agreed 112 = .ok (.iconst 1, 1) := by decide +kernel
theorem dX7_agreed_113 : decode cX7_agreed 113 = .ok (.goto 4, 3) := by decide +kernel
theorem dX7_agreed_116 : decode cX7_agreed 116 = .ok (.iconst 0, 1) := by decide +kernel
theorem dX7_agreed_117 : decode cX7_agreed 117 = .ok (.invokestatic 340, 3) := by decide +kernel
theorem dX7_agreed_120 : decode cX7_agreed 120 = .ok (.if_icmp .le 8, 3) := by decide +kernel
theorem dX7_agreed_123 : decode cX7_agreed 123 = .ok (.iload 8, 2) := by decide +kernel
theorem dX7_agreed_125 : decode cX7_agreed 125 = .ok (.goto 5, 3) := by decide +kernel
theorem dX7_agreed_128 : decode cX7_agreed 128 = .ok (.iload 7, 2) := by decide +kernel
theorem dX7_agreed_130 : decode cX7_agreed 130 = .ok (.istore 7, 2) := by decide +kernel
theorem dX7_agreed_132 : decode cX7_agreed 132 = .ok (.iinc 8 1, 3) := by decide +kernel
theorem dX7_agreed_135 : decode cX7_agreed 135 = .ok (.goto (-86), 3) := by decide +kernel
theorem dX7_agreed_138 : decode cX7_agreed 138 = .ok (.iload 5, 2) := by decide +kernel
theorem dX7_agreed_140 : decode cX7_agreed 140 = .ok (.ifCond .ne 8, 3) := by decide +kernel
theorem dX7_agreed_143 : decode cX7_agreed 143 = .ok (.iload 6, 2) := by decide +kernel
theorem dX7_agreed_145 : decode cX7_agreed 145 = .ok (.goto 5, 3) := by decide +kernel
theorem dX7_agreed_148 : decode cX7_agreed 148 = .ok (.iload 7, 2) := by decide +kernel
theorem dX7_agreed_150 : decode cX7_agreed 150 = .ok (.ireturn, 1) := by decide +kernel
theorem dX7_areOrders_0 : decode cX7_areOrders 0 = .ok (.aload_n 0, 1) := by decide +kernel
theorem dX7_areOrders_1 : decode cX7_areOrders 1 = .ok (.iconst 1, 1) := by decide +kernel
theorem dX7_areOrders_2 : decode cX7_areOrders 2 = .ok (.iload_n 1, 1) := by decide +kernel
theorem dX7_areOrders_3 : decode cX7_areOrders 3 = .ok (.invokevirtual 144, 3) := by decide +kernel
theorem dX7_areOrders_6 : decode cX7_areOrders 6 = .ok (.ifCond .ne 5, 3) := by decide +kernel
theorem dX7_areOrders_9 : decode cX7_areOrders 9 = .ok (.iconst 0, 1) := by decide +kernel
theorem dX7_areOrders_10 : decode cX7_areOrders 10 = .ok (.ireturn, 1) := by decide +kernel
theorem dX7_areOrders_11 : decode cX7_areOrders 11 = .ok (.aload_n 0, 1) := by decide +kernel
theorem dX7_areOrders_12 : decode cX7_areOrders 12 = .ok (.iconst 1, 1) := by decide +kernel
theorem dX7_areOrders_13 : decode cX7_areOrders 13 = .ok (.iload_n 1, 1) := by decide +kernel
theorem dX7_areOrders_14 : decode cX7_areOrders 14 = .ok (.invokestatic 172, 3) := by decide +kernel
theorem dX7_areOrders_17 : decode cX7_areOrders 17 = .ok (.putfield 251, 3) := by decide +kernel
theorem dX7_areOrders_20 : decode cX7_areOrders 20 = .ok (.iconst 1, 1) := by decide +kernel
theorem dX7_areOrders_21 : decode cX7_areOrders 21 = .ok (.ireturn, 1) := by decide +kernel
theorem dX7_areTold_0 : decode cX7_areTold 0 = .ok (.aload_n 0, 1) := by decide +kernel
theorem dX7_areTold_1 : decode cX7_areTold 1 = .ok (.iload_n 1, 1) := by decide +kernel
theorem dX7_areTold_2 : decode cX7_areTold 2 = .ok (.invokevirtual 190, 3) := by decide +kernel
theorem dX7_areTold_5 : decode cX7_areTold 5 = .ok (.ifCond .eq 20, 3) := by decide +kernel
theorem dX7_areTold_8 : decode cX7_areTold 8 = .ok (.aload_n 0, 1) := by decide +kernel
theorem dX7_areTold_9 : decode cX7_areTold 9 = .ok (.iload_n 2, 1) := by decide +kernel
theorem dX7_areTold_10 : decode cX7_areTold 10 = .ok (.invokevirtual 254, 3) := by decide +kernel
theorem dX7_areTold_13 : decode cX7_areTold 13 = .ok (.ifCond .eq 12, 3) := by decide +kernel
theorem dX7_areTold_16 : decode cX7_areTold 16 = .ok (.aload_n 0, 1) := by decide +kernel
theorem dX7_areTold_17 : decode cX7_areTold 17 = .ok (.iconst 2, 1) := by decide +kernel
theorem dX7_areTold_18 : decode cX7_areTold 18 = .ok (.iload_n 3, 1) := by decide +kernel
theorem dX7_areTold_19 : decode cX7_areTold 19 = .ok (.invokevirtual 144, 3) := by decide +kernel
theorem dX7_areTold_22 : decode cX7_areTold 22 = .ok (.ifCond .ne 5, 3) := by decide +kernel
theorem dX7_areTold_25 : decode cX7_areTold 25 = .ok (.iconst 0, 1) := by decide +kernel
theorem dX7_areTold_26 : decode cX7_areTold 26 = .ok (.ireturn, 1) := by decide +kernel
theorem dX7_areTold_27 : decode cX7_areTold 27 = .ok (.aload_n 0, 1) := by decide +kernel
theorem dX7_areTold_28 : decode cX7_areTold 28 = .ok (.iconst 2, 1) := by decide +kernel
theorem dX7_areTold_29 : decode cX7_areTold 29 = .ok (.iload_n 3, 1) := by decide +kernel
theorem dX7_areTold_30 : decode cX7_areTold 30 = .ok (.invokestatic 172, 3) := by decide +kernel
theorem dX7_areTold_33 : decode cX7_areTold 33 = .ok (.putfield 305, 3) := by decide +kernel
theorem dX7_areTold_36 : decode cX7_areTold 36 = .ok (.iconst 1, 1) := by decide +kernel
theorem dX7_areTold_37 : decode cX7_areTold 37 = .ok (.ireturn, 1) := by decide +kernel
theorem dX7_bargain_0 : decode cX7_bargain 0 = .ok (.aload_n 0, 1) := by decide +kernel
theorem dX7_bargain_1 : decode cX7_bargain 1 = .ok (.iconst 5, 1) := by decide +kernel
theorem dX7_bargain_2 : decode cX7_bargain 2 = .ok (.iload_n 2, 1) := by decide +kernel
theorem dX7_bargain_3 : decode cX7_bargain 3 = .ok (.invokevirtual 144, 3) := by decide +kernel
theorem dX7_bargain_6 : decode cX7_bargain 6 = .ok (.ifCond .eq 11, 3) := by decide +kernel
theorem dX7_bargain_9 : decode cX7_bargain 9 = .ok (.aload_n 0, 1) := by decide +kernel
theorem dX7_bargain_10 : decode cX7_bargain 10 = .ok (.iload_n 1, 1) := by decide +kernel
theorem dX7_bargain_11 : decode cX7_bargain 11 = .ok (.invokevirtual 190, 3) := by decide +kernel
theorem dX7_bargain_14 : decode cX7_bargain 14 = .ok (.ifCond .ne 6, 3) := by decide +kernel
theorem dX7_bargain_17 : decode cX7_bargain 17 = .ok (.bipush (-2), 2) := by decide +kernel
theorem dX7_bargain_19 : decode cX7_bargain 19 = .ok (.ireturn, 1) := by decide +kernel
theorem dX7_bargain_20 : decode cX7_bargain 20 = .ok (.iconst 5, 1) := by decide +kernel
theorem dX7_bargain_21 : decode cX7_bargain 21 = .ok (.iload_n 2, 1) := by decide +kernel
theorem dX7_bargain_22 : decode cX7_bargain 22 = .ok (.invokestatic 172, 3) := by decide +kernel
theorem dX7_bargain_25 : decode cX7_bargain 25 = .ok (.istore 4, 2) := by decide +kernel
theorem dX7_bargain_27 : decode cX7_bargain 27 = .ok (.iload_n 3, 1) := by decide +kernel
theorem dX7_bargain_28 : decode cX7_bargain 28 = .ok (.iconst 0, 1) := by decide +kernel
theorem dX7_bargain_29 : decode cX7_bargain 29 = .ok (.iconst 5, 1) := by decide +kernel
theorem dX7_bargain_30 : decode cX7_bargain 30 = .ok (.invokestatic 93, 3) := by decide +kernel
theorem dX7_bargain_33 : decode cX7_bargain 33 = .ok (.ifCond .eq 13, 3) := by decide +kernel
theorem dX7_bargain_36 : decode cX7_bargain 36 = .ok (.aload_n 0, 1) := by decide +kernel
theorem dX7_bargain_37 : decode cX7_bargain 37 = .ok (.getfield 7, 3) := by decide +kernel
theorem dX7_bargain_40 : decode cX7_bargain 40 = .ok (.iload 4, 2) := by decide +kernel
theorem dX7_bargain_42 : decode cX7_bargain 42 = .ok (.iload_n 3, 1) := by decide +kernel
theorem dX7_bargain_43 : decode cX7_bargain 43 = .ok (.iadd, 1) := by decide +kernel
theorem dX7_bargain_44 : decode cX7_bargain 44 = .ok (.iaload, 1) := by decide +kernel
theorem dX7_bargain_45 : decode cX7_bargain 45 = .ok (.ireturn, 1) := by decide +kernel
theorem dX7_bargain_46 : decode cX7_bargain 46 = .ok (.iload_n 3, 1) := by decide +kernel
theorem dX7_bargain_47 : decode cX7_bargain 47 = .ok (.bipush 10, 2) := by decide +kernel
theorem dX7_bargain_49 : decode cX7_bargain 49 = .ok (.bipush 11, 2) := by decide +kernel
theorem dX7_bargain_51 : decode cX7_bargain 51 = .ok (.invokestatic 93, 3) := by decide +kernel
theorem dX7_bargain_54 : decode cX7_bargain 54 = .ok (.ifCond .ne 6, 3) := by decide +kernel
theorem dX7_bargain_57 : decode cX7_bargain 57 = .ok (.bipush (-2), 2) := by decide +kernel
theorem dX7_bargain_59 : decode cX7_bargain 59 = .ok (.ireturn, 1) := by decide +kernel
theorem dX7_bargain_60 : decode cX7_bargain 60 = .ok (.iconst 0, 1) := by decide +kernel
theorem dX7_bargain_61 : decode cX7_bargain 61 = .ok (.istore 5, 2) := by decide +kernel
theorem dX7_bargain_63 : decode cX7_bargain 63 = .ok (.iconst (-1), 1) := by decide +kernel
theorem dX7_bargain_64 : decode cX7_bargain 64 = .ok (.istore 6, 2) := by decide +kernel
theorem dX7_bargain_66 : decode cX7_bargain 66 = .ok (.iconst 0, 1) := by decide +kernel
theorem dX7_bargain_67 : decode cX7_bargain 67 = .ok (.istore 7, 2) := by decide +kernel
theorem dX7_bargain_69 : decode cX7_bargain 69 = .ok (.iload 7, 2) := by decide +kernel
theorem dX7_bargain_71 : decode cX7_bargain 71 = .ok (.aload_n 0, 1) := by decide +kernel
theorem dX7_bargain_72 : decode cX7_bargain 72 = .ok (.invokevirtual 347, 3) := by decide +kernel
theorem dX7_bargain_75 : decode cX7_bargain 75 = .ok (.if_icmp .gt 96, 3) := by decide +kernel
theorem dX7_bargain_78 : decode cX7_bargain 78 = .ok (.iconst 0, 1) := by decide +kernel
theorem dX7_bargain_79 : decode cX7_bargain 79 = .ok (.istore 8, 2) := by decide +kernel
theorem dX7_bargain_81 : decode cX7_bargain 81 = .ok (.iconst 0, 1) := by decide +kernel
theorem dX7_bargain_82 : decode cX7_bargain 82 = .ok (.istore 9, 2) := by decide +kernel
theorem dX7_bargain_84 : decode cX7_bargain 84 = .ok (.iload 9, 2) := by decide +kernel
theorem dX7_bargain_86 : decode cX7_bargain 86 = .ok (.aload_n 0, 1) := by decide +kernel
theorem dX7_bargain_87 : decode cX7_bargain 87 = .ok (.invokevirtual 184, 3) := by decide +kernel
theorem dX7_bargain_90 : decode cX7_bargain 90 = .ok (.if_icmp .ge 39, 3) := by decide +kernel
theorem dX7_bargain_93 : decode cX7_bargain 93 = .ok (.iload 8, 2) := by decide +kernel
theorem dX7_bargain_95 : decode cX7_bargain 95 = .ok (.iload 7, 2) := by decide +kernel
theorem dX7_bargain_97 : decode cX7_bargain 97 = .ok (.iload 9, 2) := by decide +kernel
theorem dX7_bargain_99 : decode cX7_bargain 99 = .ok (.ishr, 1) := by decide +kernel
theorem dX7_bargain_100 : decode cX7_bargain 100 = .ok (.iconst 1, 1) := by decide +kernel
theorem dX7_bargain_101 : decode cX7_bargain 101 = .ok (.iand, 1) := by decide +kernel
theorem dX7_bargain_102 : decode cX7_bargain 102 = .ok (.iconst 1, 1) := by decide +kernel
theorem dX7_bargain_103 : decode cX7_bargain 103 = .ok (.if_icmp .ne 16, 3) := by decide +kernel
theorem dX7_bargain_106 : decode cX7_bargain 106 = .ok (.aload_n 0, 1) := by decide +kernel
theorem dX7_bargain_107 : decode cX7_bargain 107 = .ok (.getfield 7, 3) := by decide +kernel
theorem dX7_bargain_110 : decode cX7_bargain 110 = .ok (.iload 4, 2) := by decide +kernel
theorem dX7_bargain_112 : decode cX7_bargain 112 = .ok (.iload 9, 2) := by decide +kernel
theorem dX7_bargain_114 : decode cX7_bargain 114 = .ok (.iadd, 1) := by decide +kernel
theorem dX7_bargain_115 : decode cX7_bargain 115 = .ok (.iaload, 1) := by decide +kernel
theorem dX7_bargain_116 : decode cX7_bargain 116 = .ok (.goto 4, 3) := by decide +kernel
theorem dX7_bargain_119 : decode cX7_bargain 119 = .ok (.iconst 0, 1) := by decide +kernel
theorem dX7_bargain_120 : decode cX7_bargain 120 = .ok (.iadd, 1) := by decide +kernel
theorem dX7_bargain_121 : decode cX7_bargain 121 = .ok (.istore 8, 2) := by decide +kernel
theorem dX7_bargain_123 : decode cX7_bargain 123 = .ok (.iinc 9 1, 3) := by decide +kernel
theorem dX7_bargain_126 : decode cX7_bargain 126 = .ok (.goto (-42), 3) := by decide +kernel
theorem dX7_bargain_129 : decode cX7_bargain 129 = .ok (.aload_n 0, 1) := by decide +kernel
theorem dX7_bargain_130 : decode cX7_bargain 130 = .ok (.iload 7, 2) := by decide +kernel
theorem dX7_bargain_132 : decode cX7_bargain 132 = .ok (.invokevirtual 350, 3) := by decide +kernel
theorem dX7_bargain_135 : decode cX7_bargain 135 = .ok (.ifCond .eq 30, 3) := by decide +kernel
theorem dX7_bargain_138 : decode cX7_bargain 138 = .ok (.iload 8, 2) := by decide +kernel
theorem dX7_bargain_140 : decode cX7_bargain 140 = .ok (.bipush 100, 2) := by decide +kernel
theorem dX7_bargain_142 : decode cX7_bargain 142 = .ok (.if_icmp .lt 6, 3) := by decide +kernel
theorem dX7_bargain_145 : decode cX7_bargain 145 = .ok (.goto 20, 3) := by decide +kernel
theorem dX7_bargain_148 : decode cX7_bargain 148 = .ok (.iload 5, 2) := by decide +kernel
theorem dX7_bargain_150 : decode cX7_bargain 150 = .ok (.ifCond .ne 8, 3) := by decide +kernel
theorem dX7_bargain_153 : decode cX7_bargain 153 = .ok (.iload 7, 2) := by decide +kernel
theorem dX7_bargain_155 : decode cX7_bargain 155 = .ok (.goto 5, 3) := by decide +kernel
theorem dX7_bargain_158 : decode cX7_bargain 158 = .ok (.iload 6, 2) := by decide +kernel
theorem dX7_bargain_160 : decode cX7_bargain 160 = .ok (.istore 6, 2) := by decide +kernel
theorem dX7_bargain_162 : decode cX7_bargain 162 = .ok (.iinc 5 1, 3) := by decide +kernel
theorem dX7_bargain_165 : decode cX7_bargain 165 = .ok (.iinc 7 1, 3) := by decide +kernel
theorem dX7_bargain_168 : decode cX7_bargain 168 = .ok (.goto (-99), 3) := by decide +kernel
theorem dX7_bargain_171 : decode cX7_bargain 171 = .ok (.iload_n 3, 1) := by decide +kernel
theorem dX7_bargain_172 : decode cX7_bargain 172 = .ok (.bipush 10, 2) := by decide +kernel
theorem dX7_bargain_174 : decode cX7_bargain 174 = .ok (.if_icmp .ne 8, 3) := by decide +kernel
theorem dX7_bargain_177 : decode cX7_bargain 177 = .ok (.iload 6, 2) := by decide +kernel
theorem dX7_bargain_179 : decode cX7_bargain 179 = .ok (.goto 5, 3) := by decide +kernel
theorem dX7_bargain_182 : decode cX7_bargain 182 = .ok (.iload 5, 2) := by decide +kernel
theorem dX7_bargain_184 : decode cX7_bargain 184 = .ok (.ireturn, 1) := by decide +kernel
theorem dX7_bribe_0 : decode cX7_bribe 0 = .ok (.aload_n 0, 1) := by decide +kernel
theorem dX7_bribe_1 : decode cX7_bribe 1 = .ok (.iload_n 1, 1) := by decide +kernel
theorem dX7_bribe_2 : decode cX7_bribe 2 = .ok (.iload_n 2, 1) := by decide +kernel
theorem dX7_bribe_3 : decode cX7_bribe 3 = .ok (.iload_n 3, 1) := by decide +kernel
theorem dX7_bribe_4 : decode cX7_bribe 4 = .ok (.iload 4, 2) := by decide +kernel
theorem dX7_bribe_6 : decode cX7_bribe 6 = .ok (.iload 5, 2) := by decide +kernel
theorem dX7_bribe_8 : decode cX7_bribe 8 = .ok (.iload 6, 2) := by decide +kernel
theorem dX7_bribe_10 : decode cX7_bribe 10 = .ok (.invokevirtual 241, 3) := by decide +kernel
theorem dX7_bribe_13 : decode cX7_bribe 13 = .ok (.ifCond .ne 5, 3) := by decide +kernel
theorem dX7_bribe_16 : decode cX7_bribe 16 = .ok (.iconst (-1), 1) := by decide +kernel
theorem dX7_bribe_17 : decode cX7_bribe 17 = .ok (.ireturn, 1) := by decide +kernel
theorem dX7_bribe_18 : decode cX7_bribe 18 = .ok (.aload_n 0, 1) := by decide +kernel
theorem dX7_bribe_19 : decode cX7_bribe 19 = .ok (.invokevirtual 245, 3) := by decide +kernel
theorem dX7_bribe_22 : decode cX7_bribe 22 = .ok (.istore 8, 2) := by decide +kernel
theorem dX7_bribe_24 : decode cX7_bribe 24 = .ok (.iconst (-1), 1) := by decide +kernel
theorem dX7_bribe_25 : decode cX7_bribe 25 = .ok (.istore 9, 2) := by decide +kernel
theorem dX7_bribe_27 : decode cX7_bribe 27 = .ok (.iconst 0, 1) := by decide +kernel
theorem dX7_bribe_28 : decode cX7_bribe 28 = .ok (.istore 10, 2) := by decide +kernel
theorem dX7_bribe_30 : decode cX7_bribe 30 = .ok (.iconst 0, 1) := by decide +kernel
theorem dX7_bribe_31 : decode cX7_bribe 31 = .ok (.istore 11, 2) := by decide +kernel
theorem dX7_bribe_33 : decode cX7_bribe 33 = .ok (.iload 11, 2) := by decide +kernel
theorem dX7_bribe_35 : decode cX7_bribe 35 = .ok (.aload_n 0, 1) := by decide +kernel
theorem dX7_bribe_36 : decode cX7_bribe 36 = .ok (.invokevirtual 347, 3) := by decide +kernel
theorem dX7_bribe_39 : decode cX7_bribe 39 = .ok (.if_icmp .gt 63, 3) := by decide +kernel
theorem dX7_bribe_42 : decode cX7_bribe 42 = .ok (.iload 11, 2) := by decide +kernel
theorem dX7_bribe_44 : decode cX7_bribe 44 = .ok (.iload 8, 2) := by decide +kernel
theorem dX7_bribe_46 : decode cX7_bribe 46 = .ok (.iand, 1) := by decide +kernel
theorem dX7_bribe_47 : decode cX7_bribe 47 = .ok (.ifCond .ne 49, 3) := by decide +kernel
theorem dX7_bribe_50 : decode cX7_bribe 50 = .ok (.aload_n 0, 1) := by decide +kernel
theorem dX7_bribe_51 : decode cX7_bribe 51 = .ok (.iload 8, 2) := by decide +kernel
theorem dX7_bribe_53 : decode cX7_bribe 53 = .ok (.iload 11, 2) := by decide +kernel
theorem dX7_bribe_55 : decode cX7_bribe 55 = .ok (.ior, 1) := by decide +kernel
theorem dX7_bribe_56 : decode cX7_bribe 56 = .ok (.invokevirtual 248, 3) := by decide +kernel
theorem dX7_bribe_59 : decode cX7_bribe 59 = .ok (.ifCond .ne 6, 3) := by decide +kernel
theorem dX7_bribe_62 : decode cX7_bribe 62 = .ok (.goto 34, 3) := by decide +kernel
theorem dX7_bribe_65 : decode cX7_bribe 65 = .ok (.aload_n 0, 1) := by decide +kernel
theorem dX7_bribe_66 : decode cX7_bribe 66 = .ok (.iload 11, 2) := by decide +kernel
theorem dX7_bribe_68 : decode cX7_bribe 68 = .ok (.invokevirtual 369, 3) := by decide +kernel
theorem dX7_bribe_71 : decode cX7_bribe 71 = .ok (.istore 12, 2) := by decide +kernel
theorem dX7_bribe_73 : decode cX7_bribe 73 = .ok (.iload 9, 2) := by decide +kernel
theorem dX7_bribe_75 : decode cX7_bribe 75 = .ok (.ifCond .lt 13, 3) := by decide +kernel
theorem dX7_bribe_78 : decode cX7_bribe 78 = .ok (.iload 12, 2) := by decide +kernel
theorem dX7_bribe_80 : decode cX7_bribe 80 = .ok (.iload 10, 2) := by decide +kernel
theorem dX7_bribe_82 : decode cX7_bribe 82 = .ok (.if_icmp .lt 6, 3) := by decide +kernel
theorem dX7_bribe_85 : decode cX7_bribe 85 = .ok (.goto 11, 3) := by decide +kernel
theorem dX7_bribe_88 : decode cX7_bribe 88 = .ok (.iload 11, 2) := by decide +kernel
theorem dX7_bribe_90 : decode cX7_bribe 90 = .ok (.istore 9, 2) := by decide +kernel
theorem dX7_bribe_92 : decode cX7_bribe 92 = .ok (.iload 12, 2) := by decide +kernel
theorem dX7_bribe_94 : decode cX7_bribe 94 = .ok (.istore 10, 2) := by decide +kernel
theorem dX7_bribe_96 : decode cX7_bribe 96 = .ok (.iinc 11 1, 3) := by decide +kernel
theorem dX7_bribe_99 : decode cX7_bribe 99 = .ok (.goto (-66), 3) := by decide +kernel
theorem dX7_bribe_102 : decode cX7_bribe 102 = .ok (.iload 9, 2) := by decide +kernel
theorem dX7_bribe_104 : decode cX7_bribe 104 = .ok (.ifCond .ge 7, 3) := by decide +kernel
theorem dX7_bribe_107 : decode cX7_bribe 107 = .ok (.iconst (-1), 1) := by decide +kernel
theorem dX7_bribe_108 : decode cX7_bribe 108 = .ok (.goto 15, 3) := by decide +kernel
theorem dX7_bribe_111 : decode cX7_bribe 111 = .ok (.iload 7, 2) := by decide +kernel
theorem dX7_bribe_113 : decode cX7_bribe 113 = .ok (.ifCond .eq 8, 3) := by decide +kernel
theorem dX7_bribe_116 : decode cX7_bribe 116 = .ok (.iload 9, 2) := by decide +kernel
theorem dX7_bribe_118 : decode cX7_bribe 118 = .ok (.goto 5, 3) := by decide +kernel
theorem dX7_bribe_121 : decode cX7_bribe 121 = .ok (.iload 10, 2) := by decide +kernel
theorem dX7_bribe_123 : decode cX7_bribe 123 = .ok (.ireturn, 1) := by decide +kernel
theorem dX7_broken_0 : decode cX7_broken 0 = .ok (.aload_n 0, 1) := by decide +kernel
theorem dX7_broken_1 : decode cX7_broken 1 = .ok (.iload_n 1, 1) := by decide +kernel
theorem dX7_broken_2 : decode cX7_broken 2 = .ok (.invokevirtual 254, 3) := by decide +kernel
theorem dX7_broken_5 : decode cX7_broken 5 = .ok (.ifCond .eq 35, 3) := by decide +kernel
theorem dX7_broken_8 : decode cX7_broken 8 = .ok (.iload_n 2, 1) := by decide +kernel
theorem dX7_broken_9 : decode cX7_broken 9 = .ok (.iconst 0, 1) := by decide +kernel
theorem dX7_broken_10 : decode cX7_broken 10 = .ok (.iconst 3, 1) := by decide +kernel
theorem dX7_broken_11 : decode cX7_broken 11 = .ok (.invokestatic 93, 3) := by decide +kernel
theorem dX7_broken_14 : decode cX7_broken 14 = .ok (.ifCond .eq 26, 3) := by decide +kernel
theorem dX7_broken_17 : decode cX7_broken 17 = .ok (.iload_n 3, 1) := by decide +kernel
theorem dX7_broken_18 : decode cX7_broken 18 = .ok (.iload 4, 2) := by decide +kernel
theorem dX7_broken_20 : decode cX7_broken 20 = .ok (.iload 5, 2) := by decide +kernel
theorem dX7_broken_22 : decode cX7_broken 22 = .ok (.invokestatic 235, 3) := by decide +kernel
theorem dX7_broken_25 : decode cX7_broken 25 = .ok (.ifCond .eq 15, 3) := by decide +kernel
theorem dX7_broken_28 : decode cX7_broken 28 = .ok (.iload 6, 2) := by decide +kernel
theorem dX7_broken_30 : decode cX7_broken 30 = .ok (.iconst (-1), 1) := by decide +kernel
theorem dX7_broken_31 : decode cX7_broken 31 = .ok (.sipush 999, 3) := by decide +kernel
theorem dX7_broken_34 : decode cX7_broken 34 = .ok (.invokestatic 93, 3) := by decide +kernel
theorem dX7_broken_37 : decode cX7_broken 37 = .ok (.ifCond .ne 5, 3) := by decide +kernel
theorem dX7_broken_40 : decode cX7_broken 40 = .ok (.iconst (-1), 1) := by decide +kernel
theorem dX7_broken_41 : decode cX7_broken 41 = .ok (.ireturn, 1) := by decide +kernel
theorem dX7_broken_42 : decode cX7_broken 42 = .ok (.aload_n 0, 1) := by decide +kernel
theorem dX7_broken_43 : decode cX7_broken 43 = .ok (.iload_n 2, 1) := by decide +kernel
theorem dX7_broken_44 : decode cX7_broken 44 = .ok (.putfield 205, 3) := by decide +kernel
theorem dX7_broken_47 : decode cX7_broken 47 = .ok (.aload_n 0, 1) := by decide +kernel
theorem dX7_broken_48 : decode cX7_broken 48 = .ok (.bipush 100, 2) := by decide +kernel
theorem dX7_broken_50 : decode cX7_broken 50 = .ok (.iload_n 3, 1) := by decide +kernel
theorem dX7_broken_51 : decode cX7_broken 51 = .ok (.imul, 1) := by decide +kernel
theorem dX7_broken_52 : decode cX7_broken 52 = .ok (.bipush 10, 2) := by decide +kernel
theorem dX7_broken_54 : decode cX7_broken 54 = .ok (.iload 4, 2) := by decide +kernel
theorem dX7_broken_56 : decode cX7_broken 56 = .ok (.imul, 1) := by decide +kernel
theorem dX7_broken_57 : decode cX7_broken 57 = .ok (.iadd, 1) := by decide +kernel
theorem dX7_broken_58 : decode cX7_broken 58 = .ok (.iload 5, 2) := by decide +kernel
theorem dX7_broken_60 : decode cX7_broken 60 = .ok (.iadd, 1) := by decide +kernel
theorem dX7_broken_61 : decode cX7_broken 61 = .ok (.invokevirtual 238, 3) := by decide +kernel
theorem dX7_broken_64 : decode cX7_broken 64 = .ok (.aload_n 0, 1) := by decide +kernel
theorem dX7_broken_65 : decode cX7_broken 65 = .ok (.iload 6, 2) := by decide +kernel
theorem dX7_broken_67 : decode cX7_broken 67 = .ok (.invokevirtual 269, 3) := by decide +kernel
theorem dX7_broken_70 : decode cX7_broken 70 = .ok (.ireturn, 1) := by decide +kernel
theorem dX7_coalition_0 : decode cX7_coalition 0 = .ok (.aload_n 0, 1) := by decide +kernel
theorem dX7_coalition_1 : decode cX7_coalition 1 = .ok (.iload_n 1, 1) := by decide +kernel
theorem dX7_coalition_2 : decode cX7_coalition 2 = .ok (.invokevirtual 190, 3) := by decide +kernel
theorem dX7_coalition_5 : decode cX7_coalition 5 = .ok (.ifCond .eq 9, 3) := by decide +kernel
theorem dX7_coalition_8 : decode cX7_coalition 8 = .ok (.iload_n 2, 1) := by decide +kernel
theorem dX7_coalition_9 : decode cX7_coalition 9 = .ok (.bipush (-2), 2) := by decide +kernel
theorem dX7_coalition_11 : decode cX7_coalition 11 = .ok (.if_icmp .ge 6, 3) := by decide +kernel
theorem dX7_coalition_14 : decode cX7_coalition 14 = .ok (.bipush (-3), 2) := by decide +kernel
theorem dX7_coalition_16 : decode cX7_coalition 16 = .ok (.ireturn, 1) := by decide +kernel
theorem dX7_coalition_17 : decode cX7_coalition 17 = .ok (.iload_n 2, 1) := by decide +kernel
theorem dX7_coalition_18 : decode cX7_coalition 18 = .ok (.bipush (-2), 2) := by decide +kernel
theorem dX7_coalition_20 : decode cX7_coalition 20 = .ok (.if_icmp .ne 8, 3) := by decide +kernel
theorem dX7_coalition_23 : decode cX7_coalition 23 = .ok (.aload_n 0, 1) := by decide +kernel
theorem dX7_coalition_24 : decode cX7_coalition 24 = .ok (.invokevirtual 363, 3) := by decide +kernel
theorem dX7_coalition_27 : decode cX7_coalition 27 = .ok (.ireturn, 1) := by decide +kernel
theorem dX7_coalition_28 : decode cX7_coalition 28 = .ok (.iconst 0, 1) := by decide +kernel
theorem dX7_coalition_29 : decode cX7_coalition 29 = .ok (.istore_n 3, 1) := by decide +kernel
theorem dX7_coalition_30 : decode cX7_coalition 30 = .ok (.iconst 0, 1) := by decide +kernel
theorem dX7_coalition_31 : decode cX7_coalition 31 = .ok (.istore 4, 2) := by decide +kernel
theorem dX7_coalition_33 : decode cX7_coalition 33 = .ok (.iload 4, 2) := by decide +kernel
theorem dX7_coalition_35 : decode cX7_coalition 35 = .ok (.aload_n 0, 1) := by decide +kernel
theorem dX7_coalition_36 : decode cX7_coalition 36 = .ok (.invokevirtual 347, 3) := by decide +kernel
theorem dX7_coalition_39 : decode cX7_coalition 39 = .ok (.if_icmp .gt 32, 3) := by decide +kernel
theorem dX7_coalition_42 : decode cX7_coalition 42 = .ok (.aload_n 0, 1) := by decide +kernel
theorem dX7_coalition_43 : decode cX7_coalition 43 = .ok (.iload 4, 2) := by decide +kernel
theorem dX7_coalition_45 : decode cX7_coalition 45 = .ok (.invokevirtual 366, 3) := by decide +kernel
theorem dX7_coalition_48 : decode cX7_coalition 48 = .ok (.ifCond .ne 6, 3) := by decide +kernel
theorem dX7_coalition_51 : decode cX7_coalition 51 = .ok (.goto 14, 3) := by decide +kernel
theorem dX7_coalition_54 : decode cX7_coalition 54 = .ok (.iload_n 3, 1) := by decide +kernel
theorem dX7_coalition_55 : decode cX7_coalition 55 = .ok (.iload_n 2, 1) := by decide +kernel
theorem dX7_coalition_56 : decode cX7_coalition 56 = .ok (.if_icmp .ne 6, 3) := by decide +kernel
theorem dX7_coalition_59 : decode cX7_coalition 59 = .ok (.iload 4, 2) := by decide +kernel
theorem dX7_coalition_61 : decode cX7_coalition 61 = .ok (.ireturn, 1) := by decide +kernel
theorem dX7_coalition_62 : decode cX7_coalition 62 = .ok (.iinc 3 1, 3) := by decide +kernel
theorem dX7_coalition_65 : decode cX7_coalition 65 = .ok (.iinc 4 1, 3) := by decide +kernel
theorem dX7_coalition_68 : decode cX7_coalition 68 = .ok (.goto (-35), 3) := by decide +kernel
theorem dX7_coalition_71 : decode cX7_coalition 71 = .ok (.iload_n 2, 1) := by decide +kernel
theorem dX7_coalition_72 : decode cX7_coalition 72 = .ok (.iconst (-1), 1) := by decide +kernel
theorem dX7_coalition_73 : decode cX7_coalition 73 = .ok (.if_icmp .ne 7, 3) := by decide +kernel
theorem dX7_coalition_76 : decode cX7_coalition 76 = .ok (.iload_n 3, 1) := by decide +kernel
theorem dX7_coalition_77 : decode cX7_coalition 77 = .ok (.goto 5, 3) := by decide +kernel
theorem dX7_coalition_80 : decode cX7_coalition 80 = .ok (.bipush (-3), 2) := by decide +kernel
theorem dX7_coalition_82 : decode cX7_coalition 82 = .ok (.ireturn, 1) := by decide +kernel
theorem dX7_deed_0 : decode cX7_deed 0 = .ok (.aload_n 0, 1) := by decide +kernel
theorem dX7_deed_1 : decode cX7_deed 1 = .ok (.iconst 2, 1) := by decide +kernel
theorem dX7_deed_2 : decode cX7_deed 2 = .ok (.iload_n 1, 1) := by decide +kernel
theorem dX7_deed_3 : decode cX7_deed 3 = .ok (.invokevirtual 144, 3) := by decide +kernel
theorem dX7_deed_6 : decode cX7_deed 6 = .ok (.ifCond .ne 6, 3) := by decide +kernel
theorem dX7_deed_9 : decode cX7_deed 9 = .ok (.bipush (-2), 2) := by decide +kernel
theorem dX7_deed_11 : decode cX7_deed 11 = .ok (.ireturn, 1) := by decide +kernel
theorem dX7_deed_12 : decode cX7_deed 12 = .ok (.aload_n 0, 1) := by decide +kernel
theorem dX7_deed_13 : decode cX7_deed 13 = .ok (.iconst 2, 1) := by decide +kernel
theorem dX7_deed_14 : decode cX7_deed 14 = .ok (.iload_n 1, 1) := by decide +kernel
theorem dX7_deed_15 : decode cX7_deed 15 = .ok (.invokestatic 172, 3) := by decide +kernel
theorem dX7_deed_18 : decode cX7_deed 18 = .ok (.putfield 305, 3) := by decide +kernel
theorem dX7_deed_21 : decode cX7_deed 21 = .ok (.iload_n 2, 1) := by decide +kernel
theorem dX7_deed_22 : decode cX7_deed 22 = .ok (.iconst (-1), 1) := by decide +kernel
theorem dX7_deed_23 : decode cX7_deed 23 = .ok (.if_icmp .ne 17, 3) := by decide +kernel
theorem dX7_deed_26 : decode cX7_deed 26 = .ok (.iload_n 3, 1) := by decide +kernel
theorem dX7_deed_27 : decode cX7_deed 27 = .ok (.ifCond .ne 10, 3) := by decide +kernel
theorem dX7_deed_30 : decode cX7_deed 30 = .ok (.aload_n 0, 1) := by decide +kernel
theorem dX7_deed_31 : decode cX7_deed 31 = .ok (.invokevirtual 308, 3) := by decide +kernel
theorem dX7_deed_34 : decode cX7_deed 34 = .ok (.goto 5, 3) := by decide +kernel
theorem dX7_deed_37 : decode cX7_deed 37 = .ok (.bipush (-2), 2) := by decide +kernel
theorem dX7_deed_39 : decode cX7_deed 39 = .ok (.ireturn, 1) := by decide +kernel
theorem dX7_deed_40 : decode cX7_deed 40 = .ok (.iload_n 2, 1) := by decide +kernel
theorem dX7_deed_41 : decode cX7_deed 41 = .ok (.iconst 0, 1) := by decide +kernel
theorem dX7_deed_42 : decode cX7_deed 42 = .ok (.aload_n 0, 1) := by decide +kernel
theorem dX7_deed_43 : decode cX7_deed 43 = .ok (.invokevirtual 308, 3) := by decide +kernel
theorem dX7_deed_46 : decode cX7_deed 46 = .ok (.iconst 1, 1) := by decide +kernel
theorem dX7_deed_47 : decode cX7_deed 47 = .ok (.isub, 1) := by decide +kernel
theorem dX7_deed_48 : decode cX7_deed 48 = .ok (.invokestatic 93, 3) := by decide +kernel
theorem dX7_deed_51 : decode cX7_deed 51 = .ok (.ifCond .eq 21, 3) := by decide +kernel
theorem dX7_deed_54 : decode cX7_deed 54 = .ok (.iload_n 3, 1) := by decide +kernel
theorem dX7_deed_55 : decode cX7_deed 55 = .ok (.iconst 0, 1) := by decide +kernel
theorem dX7_deed_56 : decode cX7_deed 56 = .ok (.iconst 4, 1) := by decide +kernel
theorem dX7_deed_57 : decode cX7_deed 57 = .ok (.invokestatic 93, 3) := by decide +kernel
theorem dX7_deed_60 : decode cX7_deed 60 = .ok (.ifCond .eq 12, 3) := by decide +kernel
theorem dX7_deed_63 : decode cX7_deed 63 = .ok (.aload_n 0, 1) := by decide +kernel
theorem dX7_deed_64 : decode cX7_deed 64 = .ok (.iload_n 2, 1) := by decide +kernel
theorem dX7_deed_65 : decode cX7_deed 65 = .ok (.iload_n 3, 1) := by decide +kernel
theorem dX7_deed_66 : decode cX7_deed 66 = .ok (.invokevirtual 311, 3) := by decide +kernel
theorem dX7_deed_69 : decode cX7_deed 69 = .ok (.goto 5, 3) := by decide +kernel
theorem dX7_deed_72 : decode cX7_deed 72 = .ok (.bipush (-2), 2) := by decide +kernel
theorem dX7_deed_74 : decode cX7_deed 74 = .ok (.ireturn, 1) := by decide +kernel
theorem dX7_drawn_0 : decode cX7_drawn 0 = .ok (.aload_n 0, 1) := by decide +kernel
theorem dX7_drawn_1 : decode cX7_drawn 1 = .ok (.iload_n 1, 1) := by decide +kernel
theorem dX7_drawn_2 : decode cX7_drawn 2 = .ok (.invokevirtual 190, 3) := by decide +kernel
theorem dX7_drawn_5 : decode cX7_drawn 5 = .ok (.ifCond .eq 24, 3) := by decide +kernel
theorem dX7_drawn_8 : decode cX7_drawn 8 = .ok (.iload_n 3, 1) := by decide +kernel
theorem dX7_drawn_9 : decode cX7_drawn 9 = .ok (.iconst 0, 1) := by decide +kernel
theorem dX7_drawn_10 : decode cX7_drawn 10 = .ok (.bipush 60, 2) := by decide +kernel
theorem dX7_drawn_12 : decode cX7_drawn 12 = .ok (.invokestatic 93, 3) := by decide +kernel
theorem dX7_drawn_15 : decode cX7_drawn 15 = .ok (.ifCond .eq 14, 3) := by decide +kernel
theorem dX7_drawn_18 : decode cX7_drawn 18 = .ok (.iload 4, 2) := by decide +kernel
theorem dX7_drawn_20 : decode cX7_drawn 20 = .ok (.iconst 0, 1) := by decide +kernel
theorem dX7_drawn_21 : decode cX7_drawn 21 = .ok (.bipush 6, 2) := by decide +kernel
theorem dX7_drawn_23 : decode cX7_drawn 23 = .ok (.invokestatic 93, 3) := by decide +kernel
theorem dX7_drawn_26 : decode cX7_drawn 26 = .ok (.ifCond .ne 6, 3) := by decide +kernel
theorem dX7_drawn_29 : decode cX7_drawn 29 = .ok (.bipush (-2), 2) := by decide +kernel
theorem dX7_drawn_31 : decode cX7_drawn 31 = .ok (.ireturn, 1) := by decide +kernel
theorem dX7_drawn_32 : decode cX7_drawn 32 = .ok (.aload_n 0, 1) := by decide +kernel
theorem dX7_drawn_33 : decode cX7_drawn 33 = .ok (.iload_n 2, 1) := by decide +kernel
theorem dX7_drawn_34 : decode cX7_drawn 34 = .ok (.putfield 444, 3) := by decide +kernel
theorem dX7_drawn_37 : decode cX7_drawn 37 = .ok (.iconst 0, 1) := by decide +kernel
theorem dX7_drawn_38 : decode cX7_drawn 38 = .ok (.istore 5, 2) := by decide +kernel
theorem dX7_drawn_40 : decode cX7_drawn 40 = .ok (.iconst 0, 1) := by decide +kernel
theorem dX7_drawn_41 : decode cX7_drawn 41 = .ok (.istore 6, 2) := by decide +kernel
theorem dX7_drawn_43 : decode cX7_drawn 43 = .ok (.iconst 0, 1) := by decide +kernel
theorem dX7_drawn_44 : decode cX7_drawn 44 = .ok (.istore 7, 2) := by decide +kernel
theorem dX7_drawn_46 : decode cX7_drawn 46 = .ok (.iconst 0, 1) := by decide +kernel
theorem dX7_drawn_47 : decode cX7_drawn 47 = .ok (.istore 8, 2) := by decide +kernel
theorem dX7_drawn_49 : decode cX7_drawn 49 = .ok (.iload 8, 2) := by decide +kernel
theorem dX7_drawn_51 : decode cX7_drawn 51 = .ok (.iload_n 3, 1) := by decide +kernel
theorem dX7_drawn_52 : decode cX7_drawn 52 = .ok (.if_icmp .ge 164, 3) := by decide +kernel
theorem dX7_drawn_55 : decode cX7_drawn 55 = .ok (.aload_n 0, 1) := by decide +kernel
theorem dX7_drawn_56 : decode cX7_drawn 56 = .ok (.iload 8, 2) := by decide +kernel
theorem dX7_drawn_58 : decode cX7_drawn 58 = .ok (.iconst 5, 1) := by decide +kernel
theorem dX7_drawn_59 : decode cX7_drawn 59 = .ok (.idiv, 1) := by decide +kernel
theorem dX7_drawn_60 : decode cX7_drawn 60 = .ok (.iconst 4, 1) := by decide +kernel
theorem dX7_drawn_61 : decode cX7_drawn 61 = .ok (.irem, 1) := by decide +kernel
theorem dX7_drawn_62 : decode cX7_drawn 62 = .ok (.putfield 205, 3) := by decide +kernel
theorem dX7_drawn_65 : decode cX7_drawn 65 = .ok (.aload_n 0, 1) := by decide +kernel
theorem dX7_drawn_66 : decode cX7_drawn 66 = .ok (.getfield 226, 3) := by decide +kernel
theorem dX7_drawn_69 : decode cX7_drawn 69 = .ok (.ifCond .eq 7, 3) := by decide +kernel
theorem dX7_drawn_72 : decode cX7_drawn 72 = .ok (.iconst 1, 1) := by decide +kernel
theorem dX7_drawn_73 : decode cX7_drawn 73 = .ok (.goto 4, 3) := by decide +kernel
theorem dX7_drawn_76 : decode cX7_drawn 76 = .ok (.iconst 0, 1) := by decide +kernel
theorem dX7_drawn_77 : decode cX7_drawn 77 = .ok (.istore 9, 2) := by decide +kernel
theorem dX7_drawn_79 : decode cX7_drawn 79 = .ok (.iload 9, 2) := by decide +kernel
theorem dX7_drawn_81 : decode cX7_drawn 81 = .ok (.ifCond .eq 66, 3) := by decide +kernel
theorem dX7_drawn_84 : decode cX7_drawn 84 = .ok (.aload_n 0, 1) := by decide +kernel
theorem dX7_drawn_85 : decode cX7_drawn 85 = .ok (.aload_n 0, 1) := by decide +kernel
theorem dX7_drawn_86 : decode cX7_drawn 86 = .ok (.aload_n 0, 1) := by decide +kernel
theorem dX7_drawn_87 : decode cX7_drawn 87 = .ok (.aload_n 0, 1) := by decide +kernel
theorem dX7_drawn_88 : decode cX7_drawn 88 = .ok (.getfield 226, 3) := by decide +kernel
theorem dX7_drawn_91 : decode cX7_drawn 91 = .ok (.invokestatic 353, 3) := by decide +kernel
theorem dX7_drawn_94 : decode cX7_drawn 94 = .ok (.invokevirtual 448, 3) := by decide +kernel
theorem dX7_drawn_97 : decode cX7_drawn 97 = .ok (.invokevirtual 451, 3) := by decide +kernel
theorem dX7_drawn_100 : decode cX7_drawn 100 = .ok (.putfield 214, 3) := by decide +kernel
theorem dX7_drawn_103 : decode cX7_drawn 103 = .ok (.aload_n 0, 1) := by decide +kernel
theorem dX7_drawn_104 : decode cX7_drawn 104 = .ok (.bipush 10, 2) := by decide +kernel
theorem dX7_drawn_106 : decode cX7_drawn 106 = .ok (.invokevirtual 448, 3) := by decide +kernel
theorem dX7_drawn_109 : decode cX7_drawn 109 = .ok (.istore 10, 2) := by decide +kernel
theorem dX7_drawn_111 : decode cX7_drawn 111 = .ok (.aload_n 0, 1) := by decide +kernel
theorem dX7_drawn_112 : decode cX7_drawn 112 = .ok (.bipush 10, 2) := by decide +kernel
theorem dX7_drawn_114 : decode cX7_drawn 114 = .ok (.invokevirtual 448, 3) := by decide +kernel
theorem dX7_drawn_117 : decode cX7_drawn 117 = .ok (.istore 11, 2) := by decide +kernel
theorem dX7_drawn_119 : decode cX7_drawn 119 = .ok (.aload_n 0, 1) := by decide +kernel
theorem dX7_drawn_120 : decode cX7_drawn 120 = .ok (.bipush 100, 2) := by decide +kernel
theorem dX7_drawn_122 : decode cX7_drawn 122 = .ok (.iload 10, 2) := by decide +kernel
theorem dX7_drawn_124 : decode cX7_drawn 124 = .ok (.imul, 1) := by decide +kernel
theorem dX7_drawn_125 : decode cX7_drawn 125 = .ok (.bipush 10, 2) := by decide +kernel
theorem dX7_drawn_127 : decode cX7_drawn 127 = .ok (.iload 11, 2) := by decide +kernel
theorem dX7_drawn_129 : decode cX7_drawn 129 = .ok (.imul, 1) := by decide +kernel
theorem dX7_drawn_130 : decode cX7_drawn 130 = .ok (.iadd, 1) := by decide +kernel
theorem dX7_drawn_131 : decode cX7_drawn 131 = .ok (.aload_n 0, 1) := by decide +kernel
theorem dX7_drawn_132 : decode cX7_drawn 132 = .ok (.bipush 10, 2) := by decide +kernel
theorem dX7_drawn_134 : decode cX7_drawn 134 = .ok (.invokevirtual 448, 3) := by decide +kernel
theorem dX7_drawn_137 : decode cX7_drawn 137 = .ok (.iadd, 1) := by decide +kernel
theorem dX7_drawn_138 : decode cX7_drawn 138 = .ok (.invokevirtual 238, 3) := by decide +kernel
theorem dX7_drawn_141 : decode cX7_drawn 141 = .ok (.aload_n 0, 1) := by decide +kernel
theorem dX7_drawn_142 : decode cX7_drawn 142 = .ok (.invokevirtual 317, 3) := by decide +kernel
theorem dX7_drawn_145 : decode cX7_drawn 145 = .ok (.istore 9, 2) := by decide +kernel
theorem dX7_drawn_147 : decode cX7_drawn 147 = .ok (.iload 9, 2) := by decide +kernel
theorem dX7_drawn_149 : decode cX7_drawn 149 = .ok (.ifCond .eq 10, 3) := by decide +kernel
theorem dX7_drawn_152 : decode cX7_drawn 152 = .ok (.aload_n 0, 1) := by decide +kernel
theorem dX7_drawn_153 : decode cX7_drawn 153 = .ok (.invokevirtual 321, 3) := by decide +kernel
theorem dX7_drawn_156 : decode cX7_drawn 156 = .ok (.goto 7, 3) := by decide +kernel
theorem dX7_drawn_159 : decode cX7_drawn 159 = .ok (.aload_n 0, 1) := by decide +kernel
theorem dX7_drawn_160 : decode cX7_drawn 160 = .ok (.invokevirtual 299, 3) := by decide +kernel
theorem dX7_drawn_163 : decode cX7_drawn 163 = .ok (.iload 5, 2) := by decide +kernel
theorem dX7_drawn_165 : decode cX7_drawn 165 = .ok (.aload_n 0, 1) := by decide +kernel
theorem dX7_drawn_166 : decode cX7_drawn 166 = .ok (.getfield 290, 3) := by decide +kernel
theorem dX7_drawn_169 : decode cX7_drawn 169 = .ok (.bipush 100, 2) := by decide +kernel
theorem dX7_drawn_171 : decode cX7_drawn 171 = .ok (.idiv, 1) := by decide +kernel
theorem dX7_drawn_172 : decode cX7_drawn 172 = .ok (.iadd, 1) := by decide +kernel
theorem dX7_drawn_173 : decode cX7_drawn 173 = .ok (.istore 5, 2) := by decide +kernel
theorem dX7_drawn_175 : decode cX7_drawn 175 = .ok (.aload_n 0, 1) := by decide +kernel
theorem dX7_drawn_176 : decode cX7_drawn 176 = .ok (.getfield 290, 3) := by decide +kernel
theorem dX7_drawn_179 : decode cX7_drawn 179 = .ok (.bipush 100, 2) := by decide +kernel
theorem dX7_drawn_181 : decode cX7_drawn 181 = .ok (.if_icmp .ge 10, 3) := by decide +kernel
theorem dX7_drawn_184 : decode cX7_drawn 184 = .ok (.iload 6, 2) := by decide +kernel
theorem dX7_drawn_186 : decode cX7_drawn 186 = .ok (.iconst 1, 1) := by decide +kernel
theorem dX7_drawn_187 : decode cX7_drawn 187 = .ok (.iadd, 1) := by decide +kernel
theorem dX7_drawn_188 : decode cX7_drawn 188 = .ok (.goto 4, 3) := by decide +kernel
theorem dX7_drawn_191 : decode cX7_drawn 191 = .ok (.iconst 0, 1) := by decide +kernel
theorem dX7_drawn_192 : decode cX7_drawn 192 = .ok (.istore 6, 2) := by decide +kernel
theorem dX7_drawn_194 : decode cX7_drawn 194 = .ok (.iload 6, 2) := by decide +kernel
theorem dX7_drawn_196 : decode cX7_drawn 196 = .ok (.iload 7, 2) := by decide +kernel
theorem dX7_drawn_198 : decode cX7_drawn 198 = .ok (.if_icmp .le 8, 3) := by decide +kernel
theorem dX7_drawn_201 : decode cX7_drawn 201 = .ok (.iload 6, 2) := by decide +kernel
theorem dX7_drawn_203 : decode cX7_drawn 203 = .ok (.goto 5, 3) := by decide +kernel
theorem dX7_drawn_206 : decode cX7_drawn 206 = .ok (.iload 7, 2) := by decide +kernel
theorem dX7_drawn_208 : decode cX7_drawn 208 = .ok (.istore 7, 2) := by decide +kernel
theorem dX7_drawn_210 : decode cX7_drawn 210 = .ok (.iinc 8 1, 3) := by decide +kernel
theorem dX7_drawn_213 : decode cX7_drawn 213 = .ok (.goto (-164), 3) := by decide +kernel
theorem dX7_drawn_216 : decode cX7_drawn 216 = .ok (.iload 4, 2) := by decide +kernel
theorem dX7_drawn_218 : decode cX7_drawn 218 = .ok (.tableswitch 66 0 5 #[38, 43, 48, 53, 58, 63], 38) := by decide +kernel
theorem dX7_drawn_256 : decode cX7_drawn 256 = .ok (.aload_n 0, 1) := by decide +kernel
theorem dX7_drawn_257 : decode cX7_drawn 257 = .ok (.getfield 275, 3) := by decide +kernel
theorem dX7_drawn_260 : decode cX7_drawn 260 = .ok (.ireturn, 1) := by decide +kernel
theorem dX7_drawn_261 : decode cX7_drawn 261 = .ok (.aload_n 0, 1) := by decide +kernel
theorem dX7_drawn_262 : decode cX7_drawn 262 = .ok (.getfield 278, 3) := by decide +kernel
theorem dX7_drawn_265 : decode cX7_drawn 265 = .ok (.ireturn, 1) := by decide +kernel
theorem dX7_drawn_266 : decode cX7_drawn 266 = .ok (.aload_n 0, 1) := by decide +kernel
theorem dX7_drawn_267 : decode cX7_drawn 267 = .ok (.getfield 281, 3) := by decide +kernel
theorem dX7_drawn_270 : decode cX7_drawn 270 = .ok (.ireturn, 1) := by decide +kernel
theorem dX7_drawn_271 : decode cX7_drawn 271 = .ok (.aload_n 0, 1) := by decide +kernel
theorem dX7_drawn_272 : decode cX7_drawn 272 = .ok (.getfield 226, 3) := by decide +kernel
theorem dX7_drawn_275 : decode cX7_drawn 275 = .ok (.ireturn, 1) := by decide +kernel
theorem dX7_drawn_276 : decode cX7_drawn 276 = .ok (.aload_n 0, 1) := by decide +kernel
theorem dX7_drawn_277 : decode cX7_drawn 277 = .ok (.getfield 287, 3) := by decide +kernel
theorem dX7_drawn_280 : decode cX7_drawn 280 = .ok (.ireturn, 1) := by decide +kernel
theorem dX7_drawn_281 : decode cX7_drawn 281 = .ok (.iload 5, 2) := by decide +kernel
theorem dX7_drawn_283 : decode cX7_drawn 283 = .ok (.ireturn, 1) := by decide +kernel
theorem dX7_drawn_284 : decode cX7_drawn 284 = .ok (.iload 7, 2) := by decide +kernel
theorem dX7_drawn_286 : decode cX7_drawn 286 = .ok (.ireturn, 1) := by decide +kernel
theorem dX7_fits_0 : decode cX7_fits 0 = .ok (.aload_n 0, 1) := by decide +kernel
theorem dX7_fits_1 : decode cX7_fits 1 = .ok (.iload_n 1, 1) := by decide +kernel
theorem dX7_fits_2 : decode cX7_fits 2 = .ok (.iload_n 3, 1) := by decide +kernel
theorem dX7_fits_3 : decode cX7_fits 3 = .ok (.iload 4, 2) := by decide +kernel
theorem dX7_fits_5 : decode cX7_fits 5 = .ok (.iconst 0, 1) := by decide +kernel
theorem dX7_fits_6 : decode cX7_fits 6 = .ok (.iconst 0, 1) := by decide +kernel
theorem dX7_fits_7 : decode cX7_fits 7 = .ok (.iconst 0, 1) := by decide +kernel
theorem dX7_fits_8 : decode cX7_fits 8 = .ok (.invokevirtual 241, 3) := by decide +kernel
theorem dX7_fits_11 : decode cX7_fits 11 = .ok (.ifCond .eq 12, 3) := by decide +kernel
theorem dX7_fits_14 : decode cX7_fits 14 = .ok (.aload_n 0, 1) := by decide +kernel
theorem dX7_fits_15 : decode cX7_fits 15 = .ok (.iconst 3, 1) := by decide +kernel
theorem dX7_fits_16 : decode cX7_fits 16 = .ok (.iload_n 2, 1) := by decide +kernel
theorem dX7_fits_17 : decode cX7_fits 17 = .ok (.invokevirtual 144, 3) := by decide +kernel
theorem dX7_fits_20 : decode cX7_fits 20 = .ok (.ifCond .ne 6, 3) := by decide +kernel
theorem dX7_fits_23 : decode cX7_fits 23 = .ok (.bipush (-2), 2) := by decide +kernel
theorem dX7_fits_25 : decode cX7_fits 25 = .ok (.ireturn, 1) := by decide +kernel
theorem dX7_fits_26 : decode cX7_fits 26 = .ok (.aload_n 0, 1) := by decide +kernel
theorem dX7_fits_27 : decode cX7_fits 27 = .ok (.iconst 3, 1) := by decide +kernel
theorem dX7_fits_28 : decode cX7_fits 28 = .ok (.iload_n 2, 1) := by decide +kernel
theorem dX7_fits_29 : decode cX7_fits 29 = .ok (.invokestatic 172, 3) := by decide +kernel
theorem dX7_fits_32 : decode cX7_fits 32 = .ok (.putfield 426, 3) := by decide +kernel
theorem dX7_fits_35 : decode cX7_fits 35 = .ok (.iconst 0, 1) := by decide +kernel
theorem dX7_fits_36 : decode cX7_fits 36 = .ok (.istore 6, 2) := by decide +kernel
theorem dX7_fits_38 : decode cX7_fits 38 = .ok (.iload 6, 2) := by decide +kernel
theorem dX7_fits_40 : decode cX7_fits 40 = .ok (.aload_n 0, 1) := by decide +kernel
theorem dX7_fits_41 : decode cX7_fits 41 = .ok (.getfield 7, 3) := by decide +kernel
theorem dX7_fits_44 : decode cX7_fits 44 = .ok (.aload_n 0, 1) := by decide +kernel
theorem dX7_fits_45 : decode cX7_fits 45 = .ok (.getfield 426, 3) := by decide +kernel
theorem dX7_fits_48 : decode cX7_fits 48 = .ok (.iaload, 1) := by decide +kernel
theorem dX7_fits_49 : decode cX7_fits 49 = .ok (.if_icmp .ge 26, 3) := by decide +kernel
theorem dX7_fits_52 : decode cX7_fits 52 = .ok (.aload_n 0, 1) := by decide +kernel
theorem dX7_fits_53 : decode cX7_fits 53 = .ok (.aload_n 0, 1) := by decide +kernel
theorem dX7_fits_54 : decode cX7_fits 54 = .ok (.iload 6, 2) := by decide +kernel
theorem dX7_fits_56 : decode cX7_fits 56 = .ok (.iconst 0, 1) := by decide +kernel
theorem dX7_fits_57 : decode cX7_fits 57 = .ok (.invokevirtual 429, 3) := by decide +kernel
theorem dX7_fits_60 : decode cX7_fits 60 = .ok (.invokevirtual 193, 3) := by decide +kernel
theorem dX7_fits_63 : decode cX7_fits 63 = .ok (.ifCond .ne 6, 3) := by decide +kernel
theorem dX7_fits_66 : decode cX7_fits 66 = .ok (.bipush (-2), 2) := by decide +kernel
theorem dX7_fits_68 : decode cX7_fits 68 = .ok (.ireturn, 1) := by decide +kernel
theorem dX7_fits_69 : decode cX7_fits 69 = .ok (.iinc 6 1, 3) := by decide +kernel
theorem dX7_fits_72 : decode cX7_fits 72 = .ok (.goto (-34), 3) := by decide +kernel
theorem dX7_fits_75 : decode cX7_fits 75 = .ok (.aload_n 0, 1) := by decide +kernel
theorem dX7_fits_76 : decode cX7_fits 76 = .ok (.iconst (-1), 1) := by decide +kernel
theorem dX7_fits_77 : decode cX7_fits 77 = .ok (.invokevirtual 435, 3) := by decide +kernel
theorem dX7_fits_80 : decode cX7_fits 80 = .ok (.istore 6, 2) := by decide +kernel
theorem dX7_fits_82 : decode cX7_fits 82 = .ok (.iload 5, 2) := by decide +kernel
theorem dX7_fits_84 : decode cX7_fits 84 = .ok (.ifCond .ne 6, 3) := by decide +kernel
theorem dX7_fits_87 : decode cX7_fits 87 = .ok (.iload 6, 2) := by decide +kernel
theorem dX7_fits_89 : decode cX7_fits 89 = .ok (.ireturn, 1) := by decide +kernel
theorem dX7_fits_90 : decode cX7_fits 90 = .ok (.iload 5, 2) := by decide +kernel
theorem dX7_fits_92 : decode cX7_fits 92 = .ok (.iconst 1, 1) := by decide +kernel
theorem dX7_fits_93 : decode cX7_fits 93 = .ok (.if_icmp .eq 9, 3) := by decide +kernel
theorem dX7_fits_96 : decode cX7_fits 96 = .ok (.iload 5, 2) := by decide +kernel
theorem dX7_fits_98 : decode cX7_fits 98 = .ok (.iconst 2, 1) := by decide +kernel
theorem dX7_fits_99 : decode cX7_fits 99 = .ok (.if_icmp .ne 33, 3) := by decide +kernel
theorem dX7_fits_102 : decode cX7_fits 102 = .ok (.iload 6, 2) := by decide +kernel
theorem dX7_fits_104 : decode cX7_fits 104 = .ok (.ifCond .ne 7, 3) := by decide +kernel
theorem dX7_fits_107 : decode cX7_fits 107 = .ok (.iconst (-1), 1) := by decide +kernel
theorem dX7_fits_108 : decode cX7_fits 108 = .ok (.goto 23, 3) := by decide +kernel
theorem dX7_fits_111 : decode cX7_fits 111 = .ok (.aload_n 0, 1) := by decide +kernel
theorem dX7_fits_112 : decode cX7_fits 112 = .ok (.invokevirtual 438, 3) := by decide +kernel
theorem dX7_fits_115 : decode cX7_fits 115 = .ok (.iload 6, 2) := by decide +kernel
theorem dX7_fits_117 : decode cX7_fits 117 = .ok (.iload 5, 2) := by decide +kernel
theorem dX7_fits_119 : decode cX7_fits 119 = .ok (.iconst 2, 1) := by decide +kernel
theorem dX7_fits_120 : decode cX7_fits 120 = .ok (.if_icmp .ne 7, 3) := by decide +kernel
theorem dX7_fits_123 : decode cX7_fits 123 = .ok (.iconst 1, 1) := by decide +kernel
theorem dX7_fits_124 : decode cX7_fits 124 = .ok (.goto 4, 3) := by decide +kernel
theorem dX7_fits_127 : decode cX7_fits 127 = .ok (.iconst 0, 1) := by decide +kernel
theorem dX7_fits_128 : decode cX7_fits 128 = .ok (.invokestatic 359, 3) := by decide +kernel
theorem dX7_fits_131 : decode cX7_fits 131 = .ok (.ireturn, 1) := by decide +kernel
theorem dX7_fits_132 : decode cX7_fits 132 = .ok (.iload 5, 2) := by decide +kernel
theorem dX7_fits_134 : decode cX7_fits 134 = .ok (.iconst 3, 1) := by decide +kernel
theorem dX7_fits_135 : decode cX7_fits 135 = .ok (.if_icmp .ne 59, 3) := by decide +kernel
theorem dX7_fits_138 : decode cX7_fits 138 = .ok (.iconst 0, 1) := by decide +kernel
theorem dX7_fits_139 : decode cX7_fits 139 = .ok (.istore 7, 2) := by decide +kernel
theorem dX7_fits_141 : decode cX7_fits 141 = .ok (.iconst 0, 1) := by decide +kernel
theorem dX7_fits_142 : decode cX7_fits 142 = .ok (.istore 8, 2) := by decide +kernel
theorem dX7_fits_144 : decode cX7_fits 144 = .ok (.iload 8, 2) := by decide +kernel
theorem dX7_fits_146 : decode cX7_fits 146 = .ok (.aload_n 0, 1) := by decide +kernel
theorem dX7_fits_147 : decode cX7_fits 147 = .ok (.getfield 7, 3) := by decide +kernel
theorem dX7_fits_150 : decode cX7_fits 150 = .ok (.aload_n 0, 1) := by decide +kernel
theorem dX7_fits_151 : decode cX7_fits 151 = .ok (.getfield 426, 3) := by decide +kernel
theorem dX7_fits_154 : decode cX7_fits 154 = .ok (.iaload, 1) := by decide +kernel
theorem dX7_fits_155 : decode cX7_fits 155 = .ok (.if_icmp .ge 36, 3) := by decide +kernel
theorem dX7_fits_158 : decode cX7_fits 158 = .ok (.iload 6, 2) := by decide +kernel
theorem dX7_fits_160 : decode cX7_fits 160 = .ok (.ifCond .ne 31, 3) := by decide +kernel
theorem dX7_fits_163 : decode cX7_fits 163 = .ok (.iload 7, 2) := by decide +kernel
theorem dX7_fits_165 : decode cX7_fits 165 = .ok (.aload_n 0, 1) := by decide +kernel
theorem dX7_fits_166 : decode cX7_fits 166 = .ok (.iload 8, 2) := by decide +kernel
theorem dX7_fits_168 : decode cX7_fits 168 = .ok (.invokevirtual 435, 3) := by decide +kernel
theorem dX7_fits_171 : decode cX7_fits 171 = .ok (.ifCond .le 10, 3) := by decide +kernel
theorem dX7_fits_174 : decode cX7_fits 174 = .ok (.iconst 1, 1) := by decide +kernel
theorem dX7_fits_175 : decode cX7_fits 175 = .ok (.iload 8, 2) := by decide +kernel
theorem dX7_fits_177 : decode cX7_fits 177 = .ok (.ishl, 1) := by decide +kernel
theorem dX7_fits_178 : decode cX7_fits 178 = .ok (.goto 4, 3) := by decide +kernel
theorem dX7_fits_181 : decode cX7_fits 181 = .ok (.iconst 0, 1) := by decide +kernel
theorem dX7_fits_182 : decode cX7_fits 182 = .ok (.ior, 1) := by decide +kernel
theorem dX7_fits_183 : decode cX7_fits 183 = .ok (.istore 7, 2) := by decide +kernel
theorem dX7_fits_185 : decode cX7_fits 185 = .ok (.iinc 8 1, 3) := by decide +kernel
theorem dX7_fits_188 : decode cX7_fits 188 = .ok (.goto (-44), 3) := by decide +kernel
theorem dX7_fits_191 : decode cX7_fits 191 = .ok (.iload 7, 2) := by decide +kernel
theorem dX7_fits_193 : decode cX7_fits 193 = .ok (.ireturn, 1) := by decide +kernel
theorem dX7_fits_194 : decode cX7_fits 194 = .ok (.iload 5, 2) := by decide +kernel
theorem dX7_fits_196 : decode cX7_fits 196 = .ok (.bipush 10, 2) := by decide +kernel
theorem dX7_fits_198 : decode cX7_fits 198 = .ok (.bipush 12, 2) := by decide +kernel
theorem dX7_fits_200 : decode cX7_fits 200 = .ok (.invokestatic 93, 3) := by decide +kernel
theorem dX7_fits_203 : decode cX7_fits 203 = .ok (.ifCond .eq 16, 3) := by decide +kernel
theorem dX7_fits_206 : decode cX7_fits 206 = .ok (.aload_n 0, 1) := by decide +kernel
theorem dX7_fits_207 : decode cX7_fits 207 = .ok (.iload 5, 2) := by decide +kernel
theorem dX7_fits_209 : decode cX7_fits 209 = .ok (.bipush 10, 2) := by decide +kernel
theorem dX7_fits_211 : decode cX7_fits 211 = .ok (.isub, 1) := by decide +kernel
theorem dX7_fits_212 : decode cX7_fits 212 = .ok (.iconst 0, 1) := by decide +kernel
theorem dX7_fits_213 : decode cX7_fits 213 = .ok (.invokevirtual 441, 3) := by decide +kernel
theorem dX7_fits_216 : decode cX7_fits 216 = .ok (.goto 30, 3) := by decide +kernel
theorem dX7_fits_219 : decode cX7_fits 219 = .ok (.iload 5, 2) := by decide +kernel
theorem dX7_fits_221 : decode cX7_fits 221 = .ok (.bipush 20, 2) := by decide +kernel
theorem dX7_fits_223 : decode cX7_fits 223 = .ok (.bipush 22, 2) := by decide +kernel
theorem dX7_fits_225 : decode cX7_fits 225 = .ok (.invokestatic 93, 3) := by decide +kernel
theorem dX7_fits_228 : decode cX7_fits 228 = .ok (.ifCond .eq 16, 3) := by decide +kernel
theorem dX7_fits_231 : decode cX7_fits 231 = .ok (.aload_n 0, 1) := by decide +kernel
theorem dX7_fits_232 : decode cX7_fits 232 = .ok (.iload 5, 2) := by decide +kernel
theorem dX7_fits_234 : decode cX7_fits 234 = .ok (.bipush 20, 2) := by decide +kernel
theorem dX7_fits_236 : decode cX7_fits 236 = .ok (.isub, 1) := by decide +kernel
theorem dX7_fits_237 : decode cX7_fits 237 = .ok (.iconst 1, 1) := by decide +kernel
theorem dX7_fits_238 : decode cX7_fits 238 = .ok (.invokevirtual 441, 3) := by decide +kernel
theorem dX7_fits_241 : decode cX7_fits 241 = .ok (.goto 5, 3) := by decide +kernel
theorem dX7_fits_244 : decode cX7_fits 244 = .ok (.bipush (-2), 2) := by decide +kernel
theorem dX7_fits_246 : decode cX7_fits 246 = .ok (.ireturn, 1) := by decide +kernel
theorem dX7_init_0 : decode cX7_init 0 = .ok (.aload_n 0, 1) := by decide +kernel
theorem dX7_init_1 : decode cX7_init 1 = .ok (.invokespecial 1, 3) := by decide +kernel
theorem dX7_init_4 : decode cX7_init 4 = .ok (.aload_n 0, 1) := by decide +kernel
theorem dX7_init_5 : decode cX7_init 5 = .ok (.sipush 5768, 3) := by decide +kernel
theorem dX7_init_8 : decode cX7_init 8 = .ok (.newarray .int, 2) := by decide +kernel
theorem dX7_init_10 : decode cX7_init 10 = .ok (.putfield 7, 3) := by decide +kernel
theorem dX7_init_13 : decode cX7_init 13 = .ok (.aload_n 0, 1) := by decide +kernel
theorem dX7_init_14 : decode cX7_init 14 = .ok (.iconst 3, 1) := by decide +kernel
theorem dX7_init_15 : decode cX7_init 15 = .ok (.newarray .boolean, 2) := by decide +kernel
theorem dX7_init_17 : decode cX7_init 17 = .ok (.putfield 13, 3) := by decide +kernel
theorem dX7_init_20 : decode cX7_init 20 = .ok (.aload_n 0, 1) := by decide +kernel
theorem dX7_init_21 : decode cX7_init 21 = .ok (.sipush 201, 3) := by decide +kernel
theorem dX7_init_24 : decode cX7_init 24 = .ok (.newarray .int, 2) := by decide +kernel
theorem dX7_init_26 : decode cX7_init 26 = .ok (.putfield 17, 3) := by decide +kernel
theorem dX7_init_29 : decode cX7_init 29 = .ok (.aload_n 0, 1) := by decide +kernel
theorem dX7_init_30 : decode cX7_init 30 = .ok (.iconst 3, 1) := by decide +kernel
theorem dX7_init_31 : decode cX7_init 31 = .ok (.newarray .int, 2) := by decide +kernel
theorem dX7_init_33 : decode cX7_init 33 = .ok (.putfield 20, 3) := by decide +kernel
theorem dX7_init_36 : decode cX7_init 36 = .ok (.aload_n 0, 1) := by decide +kernel
theorem dX7_init_37 : decode cX7_init 37 = .ok (.bipush 6, 2) := by decide +kernel
theorem dX7_init_39 : decode cX7_init 39 = .ok (.newarray .int, 2) := by decide +kernel
theorem dX7_init_41 : decode cX7_init 41 = .ok (.putfield 23, 3) := by decide +kernel
theorem dX7_init_44 : decode cX7_init 44 = .ok (.aload_n 0, 1) := by decide +kernel
theorem dX7_init_45 : decode cX7_init 45 = .ok (.sipush 1791, 3) := by decide +kernel
theorem dX7_init_48 : decode cX7_init 48 = .ok (.newarray .int, 2) := by decide +kernel
theorem dX7_init_50 : decode cX7_init 50 = .ok (.putfield 26, 3) := by decide +kernel
theorem dX7_init_53 : decode cX7_init 53 = .ok (.aload_n 0, 1) := by decide +kernel
theorem dX7_init_54 : decode cX7_init 54 = .ok (.sipush 1000, 3) := by decide +kernel
theorem dX7_init_57 : decode cX7_init 57 = .ok (.newarray .boolean, 2) := by decide +kernel
theorem dX7_init_59 : decode cX7_init 59 = .ok (.putfield 29, 3) := by decide +kernel
theorem dX7_init_62 : decode cX7_init 62 = .ok (.aload_n 0, 1) := by decide +kernel
theorem dX7_init_63 : decode cX7_init 63 = .ok (.getfield 7, 3) := by decide +kernel
theorem dX7_init_66 : decode cX7_init 66 = .ok (.bipush 8, 2) := by decide +kernel
theorem dX7_init_68 : decode cX7_init 68 = .ok (.iconst (-1), 1) := by decide +kernel
theorem dX7_init_69 : decode cX7_init 69 = .ok (.iastore, 1) := by decide +kernel
theorem dX7_init_70 : decode cX7_init 70 = .ok (.return_, 1) := by decide +kernel
theorem dX7_isIn_0 : decode cX7_isIn 0 = .ok (.iload_n 0, 1) := by decide +kernel
theorem dX7_isIn_1 : decode cX7_isIn 1 = .ok (.iload_n 1, 1) := by decide +kernel
theorem dX7_isIn_2 : decode cX7_isIn 2 = .ok (.if_icmp .lt 12, 3) := by decide +kernel
theorem dX7_isIn_5 : decode cX7_isIn 5 = .ok (.iload_n 0, 1) := by decide +kernel
theorem dX7_isIn_6 : decode cX7_isIn 6 = .ok (.iload_n 2, 1) := by decide +kernel
theorem dX7_isIn_7 : decode cX7_isIn 7 = .ok (.if_icmp .gt 7, 3) := by decide +kernel
theorem dX7_isIn_10 : decode cX7_isIn 10 = .ok (.iconst 1, 1) := by decide +kernel
theorem dX7_isIn_11 : decode cX7_isIn 11 = .ok (.goto 4, 3) := by decide +kernel
theorem dX7_isIn_14 : decode cX7_isIn 14 = .ok (.iconst 0, 1) := by decide +kernel
theorem dX7_isIn_15 : decode cX7_isIn 15 = .ok (.ireturn, 1) := by decide +kernel
theorem dX7_isMotion_0 : decode cX7_isMotion 0 = .ok (.aload_n 0, 1) := by decide +kernel
theorem dX7_isMotion_1 : decode cX7_isMotion 1 = .ok (.iload_n 1, 1) := by decide +kernel
theorem dX7_isMotion_2 : decode cX7_isMotion 2 = .ok (.invokevirtual 190, 3) := by decide +kernel
theorem dX7_isMotion_5 : decode cX7_isMotion 5 = .ok (.ifCond .eq 32, 3) := by decide +kernel
theorem dX7_isMotion_8 : decode cX7_isMotion 8 = .ok (.aload_n 0, 1) := by decide +kernel
theorem dX7_isMotion_9 : decode cX7_isMotion 9 = .ok (.iload_n 2, 1) := by decide +kernel
theorem dX7_isMotion_10 : decode cX7_isMotion 10 = .ok (.invokevirtual 193, 3) := by decide +kernel
theorem dX7_isMotion_13 : decode cX7_isMotion 13 = .ok (.ifCond .eq 24, 3) := by decide +kernel
theorem dX7_isMotion_16 : decode cX7_isMotion 16 = .ok (.iload_n 3, 1) := by decide +kernel
theorem dX7_isMotion_17 : decode cX7_isMotion 17 = .ok (.iconst 0, 1) := by decide +kernel
theorem dX7_isMotion_18 : decode cX7_isMotion 18 = .ok (.iconst 3, 1) := by decide +kernel
theorem dX7_isMotion_19 : decode cX7_isMotion 19 = .ok (.invokestatic 93, 3) := by decide +kernel
theorem dX7_isMotion_22 : decode cX7_isMotion 22 = .ok (.ifCond .eq 15, 3) := by decide +kernel
theorem dX7_isMotion_25 : decode cX7_isMotion 25 = .ok (.iload 4, 2) := by decide +kernel
theorem dX7_isMotion_27 : decode cX7_isMotion 27 = .ok (.iload 5, 2) := by decide +kernel
theorem dX7_isMotion_29 : decode cX7_isMotion 29 = .ok (.iload 6, 2) := by decide +kernel
theorem dX7_isMotion_31 : decode cX7_isMotion 31 = .ok (.invokestatic 235, 3) := by decide +kernel
theorem dX7_isMotion_34 : decode cX7_isMotion 34 = .ok (.ifCond .ne 5, 3) := by decide +kernel
theorem dX7_isMotion_37 : decode cX7_isMotion 37 = .ok (.iconst 0, 1) := by decide +kernel
theorem dX7_isMotion_38 : decode cX7_isMotion 38 = .ok (.ireturn, 1) := by decide +kernel
theorem dX7_isMotion_39 : decode cX7_isMotion 39 = .ok (.aload_n 0, 1) := by decide +kernel
theorem dX7_isMotion_40 : decode cX7_isMotion 40 = .ok (.iload_n 2, 1) := by decide +kernel
theorem dX7_isMotion_41 : decode cX7_isMotion 41 = .ok (.putfield 214, 3) := by decide +kernel
theorem dX7_isMotion_44 : decode cX7_isMotion 44 = .ok (.aload_n 0, 1) := by decide +kernel
theorem dX7_isMotion_45 : decode cX7_isMotion 45 = .ok (.iload_n 3, 1) := by decide +kernel
theorem dX7_isMotion_46 : decode cX7_isMotion 46 = .ok (.putfield 205, 3) := by decide +kernel
theorem dX7_isMotion_49 : decode cX7_isMotion 49 = .ok (.aload_n 0, 1) := by decide +kernel
theorem dX7_isMotion_50 : decode cX7_isMotion 50 = .ok (.bipush 100, 2) := by decide +kernel
theorem dX7_isMotion_52 : decode cX7_isMotion 52 = .ok (.iload 4, 2) := by decide +kernel
theorem dX7_isMotion_54 : decode cX7_isMotion 54 = .ok (.imul, 1) := by decide +kernel
theorem dX7_isMotion_55 : decode cX7_isMotion 55 = .ok (.bipush 10, 2) := by decide +kernel
theorem dX7_isMotion_57 : decode cX7_isMotion 57 = .ok (.iload 5, 2) := by decide +kernel
theorem dX7_isMotion_59 : decode cX7_isMotion 59 = .ok (.imul, 1) := by decide +kernel
theorem dX7_isMotion_60 : decode cX7_isMotion 60 = .ok (.iadd, 1) := by decide +kernel
theorem dX7_isMotion_61 : decode cX7_isMotion 61 = .ok (.iload 6, 2) := by decide +kernel
theorem dX7_isMotion_63 : decode cX7_isMotion 63 = .ok (.iadd, 1) := by decide +kernel
theorem dX7_isMotion_64 : decode cX7_isMotion 64 = .ok (.invokevirtual 238, 3) := by decide +kernel
theorem dX7_isMotion_67 : decode cX7_isMotion 67 = .ok (.iconst 1, 1) := by decide +kernel
theorem dX7_isMotion_68 : decode cX7_isMotion 68 = .ok (.ireturn, 1) := by decide +kernel
theorem dX7_isOf_0 : decode cX7_isOf 0 = .ok (.iload_n 2, 1) := by decide +kernel
theorem dX7_isOf_1 : decode cX7_isOf 1 = .ok (.iconst 0, 1) := by decide +kernel
theorem dX7_isOf_2 : decode cX7_isOf 2 = .ok (.aload_n 0, 1) := by decide +kernel
theorem dX7_isOf_3 : decode cX7_isOf 3 = .ok (.getfield 7, 3) := by decide +kernel
theorem dX7_isOf_6 : decode cX7_isOf 6 = .ok (.iload_n 1, 1) := by decide +kernel
theorem dX7_isOf_7 : decode cX7_isOf 7 = .ok (.iaload, 1) := by decide +kernel
theorem dX7_isOf_8 : decode cX7_isOf 8 = .ok (.iconst 1, 1) := by decide +kernel
theorem dX7_isOf_9 : decode cX7_isOf 9 = .ok (.isub, 1) := by decide +kernel
theorem dX7_isOf_10 : decode cX7_isOf 10 = .ok (.invokestatic 93, 3) := by decide +kernel
theorem dX7_isOf_13 : decode cX7_isOf 13 = .ok (.ireturn, 1) := by decide +kernel
theorem dX7_isRepublic_0 : decode cX7_isRepublic 0 = .ok (.aload_n 0, 1) := by decide +kernel
theorem dX7_isRepublic_1 : decode cX7_isRepublic 1 = .ok (.iconst 0, 1) := by decide +kernel
theorem dX7_isRepublic_2 : decode cX7_isRepublic 2 = .ok (.iload_n 1, 1) := by decide +kernel
theorem dX7_isRepublic_3 : decode cX7_isRepublic 3 = .ok (.invokevirtual 144, 3) := by decide +kernel
theorem dX7_isRepublic_6 : decode cX7_isRepublic 6 = .ok (.ifCond .ne 5, 3) := by decide +kernel
theorem dX7_isRepublic_9 : decode cX7_isRepublic 9 = .ok (.iconst 0, 1) := by decide +kernel
theorem dX7_isRepublic_10 : decode cX7_isRepublic 10 = .ok (.ireturn, 1) := by decide +kernel
theorem dX7_isRepublic_11 : decode cX7_isRepublic 11 = .ok (.aload_n 0, 1) := by decide +kernel
theorem dX7_isRepublic_12 : decode cX7_isRepublic 12 = .ok (.iconst 0, 1) := by decide +kernel
theorem dX7_isRepublic_13 : decode cX7_isRepublic 13 = .ok (.iload_n 1, 1) := by decide +kernel
theorem dX7_isRepublic_14 : decode cX7_isRepublic 14 = .ok (.invokestatic 172, 3) := by decide +kernel
theorem dX7_isRepublic_17 : decode cX7_isRepublic 17 = .ok (.putfield 175, 3) := by decide +kernel
theorem dX7_isRepublic_20 : decode cX7_isRepublic 20 = .ok (.aload_n 0, 1) := by decide +kernel
theorem dX7_isRepublic_21 : decode cX7_isRepublic 21 = .ok (.invokevirtual 178, 3) := by decide +kernel
theorem dX7_isRepublic_24 : decode cX7_isRepublic 24 = .ok (.iconst 1, 1) := by decide +kernel
theorem dX7_isRepublic_25 : decode cX7_isRepublic 25 = .ok (.ireturn, 1) := by decide +kernel
theorem dX7_isSummer_0 : decode cX7_isSummer 0 = .ok (.aload_n 0, 1) := by decide +kernel
theorem dX7_isSummer_1 : decode cX7_isSummer 1 = .ok (.iconst 4, 1) := by decide +kernel
theorem dX7_isSummer_2 : decode cX7_isSummer 2 = .ok (.iload_n 1, 1) := by decide +kernel
theorem dX7_isSummer_3 : decode cX7_isSummer 3 = .ok (.invokevirtual 144, 3) := by decide +kernel
theorem dX7_isSummer_6 : decode cX7_isSummer 6 = .ok (.ifCond .ne 5, 3) := by decide +kernel
theorem dX7_isSummer_9 : decode cX7_isSummer 9 = .ok (.iconst 0, 1) := by decide +kernel
theorem dX7_isSummer_10 : decode cX7_isSummer 10 = .ok (.ireturn, 1) := by decide +kernel
theorem dX7_isSummer_11 : decode cX7_isSummer 11 = .ok (.aload_n 0, 1) := by decide +kernel
theorem dX7_isSummer_12 : decode cX7_isSummer 12 = .ok (.iconst 4, 1) := by decide +kernel
theorem dX7_isSummer_13 : decode cX7_isSummer 13 = .ok (.iload_n 1, 1) := by decide +kernel
theorem dX7_isSummer_14 : decode cX7_isSummer 14 = .ok (.invokestatic 172, 3) := by decide +kernel
theorem dX7_isSummer_17 : decode cX7_isSummer 17 = .ok (.putfield 381, 3) := by decide +kernel
theorem dX7_isSummer_20 : decode cX7_isSummer 20 = .ok (.iconst 1, 1) := by decide +kernel
theorem dX7_isSummer_21 : decode cX7_isSummer 21 = .ok (.ireturn, 1) := by decide +kernel
theorem dX7_leak_0 : decode cX7_leak 0 = .ok (.aload_n 0, 1) := by decide +kernel
theorem dX7_leak_1 : decode cX7_leak 1 = .ok (.iconst 3, 1) := by decide +kernel
theorem dX7_leak_2 : decode cX7_leak 2 = .ok (.iload_n 1, 1) := by decide +kernel
theorem dX7_leak_3 : decode cX7_leak 3 = .ok (.invokevirtual 144, 3) := by decide +kernel
theorem dX7_leak_6 : decode cX7_leak 6 = .ok (.ifCond .ne 6, 3) := by decide +kernel
theorem dX7_leak_9 : decode cX7_leak 9 = .ok (.bipush (-2), 2) := by decide +kernel
theorem dX7_leak_11 : decode cX7_leak 11 = .ok (.ireturn, 1) := by decide +kernel
theorem dX7_leak_12 : decode cX7_leak 12 = .ok (.aload_n 0, 1) := by decide +kernel
theorem dX7_leak_13 : decode cX7_leak 13 = .ok (.iconst 3, 1) := by decide +kernel
theorem dX7_leak_14 : decode cX7_leak 14 = .ok (.iload_n 1, 1) := by decide +kernel
theorem dX7_leak_15 : decode cX7_leak 15 = .ok (.invokestatic 172, 3) := by decide +kernel
theorem dX7_leak_18 : decode cX7_leak 18 = .ok (.putfield 426, 3) := by decide +kernel
theorem dX7_leak_21 : decode cX7_leak 21 = .ok (.iload_n 2, 1) := by decide +kernel
theorem dX7_leak_22 : decode cX7_leak 22 = .ok (.iconst (-1), 1) := by decide +kernel
theorem dX7_leak_23 : decode cX7_leak 23 = .ok (.if_icmp .ne 22, 3) := by decide +kernel
theorem dX7_leak_26 : decode cX7_leak 26 = .ok (.iload_n 3, 1) := by decide +kernel
theorem dX7_leak_27 : decode cX7_leak 27 = .ok (.ifCond .ne 15, 3) := by decide +kernel
theorem dX7_leak_30 : decode cX7_leak 30 = .ok (.aload_n 0, 1) := by decide +kernel
theorem dX7_leak_31 : decode cX7_leak 31 = .ok (.getfield 7, 3) := by decide +kernel
theorem dX7_leak_34 : decode cX7_leak 34 = .ok (.aload_n 0, 1) := by decide +kernel
theorem dX7_leak_35 : decode cX7_leak 35 = .ok (.getfield 426, 3) := by decide +kernel
theorem dX7_leak_38 : decode cX7_leak 38 = .ok (.iaload, 1) := by decide +kernel
theorem dX7_leak_39 : decode cX7_leak 39 = .ok (.goto 5, 3) := by decide +kernel
theorem dX7_leak_42 : decode cX7_leak 42 = .ok (.bipush (-2), 2) := by decide +kernel
theorem dX7_leak_44 : decode cX7_leak 44 = .ok (.ireturn, 1) := by decide +kernel
theorem dX7_leak_45 : decode cX7_leak 45 = .ok (.iload_n 2, 1) := by decide +kernel
theorem dX7_leak_46 : decode cX7_leak 46 = .ok (.iconst 0, 1) := by decide +kernel
theorem dX7_leak_47 : decode cX7_leak 47 = .ok (.aload_n 0, 1) := by decide +kernel
theorem dX7_leak_48 : decode cX7_leak 48 = .ok (.getfield 7, 3) := by decide +kernel
theorem dX7_leak_51 : decode cX7_leak 51 = .ok (.aload_n 0, 1) := by decide +kernel
theorem dX7_leak_52 : decode cX7_leak 52 = .ok (.getfield 426, 3) := by decide +kernel
theorem dX7_leak_55 : decode cX7_leak 55 = .ok (.iaload, 1) := by decide +kernel
theorem dX7_leak_56 : decode cX7_leak 56 = .ok (.iconst 1, 1) := by decide +kernel
theorem dX7_leak_57 : decode cX7_leak 57 = .ok (.isub, 1) := by decide +kernel
theorem dX7_leak_58 : decode cX7_leak 58 = .ok (.invokestatic 93, 3) := by decide +kernel
theorem dX7_leak_61 : decode cX7_leak 61 = .ok (.ifCond .eq 21, 3) := by decide +kernel
theorem dX7_leak_64 : decode cX7_leak 64 = .ok (.iload_n 3, 1) := by decide +kernel
theorem dX7_leak_65 : decode cX7_leak 65 = .ok (.iconst 0, 1) := by decide +kernel
theorem dX7_leak_66 : decode cX7_leak 66 = .ok (.iconst 1, 1) := by decide +kernel
theorem dX7_leak_67 : decode cX7_leak 67 = .ok (.invokestatic 93, 3) := by decide +kernel
theorem dX7_leak_70 : decode cX7_leak 70 = .ok (.ifCond .eq 12, 3) := by decide +kernel
theorem dX7_leak_73 : decode cX7_leak 73 = .ok (.aload_n 0, 1) := by decide +kernel
theorem dX7_leak_74 : decode cX7_leak 74 = .ok (.iload_n 2, 1) := by decide +kernel
theorem dX7_leak_75 : decode cX7_leak 75 = .ok (.iload_n 3, 1) := by decide +kernel
theorem dX7_leak_76 : decode cX7_leak 76 = .ok (.invokevirtual 429, 3) := by decide +kernel
theorem dX7_leak_79 : decode cX7_leak 79 = .ok (.goto 5, 3) := by decide +kernel
theorem dX7_leak_82 : decode cX7_leak 82 = .ok (.bipush (-2), 2) := by decide +kernel
theorem dX7_leak_84 : decode cX7_leak 84 = .ok (.ireturn, 1) := by decide +kernel
theorem dX7_lobby_0 : decode cX7_lobby 0 = .ok (.aload_n 0, 1) := by decide +kernel
theorem dX7_lobby_1 : decode cX7_lobby 1 = .ok (.iload_n 1, 1) := by decide +kernel
theorem dX7_lobby_2 : decode cX7_lobby 2 = .ok (.iload_n 2, 1) := by decide +kernel
theorem dX7_lobby_3 : decode cX7_lobby 3 = .ok (.iload_n 3, 1) := by decide +kernel
theorem dX7_lobby_4 : decode cX7_lobby 4 = .ok (.iload 4, 2) := by decide +kernel
theorem dX7_lobby_6 : decode cX7_lobby 6 = .ok (.iload 5, 2) := by decide +kernel
theorem dX7_lobby_8 : decode cX7_lobby 8 = .ok (.iload 6, 2) := by decide +kernel
theorem dX7_lobby_10 : decode cX7_lobby 10 = .ok (.invokevirtual 241, 3) := by decide +kernel
theorem dX7_lobby_13 : decode cX7_lobby 13 = .ok (.ifCond .eq 9, 3) := by decide +kernel
theorem dX7_lobby_16 : decode cX7_lobby 16 = .ok (.iload 7, 2) := by decide +kernel
theorem dX7_lobby_18 : decode cX7_lobby 18 = .ok (.iconst (-1), 1) := by decide +kernel
theorem dX7_lobby_19 : decode cX7_lobby 19 = .ok (.if_icmp .ge 5, 3) := by decide +kernel
theorem dX7_lobby_22 : decode cX7_lobby 22 = .ok (.iconst (-1), 1) := by decide +kernel
theorem dX7_lobby_23 : decode cX7_lobby 23 = .ok (.ireturn, 1) := by decide +kernel
theorem dX7_lobby_24 : decode cX7_lobby 24 = .ok (.iconst 0, 1) := by decide +kernel
theorem dX7_lobby_25 : decode cX7_lobby 25 = .ok (.istore 8, 2) := by decide +kernel
theorem dX7_lobby_27 : decode cX7_lobby 27 = .ok (.iconst 0, 1) := by decide +kernel
theorem dX7_lobby_28 : decode cX7_lobby 28 = .ok (.istore 9, 2) := by decide +kernel
theorem dX7_lobby_30 : decode cX7_lobby 30 = .ok (.iload 9, 2) := by decide +kernel
theorem dX7_lobby_32 : decode cX7_lobby 32 = .ok (.aload_n 0, 1) := by decide +kernel
theorem dX7_lobby_33 : decode cX7_lobby 33 = .ok (.invokevirtual 184, 3) := by decide +kernel
theorem dX7_lobby_36 : decode cX7_lobby 36 = .ok (.if_icmp .gt 60, 3) := by decide +kernel
theorem dX7_lobby_39 : decode cX7_lobby 39 = .ok (.iconst 0, 1) := by decide +kernel
theorem dX7_lobby_40 : decode cX7_lobby 40 = .ok (.istore 10, 2) := by decide +kernel
theorem dX7_lobby_42 : decode cX7_lobby 42 = .ok (.iload 10, 2) := by decide +kernel
theorem dX7_lobby_44 : decode cX7_lobby 44 = .ok (.aload_n 0, 1) := by decide +kernel
theorem dX7_lobby_45 : decode cX7_lobby 45 = .ok (.invokevirtual 184, 3) := by decide +kernel
theorem dX7_lobby_48 : decode cX7_lobby 48 = .ok (.if_icmp .gt 42, 3) := by decide +kernel
theorem dX7_lobby_51 : decode cX7_lobby 51 = .ok (.aload_n 0, 1) := by decide +kernel
theorem dX7_lobby_52 : decode cX7_lobby 52 = .ok (.iload 9, 2) := by decide +kernel
theorem dX7_lobby_54 : decode cX7_lobby 54 = .ok (.iload 10, 2) := by decide +kernel
theorem dX7_lobby_56 : decode cX7_lobby 56 = .ok (.invokevirtual 378, 3) := by decide +kernel
theorem dX7_lobby_59 : decode cX7_lobby 59 = .ok (.ifCond .ne 6, 3) := by decide +kernel
theorem dX7_lobby_62 : decode cX7_lobby 62 = .ok (.goto 22, 3) := by decide +kernel
theorem dX7_lobby_65 : decode cX7_lobby 65 = .ok (.iload 8, 2) := by decide +kernel
theorem dX7_lobby_67 : decode cX7_lobby 67 = .ok (.iload 7, 2) := by decide +kernel
theorem dX7_lobby_69 : decode cX7_lobby 69 = .ok (.if_icmp .ne 12, 3) := by decide +kernel
theorem dX7_lobby_72 : decode cX7_lobby 72 = .ok (.bipush 7, 2) := by decide +kernel
theorem dX7_lobby_74 : decode cX7_lobby 74 = .ok (.iload 9, 2) := by decide +kernel
theorem dX7_lobby_76 : decode cX7_lobby 76 = .ok (.imul, 1) := by decide +kernel
theorem dX7_lobby_77 : decode cX7_lobby 77 = .ok (.iload 10, 2) := by decide +kernel
theorem dX7_lobby_79 : decode cX7_lobby 79 = .ok (.iadd, 1) := by decide +kernel
theorem dX7_lobby_80 : decode cX7_lobby 80 = .ok (.ireturn, 1) := by decide +kernel
theorem dX7_lobby_81 : decode cX7_lobby 81 = .ok (.iinc 8 1, 3) := by decide +kernel
theorem dX7_lobby_84 : decode cX7_lobby 84 = .ok (.iinc 10 1, 3) := by decide +kernel
theorem dX7_lobby_87 : decode cX7_lobby 87 = .ok (.goto (-45), 3) := by decide +kernel
theorem dX7_lobby_90 : decode cX7_lobby 90 = .ok (.iinc 9 1, 3) := by decide +kernel
theorem dX7_lobby_93 : decode cX7_lobby 93 = .ok (.goto (-63), 3) := by decide +kernel
theorem dX7_lobby_96 : decode cX7_lobby 96 = .ok (.iload 7, 2) := by decide +kernel
theorem dX7_lobby_98 : decode cX7_lobby 98 = .ok (.iconst (-1), 1) := by decide +kernel
theorem dX7_lobby_99 : decode cX7_lobby 99 = .ok (.if_icmp .ne 8, 3) := by decide +kernel
theorem dX7_lobby_102 : decode cX7_lobby 102 = .ok (.iload 8, 2) := by decide +kernel
theorem dX7_lobby_104 : decode cX7_lobby 104 = .ok (.goto 4, 3) := by decide +kernel
theorem dX7_lobby_107 : decode cX7_lobby 107 = .ok (.iconst (-1), 1) := by decide +kernel
theorem dX7_lobby_108 : decode cX7_lobby 108 = .ok (.ireturn, 1) := by decide +kernel
theorem dX7_minister_0 : decode cX7_minister 0 = .ok (.aload_n 0, 1) := by decide +kernel
theorem dX7_minister_1 : decode cX7_minister 1 = .ok (.iload_n 1, 1) := by decide +kernel
theorem dX7_minister_2 : decode cX7_minister 2 = .ok (.invokevirtual 190, 3) := by decide +kernel
theorem dX7_minister_5 : decode cX7_minister 5 = .ok (.ifCond .eq 11, 3) := by decide +kernel
theorem dX7_minister_8 : decode cX7_minister 8 = .ok (.aload_n 0, 1) := by decide +kernel
theorem dX7_minister_9 : decode cX7_minister 9 = .ok (.iload_n 2, 1) := by decide +kernel
theorem dX7_minister_10 : decode cX7_minister 10 = .ok (.invokevirtual 193, 3) := by decide +kernel
theorem dX7_minister_13 : decode cX7_minister 13 = .ok (.ifCond .ne 5, 3) := by decide +kernel
theorem dX7_minister_16 : decode cX7_minister 16 = .ok (.iconst (-1), 1) := by decide +kernel
theorem dX7_minister_17 : decode cX7_minister 17 = .ok (.ireturn, 1) := by decide +kernel
theorem dX7_minister_18 : decode cX7_minister 18 = .ok (.iload_n 3, 1) := by decide +kernel
theorem dX7_minister_19 : decode cX7_minister 19 = .ok (.iconst 0, 1) := by decide +kernel
theorem dX7_minister_20 : decode cX7_minister 20 = .ok (.iconst 5, 1) := by decide +kernel
theorem dX7_minister_21 : decode cX7_minister 21 = .ok (.invokestatic 93, 3) := by decide +kernel
theorem dX7_minister_24 : decode cX7_minister 24 = .ok (.ifCond .eq 12, 3) := by decide +kernel
theorem dX7_minister_27 : decode cX7_minister 27 = .ok (.aload_n 0, 1) := by decide +kernel
theorem dX7_minister_28 : decode cX7_minister 28 = .ok (.iload_n 2, 1) := by decide +kernel
theorem dX7_minister_29 : decode cX7_minister 29 = .ok (.iload_n 3, 1) := by decide +kernel
theorem dX7_minister_30 : decode cX7_minister 30 = .ok (.invokevirtual 187, 3) := by decide +kernel
theorem dX7_minister_33 : decode cX7_minister 33 = .ok (.goto 30, 3) := by decide +kernel
theorem dX7_minister_36 : decode cX7_minister 36 = .ok (.iload_n 3, 1) := by decide +kernel
theorem dX7_minister_37 : decode cX7_minister 37 = .ok (.bipush 10, 2) := by decide +kernel
theorem dX7_minister_39 : decode cX7_minister 39 = .ok (.bipush 21, 2) := by decide +kernel
theorem dX7_minister_41 : decode cX7_minister 41 = .ok (.invokestatic 93, 3) := by decide +kernel
theorem dX7_minister_44 : decode cX7_minister 44 = .ok (.ifCond .eq 18, 3) := by decide +kernel
theorem dX7_minister_47 : decode cX7_minister 47 = .ok (.aload_n 0, 1) := by decide +kernel
theorem dX7_minister_48 : decode cX7_minister 48 = .ok (.iload_n 2, 1) := by decide +kernel
theorem dX7_minister_49 : decode cX7_minister 49 = .ok (.bipush 6, 2) := by decide +kernel
theorem dX7_minister_51 : decode cX7_minister 51 = .ok (.iload_n 3, 1) := by decide +kernel
theorem dX7_minister_52 : decode cX7_minister 52 = .ok (.iadd, 1) := by decide +kernel
theorem dX7_minister_53 : decode cX7_minister 53 = .ok (.bipush 10, 2) := by decide +kernel
theorem dX7_minister_55 : decode cX7_minister 55 = .ok (.isub, 1) := by decide +kernel
theorem dX7_minister_56 : decode cX7_minister 56 = .ok (.invokevirtual 187, 3) := by decide +kernel
theorem dX7_minister_59 : decode cX7_minister 59 = .ok (.goto 4, 3) := by decide +kernel
theorem dX7_minister_62 : decode cX7_minister 62 = .ok (.iconst (-1), 1) := by decide +kernel
theorem dX7_minister_63 : decode cX7_minister 63 = .ok (.ireturn, 1) := by decide +kernel
theorem dX7_nature_0 : decode cX7_nature 0 = .ok (.aload_n 0, 1) := by decide +kernel
theorem dX7_nature_1 : decode cX7_nature 1 = .ok (.iload_n 1, 1) := by decide +kernel
theorem dX7_nature_2 : decode cX7_nature 2 = .ok (.invokevirtual 190, 3) := by decide +kernel
theorem dX7_nature_5 : decode cX7_nature 5 = .ok (.ifCond .eq 11, 3) := by decide +kernel
theorem dX7_nature_8 : decode cX7_nature 8 = .ok (.aload_n 0, 1) := by decide +kernel
theorem dX7_nature_9 : decode cX7_nature 9 = .ok (.iload_n 2, 1) := by decide +kernel
theorem dX7_nature_10 : decode cX7_nature 10 = .ok (.invokevirtual 387, 3) := by decide +kernel
theorem dX7_nature_13 : decode cX7_nature 13 = .ok (.ifCond .ne 6, 3) := by decide +kernel
theorem dX7_nature_16 : decode cX7_nature 16 = .ok (.bipush (-2), 2) := by decide +kernel
theorem dX7_nature_18 : decode cX7_nature 18 = .ok (.ireturn, 1) := by decide +kernel
theorem dX7_nature_19 : decode cX7_nature 19 = .ok (.iload_n 3, 1) := by decide +kernel
theorem dX7_nature_20 : decode cX7_nature 20 = .ok (.ifCond .ne 8, 3) := by decide +kernel
theorem dX7_nature_23 : decode cX7_nature 23 = .ok (.aload_n 0, 1) := by decide +kernel
theorem dX7_nature_24 : decode cX7_nature 24 = .ok (.invokevirtual 399, 3) := by decide +kernel
theorem dX7_nature_27 : decode cX7_nature 27 = .ok (.ireturn, 1) := by decide +kernel
theorem dX7_nature_28 : decode cX7_nature 28 = .ok (.aload_n 0, 1) := by decide +kernel
theorem dX7_nature_29 : decode cX7_nature 29 = .ok (.invokevirtual 402, 3) := by decide +kernel
theorem dX7_nature_32 : decode cX7_nature 32 = .ok (.istore 4, 2) := by decide +kernel
theorem dX7_nature_34 : decode cX7_nature 34 = .ok (.iload_n 3, 1) := by decide +kernel
theorem dX7_nature_35 : decode cX7_nature 35 = .ok (.iconst 1, 1) := by decide +kernel
theorem dX7_nature_36 : decode cX7_nature 36 = .ok (.if_icmp .ne 10, 3) := by decide +kernel
theorem dX7_nature_39 : decode cX7_nature 39 = .ok (.iload 4, 2) := by decide +kernel
theorem dX7_nature_41 : decode cX7_nature 41 = .ok (.ifCond .ne 5, 3) := by decide +kernel
theorem dX7_nature_44 : decode cX7_nature 44 = .ok (.iconst (-1), 1) := by decide +kernel
theorem dX7_nature_45 : decode cX7_nature 45 = .ok (.ireturn, 1) := by decide +kernel
theorem dX7_nature_46 : decode cX7_nature 46 = .ok (.iload_n 3, 1) := by decide +kernel
theorem dX7_nature_47 : decode cX7_nature 47 = .ok (.iconst 1, 1) := by decide +kernel
theorem dX7_nature_48 : decode cX7_nature 48 = .ok (.if_icmp .eq 27, 3) := by decide +kernel
theorem dX7_nature_51 : decode cX7_nature 51 = .ok (.iload 4, 2) := by decide +kernel
theorem dX7_nature_53 : decode cX7_nature 53 = .ok (.ifCond .eq 19, 3) := by decide +kernel
theorem dX7_nature_56 : decode cX7_nature 56 = .ok (.iload_n 3, 1) := by decide +kernel
theorem dX7_nature_57 : decode cX7_nature 57 = .ok (.bipush 10, 2) := by decide +kernel
theorem dX7_nature_59 : decode cX7_nature 59 = .ok (.bipush 9, 2) := by decide +kernel
theorem dX7_nature_61 : decode cX7_nature 61 = .ok (.aload_n 0, 1) := by decide +kernel
theorem dX7_nature_62 : decode cX7_nature 62 = .ok (.invokevirtual 390, 3) := by decide +kernel
theorem dX7_nature_65 : decode cX7_nature 65 = .ok (.iadd, 1) := by decide +kernel
theorem dX7_nature_66 : decode cX7_nature 66 = .ok (.invokestatic 93, 3) := by decide +kernel
theorem dX7_nature_69 : decode cX7_nature 69 = .ok (.ifCond .ne 6, 3) := by decide +kernel
theorem dX7_nature_72 : decode cX7_nature 72 = .ok (.bipush (-2), 2) := by decide +kernel
theorem dX7_nature_74 : decode cX7_nature 74 = .ok (.ireturn, 1) := by decide +kernel
theorem dX7_nature_75 : decode cX7_nature 75 = .ok (.aload_n 0, 1) := by decide +kernel
theorem dX7_nature_76 : decode cX7_nature 76 = .ok (.invokevirtual 405, 3) := by decide +kernel
theorem dX7_nature_79 : decode cX7_nature 79 = .ok (.iload_n 3, 1) := by decide +kernel
theorem dX7_nature_80 : decode cX7_nature 80 = .ok (.iconst 1, 1) := by decide +kernel
theorem dX7_nature_81 : decode cX7_nature 81 = .ok (.if_icmp .ne 16, 3) := by decide +kernel
theorem dX7_nature_84 : decode cX7_nature 84 = .ok (.aload_n 0, 1) := by decide +kernel
theorem dX7_nature_85 : decode cX7_nature 85 = .ok (.getfield 26, 3) := by decide +kernel
theorem dX7_nature_88 : decode cX7_nature 88 = .ok (.aload_n 0, 1) := by decide +kernel
theorem dX7_nature_89 : decode cX7_nature 89 = .ok (.iconst 3, 1) := by decide +kernel
theorem dX7_nature_90 : decode cX7_nature 90 = .ok (.invokevirtual 181, 3) := by decide +kernel
theorem dX7_nature_93 : decode cX7_nature 93 = .ok (.iaload, 1) := by decide +kernel
theorem dX7_nature_94 : decode cX7_nature 94 = .ok (.goto 11, 3) := by decide +kernel
theorem dX7_nature_97 : decode cX7_nature 97 = .ok (.aload_n 0, 1) := by decide +kernel
theorem dX7_nature_98 : decode cX7_nature 98 = .ok (.iload_n 3, 1) := by decide +kernel
theorem dX7_nature_99 : decode cX7_nature 99 = .ok (.bipush 10, 2) := by decide +kernel
theorem dX7_nature_101 : decode cX7_nature 101 = .ok (.isub, 1) := by decide +kernel
theorem dX7_nature_102 : decode cX7_nature 102 = .ok (.invokevirtual 408, 3) := by decide +kernel
theorem dX7_nature_105 : decode cX7_nature 105 = .ok (.ireturn, 1) := by decide +kernel
theorem dX7_off_0 : decode cX7_off 0 = .ok (.aload_n 0, 1) := by decide +kernel
theorem dX7_off_1 : decode cX7_off 1 = .ok (.iload_n 1, 1) := by decide +kernel
theorem dX7_off_2 : decode cX7_off 2 = .ok (.iload_n 2, 1) := by decide +kernel
theorem dX7_off_3 : decode cX7_off 3 = .ok (.iload_n 3, 1) := by decide +kernel
theorem dX7_off_4 : decode cX7_off 4 = .ok (.iload 4, 2) := by decide +kernel
theorem dX7_off_6 : decode cX7_off 6 = .ok (.iload 5, 2) := by decide +kernel
theorem dX7_off_8 : decode cX7_off 8 = .ok (.iload 6, 2) := by decide +kernel
theorem dX7_off_10 : decode cX7_off 10 = .ok (.invokevirtual 241, 3) := by decide +kernel
theorem dX7_off_13 : decode cX7_off 13 = .ok (.ifCond .eq 11, 3) := by decide +kernel
theorem dX7_off_16 : decode cX7_off 16 = .ok (.aload_n 0, 1) := by decide +kernel
theorem dX7_off_17 : decode cX7_off 17 = .ok (.iload_n 2, 1) := by decide +kernel
theorem dX7_off_18 : decode cX7_off 18 = .ok (.invokevirtual 217, 3) := by decide +kernel
theorem dX7_off_21 : decode cX7_off 21 = .ok (.goto 4, 3) := by decide +kernel
theorem dX7_off_24 : decode cX7_off 24 = .ok (.iconst (-1), 1) := by decide +kernel
theorem dX7_off_25 : decode cX7_off 25 = .ok (.ireturn, 1) := by decide +kernel
theorem dX7_order_0 : decode cX7_order 0 = .ok (.aload_n 0, 1) := by decide +kernel
theorem dX7_order_1 : decode cX7_order 1 = .ok (.iload_n 1, 1) := by decide +kernel
theorem dX7_order_2 : decode cX7_order 2 = .ok (.invokevirtual 254, 3) := by decide +kernel
theorem dX7_order_5 : decode cX7_order 5 = .ok (.ifCond .ne 6, 3) := by decide +kernel
theorem dX7_order_8 : decode cX7_order 8 = .ok (.bipush (-2), 2) := by decide +kernel
theorem dX7_order_10 : decode cX7_order 10 = .ok (.ireturn, 1) := by decide +kernel
theorem dX7_order_11 : decode cX7_order 11 = .ok (.iload_n 2, 1) := by decide +kernel
theorem dX7_order_12 : decode cX7_order 12 = .ok (.iconst (-1), 1) := by decide +kernel
theorem dX7_order_13 : decode cX7_order 13 = .ok (.if_icmp .ne 22, 3) := by decide +kernel
theorem dX7_order_16 : decode cX7_order 16 = .ok (.iload_n 3, 1) := by decide +kernel
theorem dX7_order_17 : decode cX7_order 17 = .ok (.ifCond .ne 15, 3) := by decide +kernel
theorem dX7_order_20 : decode cX7_order 20 = .ok (.aload_n 0, 1) := by decide +kernel
theorem dX7_order_21 : decode cX7_order 21 = .ok (.getfield 7, 3) := by decide +kernel
theorem dX7_order_24 : decode cX7_order 24 = .ok (.aload_n 0, 1) := by decide +kernel
theorem dX7_order_25 : decode cX7_order 25 = .ok (.getfield 251, 3) := by decide +kernel
theorem dX7_order_28 : decode cX7_order 28 = .ok (.iaload, 1) := by decide +kernel
theorem dX7_order_29 : decode cX7_order 29 = .ok (.goto 5, 3) := by decide +kernel
theorem dX7_order_32 : decode cX7_order 32 = .ok (.bipush (-2), 2) := by decide +kernel
theorem dX7_order_34 : decode cX7_order 34 = .ok (.ireturn, 1) := by decide +kernel
theorem dX7_order_35 : decode cX7_order 35 = .ok (.iload_n 2, 1) := by decide +kernel
theorem dX7_order_36 : decode cX7_order 36 = .ok (.iconst 0, 1) := by decide +kernel
theorem dX7_order_37 : decode cX7_order 37 = .ok (.aload_n 0, 1) := by decide +kernel
theorem dX7_order_38 : decode cX7_order 38 = .ok (.getfield 7, 3) := by decide +kernel
theorem dX7_order_41 : decode cX7_order 41 = .ok (.aload_n 0, 1) := by decide +kernel
theorem dX7_order_42 : decode cX7_order 42 = .ok (.getfield 251, 3) := by decide +kernel
theorem dX7_order_45 : decode cX7_order 45 = .ok (.iaload, 1) := by decide +kernel
theorem dX7_order_46 : decode cX7_order 46 = .ok (.iconst 1, 1) := by decide +kernel
theorem dX7_order_47 : decode cX7_order 47 = .ok (.isub, 1) := by decide +kernel
theorem dX7_order_48 : decode cX7_order 48 = .ok (.invokestatic 93, 3) := by decide +kernel
theorem dX7_order_51 : decode cX7_order 51 = .ok (.ifCond .eq 21, 3) := by decide +kernel
theorem dX7_order_54 : decode cX7_order 54 = .ok (.iload_n 3, 1) := by decide +kernel
theorem dX7_order_55 : decode cX7_order 55 = .ok (.iconst 0, 1) := by decide +kernel
theorem dX7_order_56 : decode cX7_order 56 = .ok (.iconst 4, 1) := by decide +kernel
theorem dX7_order_57 : decode cX7_order 57 = .ok (.invokestatic 93, 3) := by decide +kernel
theorem dX7_order_60 : decode cX7_order 60 = .ok (.ifCond .eq 12, 3) := by decide +kernel
theorem dX7_order_63 : decode cX7_order 63 = .ok (.aload_n 0, 1) := by decide +kernel
theorem dX7_order_64 : decode cX7_order 64 = .ok (.iload_n 2, 1) := by decide +kernel
theorem dX7_order_65 : decode cX7_order 65 = .ok (.iload_n 3, 1) := by decide +kernel
theorem dX7_order_66 : decode cX7_order 66 = .ok (.invokevirtual 257, 3) := by decide +kernel
theorem dX7_order_69 : decode cX7_order 69 = .ok (.goto 5, 3) := by decide +kernel
theorem dX7_order_72 : decode cX7_order 72 = .ok (.bipush (-2), 2) := by decide +kernel
theorem dX7_order_74 : decode cX7_order 74 = .ok (.ireturn, 1) := by decide +kernel
theorem dX7_power_0 : decode cX7_power 0 = .ok (.aload_n 0, 1) := by decide +kernel
theorem dX7_power_1 : decode cX7_power 1 = .ok (.iload_n 1, 1) := by decide +kernel
theorem dX7_power_2 : decode cX7_power 2 = .ok (.invokevirtual 190, 3) := by decide +kernel
theorem dX7_power_5 : decode cX7_power 5 = .ok (.ifCond .eq 11, 3) := by decide +kernel
theorem dX7_power_8 : decode cX7_power 8 = .ok (.aload_n 0, 1) := by decide +kernel
theorem dX7_power_9 : decode cX7_power 9 = .ok (.iload_n 2, 1) := by decide +kernel
theorem dX7_power_10 : decode cX7_power 10 = .ok (.invokevirtual 193, 3) := by decide +kernel
theorem dX7_power_13 : decode cX7_power 13 = .ok (.ifCond .ne 5, 3) := by decide +kernel
theorem dX7_power_16 : decode cX7_power 16 = .ok (.iconst (-1), 1) := by decide +kernel
theorem dX7_power_17 : decode cX7_power 17 = .ok (.ireturn, 1) := by decide +kernel
theorem dX7_power_18 : decode cX7_power 18 = .ok (.aload_n 0, 1) := by decide +kernel
theorem dX7_power_19 : decode cX7_power 19 = .ok (.invokevirtual 184, 3) := by decide +kernel
theorem dX7_power_22 : decode cX7_power 22 = .ok (.istore 4, 2) := by decide +kernel
theorem dX7_power_24 : decode cX7_power 24 = .ok (.iconst 0, 1) := by decide +kernel
theorem dX7_power_25 : decode cX7_power 25 = .ok (.istore 5, 2) := by decide +kernel
theorem dX7_power_27 : decode cX7_power 27 = .ok (.iconst 0, 1) := by decide +kernel
theorem dX7_power_28 : decode cX7_power 28 = .ok (.istore 6, 2) := by decide +kernel
theorem dX7_power_30 : decode cX7_power 30 = .ok (.iload 6, 2) := by decide +kernel
theorem dX7_power_32 : decode cX7_power 32 = .ok (.aload_n 0, 1) := by decide +kernel
theorem dX7_power_33 : decode cX7_power 33 = .ok (.invokevirtual 347, 3) := by decide +kernel
theorem dX7_power_36 : decode cX7_power 36 = .ok (.if_icmp .gt 71, 3) := by decide +kernel
theorem dX7_power_39 : decode cX7_power 39 = .ok (.iload 6, 2) := by decide +kernel
theorem dX7_power_41 : decode cX7_power 41 = .ok (.iload_n 2, 1) := by decide +kernel
theorem dX7_power_42 : decode cX7_power 42 = .ok (.ishr, 1) := by decide +kernel
theorem dX7_power_43 : decode cX7_power 43 = .ok (.iconst 1, 1) := by decide +kernel
theorem dX7_power_44 : decode cX7_power 44 = .ok (.iand, 1) := by decide +kernel
theorem dX7_power_45 : decode cX7_power 45 = .ok (.iconst 1, 1) := by decide +kernel
theorem dX7_power_46 : decode cX7_power 46 = .ok (.if_icmp .eq 55, 3) := by decide +kernel
theorem dX7_power_49 : decode cX7_power 49 = .ok (.aload_n 0, 1) := by decide +kernel
theorem dX7_power_50 : decode cX7_power 50 = .ok (.iload 6, 2) := by decide +kernel
theorem dX7_power_52 : decode cX7_power 52 = .ok (.invokevirtual 350, 3) := by decide +kernel
theorem dX7_power_55 : decode cX7_power 55 = .ok (.ifCond .ne 46, 3) := by decide +kernel
theorem dX7_power_58 : decode cX7_power 58 = .ok (.aload_n 0, 1) := by decide +kernel
theorem dX7_power_59 : decode cX7_power 59 = .ok (.iload 6, 2) := by decide +kernel
theorem dX7_power_61 : decode cX7_power 61 = .ok (.iconst 1, 1) := by decide +kernel
theorem dX7_power_62 : decode cX7_power 62 = .ok (.iload_n 2, 1) := by decide +kernel
theorem dX7_power_63 : decode cX7_power 63 = .ok (.ishl, 1) := by decide +kernel
theorem dX7_power_64 : decode cX7_power 64 = .ok (.ior, 1) := by decide +kernel
theorem dX7_power_65 : decode cX7_power 65 = .ok (.invokevirtual 350, 3) := by decide +kernel
theorem dX7_power_68 : decode cX7_power 68 = .ok (.ifCond .ne 6, 3) := by decide +kernel
theorem dX7_power_71 : decode cX7_power 71 = .ok (.goto 30, 3) := by decide +kernel
theorem dX7_power_74 : decode cX7_power 74 = .ok (.iload 5, 2) := by decide +kernel
theorem dX7_power_76 : decode cX7_power 76 = .ok (.iload 6, 2) := by decide +kernel
theorem dX7_power_78 : decode cX7_power 78 = .ok (.invokestatic 353, 3) := by decide +kernel
theorem dX7_power_81 : decode cX7_power 81 = .ok (.invokestatic 356, 3) := by decide +kernel
theorem dX7_power_84 : decode cX7_power 84 = .ok (.iload 4, 2) := by decide +kernel
theorem dX7_power_86 : decode cX7_power 86 = .ok (.iconst 1, 1) := by decide +kernel
theorem dX7_power_87 : decode cX7_power 87 = .ok (.isub, 1) := by decide +kernel
theorem dX7_power_88 : decode cX7_power 88 = .ok (.iload 6, 2) := by decide +kernel
theorem dX7_power_90 : decode cX7_power 90 = .ok (.invokestatic 353, 3) := by decide +kernel
theorem dX7_power_93 : decode cX7_power 93 = .ok (.isub, 1) := by decide +kernel
theorem dX7_power_94 : decode cX7_power 94 = .ok (.invokestatic 356, 3) := by decide +kernel
theorem dX7_power_97 : decode cX7_power 97 = .ok (.imul, 1) := by decide +kernel
theorem dX7_power_98 : decode cX7_power 98 = .ok (.iadd, 1) := by decide +kernel
theorem dX7_power_99 : decode cX7_power 99 = .ok (.istore 5, 2) := by decide +kernel
theorem dX7_power_101 : decode cX7_power 101 = .ok (.iinc 6 1, 3) := by decide +kernel
theorem dX7_power_104 : decode cX7_power 104 = .ok (.goto (-74), 3) := by decide +kernel
theorem dX7_power_107 : decode cX7_power 107 = .ok (.iload 5, 2) := by decide +kernel
theorem dX7_power_109 : decode cX7_power 109 = .ok (.iload 4, 2) := by decide +kernel
theorem dX7_power_111 : decode cX7_power 111 = .ok (.invokestatic 356, 3) := by decide +kernel
theorem dX7_power_114 : decode cX7_power 114 = .ok (.iload_n 3, 1) := by decide +kernel
theorem dX7_power_115 : decode cX7_power 115 = .ok (.invokestatic 359, 3) := by decide +kernel
theorem dX7_power_118 : decode cX7_power 118 = .ok (.ireturn, 1) := by decide +kernel
theorem dX7_republic_0 : decode cX7_republic 0 = .ok (.aload_n 0, 1) := by decide +kernel
theorem dX7_republic_1 : decode cX7_republic 1 = .ok (.iload_n 1, 1) := by decide +kernel
theorem dX7_republic_2 : decode cX7_republic 2 = .ok (.invokevirtual 190, 3) := by decide +kernel
theorem dX7_republic_5 : decode cX7_republic 5 = .ok (.ifCond .ne 5, 3) := by decide +kernel
theorem dX7_republic_8 : decode cX7_republic 8 = .ok (.iconst (-1), 1) := by decide +kernel
theorem dX7_republic_9 : decode cX7_republic 9 = .ok (.ireturn, 1) := by decide +kernel
theorem dX7_republic_10 : decode cX7_republic 10 = .ok (.iload_n 2, 1) := by decide +kernel
theorem dX7_republic_11 : decode cX7_republic 11 = .ok (.iconst 0, 1) := by decide +kernel
theorem dX7_republic_12 : decode cX7_republic 12 = .ok (.iconst 5, 1) := by decide +kernel
theorem dX7_republic_13 : decode cX7_republic 13 = .ok (.invokestatic 93, 3) := by decide +kernel
theorem dX7_republic_16 : decode cX7_republic 16 = .ok (.ifCond .eq 11, 3) := by decide +kernel
theorem dX7_republic_19 : decode cX7_republic 19 = .ok (.aload_n 0, 1) := by decide +kernel
theorem dX7_republic_20 : decode cX7_republic 20 = .ok (.iload_n 2, 1) := by decide +kernel
theorem dX7_republic_21 : decode cX7_republic 21 = .ok (.invokevirtual 181, 3) := by decide +kernel
theorem dX7_republic_24 : decode cX7_republic 24 = .ok (.goto 29, 3) := by decide +kernel
theorem dX7_republic_27 : decode cX7_republic 27 = .ok (.iload_n 2, 1) := by decide +kernel
theorem dX7_republic_28 : decode cX7_republic 28 = .ok (.bipush 10, 2) := by decide +kernel
theorem dX7_republic_30 : decode cX7_republic 30 = .ok (.bipush 12, 2) := by decide +kernel
theorem dX7_republic_32 : decode cX7_republic 32 = .ok (.invokestatic 93, 3) := by decide +kernel
theorem dX7_republic_35 : decode cX7_republic 35 = .ok (.ifCond .eq 17, 3) := by decide +kernel
theorem dX7_republic_38 : decode cX7_republic 38 = .ok (.aload_n 0, 1) := by decide +kernel
theorem dX7_republic_39 : decode cX7_republic 39 = .ok (.bipush 6, 2) := by decide +kernel
theorem dX7_republic_41 : decode cX7_republic 41 = .ok (.iload_n 2, 1) := by decide +kernel
theorem dX7_republic_42 : decode cX7_republic 42 = .ok (.iadd, 1) := by decide +kernel
theorem dX7_republic_43 : decode cX7_republic 43 = .ok (.bipush 10, 2) := by decide +kernel
theorem dX7_republic_45 : decode cX7_republic 45 = .ok (.isub, 1) := by decide +kernel
theorem dX7_republic_46 : decode cX7_republic 46 = .ok (.invokevirtual 181, 3) := by decide +kernel
theorem dX7_republic_49 : decode cX7_republic 49 = .ok (.goto 4, 3) := by decide +kernel
theorem dX7_republic_52 : decode cX7_republic 52 = .ok (.iconst (-1), 1) := by decide +kernel
theorem dX7_republic_53 : decode cX7_republic 53 = .ok (.ireturn, 1) := by decide +kernel
theorem dX7_reshuffle_0 : decode cX7_reshuffle 0 = .ok (.aload_n 0, 1) := by decide +kernel
theorem dX7_reshuffle_1 : decode cX7_reshuffle 1 = .ok (.iload_n 1, 1) := by decide +kernel
theorem dX7_reshuffle_2 : decode cX7_reshuffle 2 = .ok (.invokevirtual 190, 3) := by decide +kernel
theorem dX7_reshuffle_5 : decode cX7_reshuffle 5 = .ok (.ifCond .ne 5, 3) := by decide +kernel
theorem dX7_reshuffle_8 : decode cX7_reshuffle 8 = .ok (.iconst (-1), 1) := by decide +kernel
theorem dX7_reshuffle_9 : decode cX7_reshuffle 9 = .ok (.ireturn, 1) := by decide +kernel
theorem dX7_reshuffle_10 : decode cX7_reshuffle 10 = .ok (.iconst (-1), 1) := by decide +kernel
theorem dX7_reshuffle_11 : decode cX7_reshuffle 11 = .ok (.istore_n 3, 1) := by decide +kernel
theorem dX7_reshuffle_12 : decode cX7_reshuffle 12 = .ok (.iconst (-1), 1) := by decide +kernel
theorem dX7_reshuffle_13 : decode cX7_reshuffle 13 = .ok (.istore 4, 2) := by decide +kernel
theorem dX7_reshuffle_15 : decode cX7_reshuffle 15 = .ok (.iconst 0, 1) := by decide +kernel
theorem dX7_reshuffle_16 : decode cX7_reshuffle 16 = .ok (.istore 5, 2) := by decide +kernel
theorem dX7_reshuffle_18 : decode cX7_reshuffle 18 = .ok (.iload 5, 2) := by decide +kernel
theorem dX7_reshuffle_20 : decode cX7_reshuffle 20 = .ok (.sipush 216, 3) := by decide +kernel
theorem dX7_reshuffle_23 : decode cX7_reshuffle 23 = .ok (.if_icmp .ge 59, 3) := by decide +kernel
theorem dX7_reshuffle_26 : decode cX7_reshuffle 26 = .ok (.aload_n 0, 1) := by decide +kernel
theorem dX7_reshuffle_27 : decode cX7_reshuffle 27 = .ok (.iload 5, 2) := by decide +kernel
theorem dX7_reshuffle_29 : decode cX7_reshuffle 29 = .ok (.invokevirtual 411, 3) := by decide +kernel
theorem dX7_reshuffle_32 : decode cX7_reshuffle 32 = .ok (.ifCond .ne 6, 3) := by decide +kernel
theorem dX7_reshuffle_35 : decode cX7_reshuffle 35 = .ok (.goto 41, 3) := by decide +kernel
theorem dX7_reshuffle_38 : decode cX7_reshuffle 38 = .ok (.aload_n 0, 1) := by decide +kernel
theorem dX7_reshuffle_39 : decode cX7_reshuffle 39 = .ok (.iload 5, 2) := by decide +kernel
theorem dX7_reshuffle_41 : decode cX7_reshuffle 41 = .ok (.invokevirtual 423, 3) := by decide +kernel
theorem dX7_reshuffle_44 : decode cX7_reshuffle 44 = .ok (.istore 6, 2) := by decide +kernel
theorem dX7_reshuffle_46 : decode cX7_reshuffle 46 = .ok (.iload 6, 2) := by decide +kernel
theorem dX7_reshuffle_48 : decode cX7_reshuffle 48 = .ok (.iload 4, 2) := by decide +kernel
theorem dX7_reshuffle_50 : decode cX7_reshuffle 50 = .ok (.if_icmp .le 8, 3) := by decide +kernel
theorem dX7_reshuffle_53 : decode cX7_reshuffle 53 = .ok (.iload 5, 2) := by decide +kernel
theorem dX7_reshuffle_55 : decode cX7_reshuffle 55 = .ok (.goto 4, 3) := by decide +kernel
theorem dX7_reshuffle_58 : decode cX7_reshuffle 58 = .ok (.iload_n 3, 1) := by decide +kernel
theorem dX7_reshuffle_59 : decode cX7_reshuffle 59 = .ok (.istore_n 3, 1) := by decide +kernel
theorem dX7_reshuffle_60 : decode cX7_reshuffle 60 = .ok (.iload 6, 2) := by decide +kernel
theorem dX7_reshuffle_62 : decode cX7_reshuffle 62 = .ok (.iload 4, 2) := by decide +kernel
theorem dX7_reshuffle_64 : decode cX7_reshuffle 64 = .ok (.if_icmp .le 8, 3) := by decide +kernel
theorem dX7_reshuffle_67 : decode cX7_reshuffle 67 = .ok (.iload 6, 2) := by decide +kernel
theorem dX7_reshuffle_69 : decode cX7_reshuffle 69 = .ok (.goto 5, 3) := by decide +kernel
theorem dX7_reshuffle_72 : decode cX7_reshuffle 72 = .ok (.iload 4, 2) := by decide +kernel
theorem dX7_reshuffle_74 : decode cX7_reshuffle 74 = .ok (.istore 4, 2) := by decide +kernel
theorem dX7_reshuffle_76 : decode cX7_reshuffle 76 = .ok (.iinc 5 1, 3) := by decide +kernel
theorem dX7_reshuffle_79 : decode cX7_reshuffle 79 = .ok (.goto (-61), 3) := by decide +kernel
theorem dX7_reshuffle_82 : decode cX7_reshuffle 82 = .ok (.iload_n 2, 1) := by decide +kernel
theorem dX7_reshuffle_83 : decode cX7_reshuffle 83 = .ok (.ifCond .eq 8, 3) := by decide +kernel
theorem dX7_reshuffle_86 : decode cX7_reshuffle 86 = .ok (.iload 4, 2) := by decide +kernel
theorem dX7_reshuffle_88 : decode cX7_reshuffle 88 = .ok (.goto 4, 3) := by decide +kernel
theorem dX7_reshuffle_91 : decode cX7_reshuffle 91 = .ok (.iload_n 3, 1) := by decide +kernel
theorem dX7_reshuffle_92 : decode cX7_reshuffle 92 = .ok (.ireturn, 1) := by decide +kernel
theorem dX7_seats_0 : decode cX7_seats 0 = .ok (.aload_n 0, 1) := by decide +kernel
theorem dX7_seats_1 : decode cX7_seats 1 = .ok (.iload_n 1, 1) := by decide +kernel
theorem dX7_seats_2 : decode cX7_seats 2 = .ok (.invokevirtual 190, 3) := by decide +kernel
theorem dX7_seats_5 : decode cX7_seats 5 = .ok (.ifCond .eq 17, 3) := by decide +kernel
theorem dX7_seats_8 : decode cX7_seats 8 = .ok (.aload_n 0, 1) := by decide +kernel
theorem dX7_seats_9 : decode cX7_seats 9 = .ok (.iload_n 2, 1) := by decide +kernel
theorem dX7_seats_10 : decode cX7_seats 10 = .ok (.invokevirtual 387, 3) := by decide +kernel
theorem dX7_seats_13 : decode cX7_seats 13 = .ok (.ifCond .eq 9, 3) := by decide +kernel
theorem dX7_seats_16 : decode cX7_seats 16 = .ok (.iload_n 3, 1) := by decide +kernel
theorem dX7_seats_17 : decode cX7_seats 17 = .ok (.bipush (-3), 2) := by decide +kernel
theorem dX7_seats_19 : decode cX7_seats 19 = .ok (.if_icmp .ge 6, 3) := by decide +kernel
theorem dX7_seats_22 : decode cX7_seats 22 = .ok (.bipush (-4), 2) := by decide +kernel
theorem dX7_seats_24 : decode cX7_seats 24 = .ok (.ireturn, 1) := by decide +kernel
theorem dX7_seats_25 : decode cX7_seats 25 = .ok (.iload_n 3, 1) := by decide +kernel
theorem dX7_seats_26 : decode cX7_seats 26 = .ok (.iconst (-1), 1) := by decide +kernel
theorem dX7_seats_27 : decode cX7_seats 27 = .ok (.if_icmp .ge 76, 3) := by decide +kernel
theorem dX7_seats_30 : decode cX7_seats 30 = .ok (.iconst 0, 1) := by decide +kernel
theorem dX7_seats_31 : decode cX7_seats 31 = .ok (.istore 4, 2) := by decide +kernel
theorem dX7_seats_33 : decode cX7_seats 33 = .ok (.iconst 1, 1) := by decide +kernel
theorem dX7_seats_34 : decode cX7_seats 34 = .ok (.istore 5, 2) := by decide +kernel
theorem dX7_seats_36 : decode cX7_seats 36 = .ok (.iload 5, 2) := by decide +kernel
theorem dX7_seats_38 : decode cX7_seats 38 = .ok (.iconst 4, 1) := by decide +kernel
theorem dX7_seats_39 : decode cX7_seats 39 = .ok (.if_icmp .ge 33, 3) := by decide +kernel
theorem dX7_seats_42 : decode cX7_seats 42 = .ok (.aload_n 0, 1) := by decide +kernel
theorem dX7_seats_43 : decode cX7_seats 43 = .ok (.iload 5, 2) := by decide +kernel
theorem dX7_seats_45 : decode cX7_seats 45 = .ok (.invokevirtual 420, 3) := by decide +kernel
theorem dX7_seats_48 : decode cX7_seats 48 = .ok (.aload_n 0, 1) := by decide +kernel
theorem dX7_seats_49 : decode cX7_seats 49 = .ok (.iload 4, 2) := by decide +kernel
theorem dX7_seats_51 : decode cX7_seats 51 = .ok (.invokevirtual 420, 3) := by decide +kernel
theorem dX7_seats_54 : decode cX7_seats 54 = .ok (.if_icmp .le 8, 3) := by decide +kernel
theorem dX7_seats_57 : decode cX7_seats 57 = .ok (.iload 5, 2) := by decide +kernel
theorem dX7_seats_59 : decode cX7_seats 59 = .ok (.goto 5, 3) := by decide +kernel
theorem dX7_seats_62 : decode cX7_seats 62 = .ok (.iload 4, 2) := by decide +kernel
theorem dX7_seats_64 : decode cX7_seats 64 = .ok (.istore 4, 2) := by decide +kernel
theorem dX7_seats_66 : decode cX7_seats 66 = .ok (.iinc 5 1, 3) := by decide +kernel
theorem dX7_seats_69 : decode cX7_seats 69 = .ok (.goto (-33), 3) := by decide +kernel
theorem dX7_seats_72 : decode cX7_seats 72 = .ok (.aload_n 0, 1) := by decide +kernel
theorem dX7_seats_73 : decode cX7_seats 73 = .ok (.iload 4, 2) := by decide +kernel
theorem dX7_seats_75 : decode cX7_seats 75 = .ok (.invokevirtual 420, 3) := by decide +kernel
theorem dX7_seats_78 : decode cX7_seats 78 = .ok (.ifCond .ne 7, 3) := by decide +kernel
theorem dX7_seats_81 : decode cX7_seats 81 = .ok (.iconst (-1), 1) := by decide +kernel
theorem dX7_seats_82 : decode cX7_seats 82 = .ok (.goto 20, 3) := by decide +kernel
theorem dX7_seats_85 : decode cX7_seats 85 = .ok (.iload_n 3, 1) := by decide +kernel
theorem dX7_seats_86 : decode cX7_seats 86 = .ok (.bipush (-2), 2) := by decide +kernel
theorem dX7_seats_88 : decode cX7_seats 88 = .ok (.if_icmp .ne 8, 3) := by decide +kernel
theorem dX7_seats_91 : decode cX7_seats 91 = .ok (.iload 4, 2) := by decide +kernel
theorem dX7_seats_93 : decode cX7_seats 93 = .ok (.goto 9, 3) := by decide +kernel
theorem dX7_seats_96 : decode cX7_seats 96 = .ok (.aload_n 0, 1) := by decide +kernel
theorem dX7_seats_97 : decode cX7_seats 97 = .ok (.iload 4, 2) := by decide +kernel
theorem dX7_seats_99 : decode cX7_seats 99 = .ok (.invokevirtual 420, 3) := by decide +kernel
theorem dX7_seats_102 : decode cX7_seats 102 = .ok (.ireturn, 1) := by decide +kernel
theorem dX7_seats_103 : decode cX7_seats 103 = .ok (.iconst 0, 1) := by decide +kernel
theorem dX7_seats_104 : decode cX7_seats 104 = .ok (.istore 4, 2) := by decide +kernel
theorem dX7_seats_106 : decode cX7_seats 106 = .ok (.iconst 0, 1) := by decide +kernel
theorem dX7_seats_107 : decode cX7_seats 107 = .ok (.istore 5, 2) := by decide +kernel
theorem dX7_seats_109 : decode cX7_seats 109 = .ok (.iload 5, 2) := by decide +kernel
theorem dX7_seats_111 : decode cX7_seats 111 = .ok (.sipush 216, 3) := by decide +kernel
theorem dX7_seats_114 : decode cX7_seats 114 = .ok (.if_icmp .ge 33, 3) := by decide +kernel
theorem dX7_seats_117 : decode cX7_seats 117 = .ok (.aload_n 0, 1) := by decide +kernel
theorem dX7_seats_118 : decode cX7_seats 118 = .ok (.iload 5, 2) := by decide +kernel
theorem dX7_seats_120 : decode cX7_seats 120 = .ok (.invokevirtual 417, 3) := by decide +kernel
theorem dX7_seats_123 : decode cX7_seats 123 = .ok (.ifCond .ne 6, 3) := by decide +kernel
theorem dX7_seats_126 : decode cX7_seats 126 = .ok (.goto 15, 3) := by decide +kernel
theorem dX7_seats_129 : decode cX7_seats 129 = .ok (.iload 4, 2) := by decide +kernel
theorem dX7_seats_131 : decode cX7_seats 131 = .ok (.iload_n 3, 1) := by decide +kernel
theorem dX7_seats_132 : decode cX7_seats 132 = .ok (.if_icmp .ne 6, 3) := by decide +kernel
theorem dX7_seats_135 : decode cX7_seats 135 = .ok (.iload 5, 2) := by decide +kernel
theorem dX7_seats_137 : decode cX7_seats 137 = .ok (.ireturn, 1) := by decide +kernel
theorem dX7_seats_138 : decode cX7_seats 138 = .ok (.iinc 4 1, 3) := by decide +kernel
theorem dX7_seats_141 : decode cX7_seats 141 = .ok (.iinc 5 1, 3) := by decide +kernel
theorem dX7_seats_144 : decode cX7_seats 144 = .ok (.goto (-35), 3) := by decide +kernel
theorem dX7_seats_147 : decode cX7_seats 147 = .ok (.iload_n 3, 1) := by decide +kernel
theorem dX7_seats_148 : decode cX7_seats 148 = .ok (.iconst (-1), 1) := by decide +kernel
theorem dX7_seats_149 : decode cX7_seats 149 = .ok (.if_icmp .ne 8, 3) := by decide +kernel
theorem dX7_seats_152 : decode cX7_seats 152 = .ok (.iload 4, 2) := by decide +kernel
theorem dX7_seats_154 : decode cX7_seats 154 = .ok (.goto 5, 3) := by decide +kernel
theorem dX7_seats_157 : decode cX7_seats 157 = .ok (.bipush (-4), 2) := by decide +kernel
theorem dX7_seats_159 : decode cX7_seats 159 = .ok (.ireturn, 1) := by decide +kernel
theorem dX7_state_0 : decode cX7_state 0 = .ok (.aload_n 0, 1) := by decide +kernel
theorem dX7_state_1 : decode cX7_state 1 = .ok (.iload_n 1, 1) := by decide +kernel
theorem dX7_state_2 : decode cX7_state 2 = .ok (.iload_n 2, 1) := by decide +kernel
theorem dX7_state_3 : decode cX7_state 3 = .ok (.iload_n 3, 1) := by decide +kernel
theorem dX7_state_4 : decode cX7_state 4 = .ok (.invokevirtual 330, 3) := by decide +kernel
theorem dX7_state_7 : decode cX7_state 7 = .ok (.ifCond .eq 8, 3) := by decide +kernel
theorem dX7_state_10 : decode cX7_state 10 = .ok (.iload 4, 2) := by decide +kernel
theorem dX7_state_12 : decode cX7_state 12 = .ok (.ifCond .ge 6, 3) := by decide +kernel
theorem dX7_state_15 : decode cX7_state 15 = .ok (.bipush (-2), 2) := by decide +kernel
theorem dX7_state_17 : decode cX7_state 17 = .ok (.ireturn, 1) := by decide +kernel
theorem dX7_state_18 : decode cX7_state 18 = .ok (.aload_n 0, 1) := by decide +kernel
theorem dX7_state_19 : decode cX7_state 19 = .ok (.iload 4, 2) := by decide +kernel
theorem dX7_state_21 : decode cX7_state 21 = .ok (.invokevirtual 333, 3) := by decide +kernel
theorem dX7_state_24 : decode cX7_state 24 = .ok (.aload_n 0, 1) := by decide +kernel
theorem dX7_state_25 : decode cX7_state 25 = .ok (.getfield 293, 3) := by decide +kernel
theorem dX7_state_28 : decode cX7_state 28 = .ok (.iload 4, 2) := by decide +kernel
theorem dX7_state_30 : decode cX7_state 30 = .ok (.if_icmp .eq 6, 3) := by decide +kernel
theorem dX7_state_33 : decode cX7_state 33 = .ok (.bipush (-2), 2) := by decide +kernel
theorem dX7_state_35 : decode cX7_state 35 = .ok (.ireturn, 1) := by decide +kernel
theorem dX7_state_36 : decode cX7_state 36 = .ok (.aload_n 0, 1) := by decide +kernel
theorem dX7_state_37 : decode cX7_state 37 = .ok (.iload 5, 2) := by decide +kernel
theorem dX7_state_39 : decode cX7_state 39 = .ok (.bipush 20, 2) := by decide +kernel
theorem dX7_state_41 : decode cX7_state 41 = .ok (.isub, 1) := by decide +kernel
theorem dX7_state_42 : decode cX7_state 42 = .ok (.invokevirtual 193, 3) := by decide +kernel
theorem dX7_state_45 : decode cX7_state 45 = .ok (.ifCond .eq 14, 3) := by decide +kernel
theorem dX7_state_48 : decode cX7_state 48 = .ok (.aload_n 0, 1) := by decide +kernel
theorem dX7_state_49 : decode cX7_state 49 = .ok (.getfield 23, 3) := by decide +kernel
theorem dX7_state_52 : decode cX7_state 52 = .ok (.iload 5, 2) := by decide +kernel
theorem dX7_state_54 : decode cX7_state 54 = .ok (.bipush 20, 2) := by decide +kernel
theorem dX7_state_56 : decode cX7_state 56 = .ok (.isub, 1) := by decide +kernel
theorem dX7_state_57 : decode cX7_state 57 = .ok (.iaload, 1) := by decide +kernel
theorem dX7_state_58 : decode cX7_state 58 = .ok (.ireturn, 1) := by decide +kernel
theorem dX7_state_59 : decode cX7_state 59 = .ok (.iload 5, 2) := by decide +kernel
theorem dX7_state_61 : decode cX7_state 61 = .ok (.bipush 10, 2) := by decide +kernel
theorem dX7_state_63 : decode cX7_state 63 = .ok (.bipush 12, 2) := by decide +kernel
theorem dX7_state_65 : decode cX7_state 65 = .ok (.invokestatic 93, 3) := by decide +kernel
theorem dX7_state_68 : decode cX7_state 68 = .ok (.ifCond .eq 14, 3) := by decide +kernel
theorem dX7_state_71 : decode cX7_state 71 = .ok (.aload_n 0, 1) := by decide +kernel
theorem dX7_state_72 : decode cX7_state 72 = .ok (.getfield 20, 3) := by decide +kernel
theorem dX7_state_75 : decode cX7_state 75 = .ok (.iload 5, 2) := by decide +kernel
theorem dX7_state_77 : decode cX7_state 77 = .ok (.bipush 10, 2) := by decide +kernel
theorem dX7_state_79 : decode cX7_state 79 = .ok (.isub, 1) := by decide +kernel
theorem dX7_state_80 : decode cX7_state 80 = .ok (.iaload, 1) := by decide +kernel
theorem dX7_state_81 : decode cX7_state 81 = .ok (.ireturn, 1) := by decide +kernel
theorem dX7_state_82 : decode cX7_state 82 = .ok (.iload 5, 2) := by decide +kernel
theorem dX7_state_84 : decode cX7_state 84 = .ok (.tableswitch 123 0 9 #[56, 61, 66, 71, 76, 81, 86, 91, 96, 118], 56) := by decide +kernel
theorem dX7_state_140 : decode cX7_state 140 = .ok (.aload_n 0, 1) := by decide +kernel
theorem dX7_state_141 : decode cX7_state 141 = .ok (.getfield 284, 3) := by decide +kernel
theorem dX7_state_144 : decode cX7_state 144 = .ok (.ireturn, 1) := by decide +kernel
theorem dX7_state_145 : decode cX7_state 145 = .ok (.aload_n 0, 1) := by decide +kernel
theorem dX7_state_146 : decode cX7_state 146 = .ok (.getfield 205, 3) := by decide +kernel
theorem dX7_state_149 : decode cX7_state 149 = .ok (.ireturn, 1) := by decide +kernel
theorem dX7_state_150 : decode cX7_state 150 = .ok (.aload_n 0, 1) := by decide +kernel
theorem dX7_state_151 : decode cX7_state 151 = .ok (.getfield 226, 3) := by decide +kernel
theorem dX7_state_154 : decode cX7_state 154 = .ok (.ireturn, 1) := by decide +kernel
theorem dX7_state_155 : decode cX7_state 155 = .ok (.aload_n 0, 1) := by decide +kernel
theorem dX7_state_156 : decode cX7_state 156 = .ok (.getfield 272, 3) := by decide +kernel
theorem dX7_state_159 : decode cX7_state 159 = .ok (.ireturn, 1) := by decide +kernel
theorem dX7_state_160 : decode cX7_state 160 = .ok (.aload_n 0, 1) := by decide +kernel
theorem dX7_state_161 : decode cX7_state 161 = .ok (.getfield 275, 3) := by decide +kernel
theorem dX7_state_164 : decode cX7_state 164 = .ok (.ireturn, 1) := by decide +kernel
theorem dX7_state_165 : decode cX7_state 165 = .ok (.aload_n 0, 1) := by decide +kernel
theorem dX7_state_166 : decode cX7_state 166 = .ok (.getfield 278, 3) := by decide +kernel
theorem dX7_state_169 : decode cX7_state 169 = .ok (.ireturn, 1) := by decide +kernel
theorem dX7_state_170 : decode cX7_state 170 = .ok (.aload_n 0, 1) := by decide +kernel
theorem dX7_state_171 : decode cX7_state 171 = .ok (.getfield 281, 3) := by decide +kernel
theorem dX7_state_174 : decode cX7_state 174 = .ok (.ireturn, 1) := by decide +kernel
theorem dX7_state_175 : decode cX7_state 175 = .ok (.aload_n 0, 1) := by decide +kernel
theorem dX7_state_176 : decode cX7_state 176 = .ok (.getfield 287, 3) := by decide +kernel
theorem dX7_state_179 : decode cX7_state 179 = .ok (.ireturn, 1) := by decide +kernel
theorem dX7_state_180 : decode cX7_state 180 = .ok (.aload_n 0, 1) := by decide +kernel
theorem dX7_state_181 : decode cX7_state 181 = .ok (.aload_n 0, 1) := by decide +kernel
theorem dX7_state_182 : decode cX7_state 182 = .ok (.getfield 226, 3) := by decide +kernel
theorem dX7_state_185 : decode cX7_state 185 = .ok (.invokevirtual 229, 3) := by decide +kernel
theorem dX7_state_188 : decode cX7_state 188 = .ok (.aload_n 0, 1) := by decide +kernel
theorem dX7_state_189 : decode cX7_state 189 = .ok (.iconst 1, 1) := by decide +kernel
theorem dX7_state_190 : decode cX7_state 190 = .ok (.invokevirtual 181, 3) := by decide +kernel
theorem dX7_state_193 : decode cX7_state 193 = .ok (.if_icmp .ge 7, 3) := by decide +kernel
theorem dX7_state_196 : decode cX7_state 196 = .ok (.iconst 1, 1) := by decide +kernel
theorem dX7_state_197 : decode cX7_state 197 = .ok (.goto 4, 3) := by decide +kernel
theorem dX7_state_200 : decode cX7_state 200 = .ok (.iconst 0, 1) := by decide +kernel
theorem dX7_state_201 : decode cX7_state 201 = .ok (.ireturn, 1) := by decide +kernel
theorem dX7_state_202 : decode cX7_state 202 = .ok (.aload_n 0, 1) := by decide +kernel
theorem dX7_state_203 : decode cX7_state 203 = .ok (.getfield 290, 3) := by decide +kernel
theorem dX7_state_206 : decode cX7_state 206 = .ok (.ireturn, 1) := by decide +kernel
theorem dX7_state_207 : decode cX7_state 207 = .ok (.bipush (-2), 2) := by decide +kernel
theorem dX7_state_209 : decode cX7_state 209 = .ok (.ireturn, 1) := by decide +kernel
theorem dX7_stop_0 : decode cX7_stop 0 = .ok (.aload_n 0, 1) := by decide +kernel
theorem dX7_stop_1 : decode cX7_stop 1 = .ok (.iload_n 1, 1) := by decide +kernel
theorem dX7_stop_2 : decode cX7_stop 2 = .ok (.iload_n 2, 1) := by decide +kernel
theorem dX7_stop_3 : decode cX7_stop 3 = .ok (.iload_n 3, 1) := by decide +kernel
theorem dX7_stop_4 : decode cX7_stop 4 = .ok (.invokevirtual 330, 3) := by decide +kernel
theorem dX7_stop_7 : decode cX7_stop 7 = .ok (.ifCond .ne 5, 3) := by decide +kernel
theorem dX7_stop_10 : decode cX7_stop 10 = .ok (.iconst (-1), 1) := by decide +kernel
theorem dX7_stop_11 : decode cX7_stop 11 = .ok (.ireturn, 1) := by decide +kernel
theorem dX7_stop_12 : decode cX7_stop 12 = .ok (.aload_n 0, 1) := by decide +kernel
theorem dX7_stop_13 : decode cX7_stop 13 = .ok (.bipush 40, 2) := by decide +kernel
theorem dX7_stop_15 : decode cX7_stop 15 = .ok (.invokevirtual 333, 3) := by decide +kernel
theorem dX7_stop_18 : decode cX7_stop 18 = .ok (.aload_n 0, 1) := by decide +kernel
theorem dX7_stop_19 : decode cX7_stop 19 = .ok (.getfield 293, 3) := by decide +kernel
theorem dX7_stop_22 : decode cX7_stop 22 = .ok (.ireturn, 1) := by decide +kernel
theorem dX7_vote_0 : decode cX7_vote 0 = .ok (.aload_n 0, 1) := by decide +kernel
theorem dX7_vote_1 : decode cX7_vote 1 = .ok (.iload_n 1, 1) := by decide +kernel
theorem dX7_vote_2 : decode cX7_vote 2 = .ok (.iload_n 2, 1) := by decide +kernel
theorem dX7_vote_3 : decode cX7_vote 3 = .ok (.iload_n 3, 1) := by decide +kernel
theorem dX7_vote_4 : decode cX7_vote 4 = .ok (.iload 4, 2) := by decide +kernel
theorem dX7_vote_6 : decode cX7_vote 6 = .ok (.iload 5, 2) := by decide +kernel
theorem dX7_vote_8 : decode cX7_vote 8 = .ok (.iload 6, 2) := by decide +kernel
theorem dX7_vote_10 : decode cX7_vote 10 = .ok (.invokevirtual 241, 3) := by decide +kernel
theorem dX7_vote_13 : decode cX7_vote 13 = .ok (.ifCond .ne 5, 3) := by decide +kernel
theorem dX7_vote_16 : decode cX7_vote 16 = .ok (.iconst (-1), 1) := by decide +kernel
theorem dX7_vote_17 : decode cX7_vote 17 = .ok (.ireturn, 1) := by decide +kernel
theorem dX7_vote_18 : decode cX7_vote 18 = .ok (.iload 7, 2) := by decide +kernel
theorem dX7_vote_20 : decode cX7_vote 20 = .ok (.ifCond .eq 22, 3) := by decide +kernel
theorem dX7_vote_23 : decode cX7_vote 23 = .ok (.aload_n 0, 1) := by decide +kernel
theorem dX7_vote_24 : decode cX7_vote 24 = .ok (.aload_n 0, 1) := by decide +kernel
theorem dX7_vote_25 : decode cX7_vote 25 = .ok (.invokevirtual 245, 3) := by decide +kernel
theorem dX7_vote_28 : decode cX7_vote 28 = .ok (.invokevirtual 248, 3) := by decide +kernel
theorem dX7_vote_31 : decode cX7_vote 31 = .ok (.ifCond .eq 7, 3) := by decide +kernel
theorem dX7_vote_34 : decode cX7_vote 34 = .ok (.iconst 1, 1) := by decide +kernel
theorem dX7_vote_35 : decode cX7_vote 35 = .ok (.goto 11, 3) := by decide +kernel
theorem dX7_vote_38 : decode cX7_vote 38 = .ok (.iconst 0, 1) := by decide +kernel
theorem dX7_vote_39 : decode cX7_vote 39 = .ok (.goto 7, 3) := by decide +kernel
theorem dX7_vote_42 : decode cX7_vote 42 = .ok (.aload_n 0, 1) := by decide +kernel
theorem dX7_vote_43 : decode cX7_vote 43 = .ok (.invokevirtual 245, 3) := by decide +kernel
theorem dX7_vote_46 : decode cX7_vote 46 = .ok (.ireturn, 1) := by decide +kernel
theorem dX7_was_0 : decode cX7_was 0 = .ok (.aload_n 0, 1) := by decide +kernel
theorem dX7_was_1 : decode cX7_was 1 = .ok (.iload_n 1, 1) := by decide +kernel
theorem dX7_was_2 : decode cX7_was 2 = .ok (.invokevirtual 387, 3) := by decide +kernel
theorem dX7_was_5 : decode cX7_was 5 = .ok (.ifCond .ne 6, 3) := by decide +kernel
theorem dX7_was_8 : decode cX7_was 8 = .ok (.bipush (-2), 2) := by decide +kernel
theorem dX7_was_10 : decode cX7_was 10 = .ok (.ireturn, 1) := by decide +kernel
theorem dX7_was_11 : decode cX7_was 11 = .ok (.iload_n 2, 1) := by decide +kernel
theorem dX7_was_12 : decode cX7_was 12 = .ok (.iconst (-1), 1) := by decide +kernel
theorem dX7_was_13 : decode cX7_was 13 = .ok (.if_icmp .ne 17, 3) := by decide +kernel
theorem dX7_was_16 : decode cX7_was 16 = .ok (.iload_n 3, 1) := by decide +kernel
theorem dX7_was_17 : decode cX7_was 17 = .ok (.ifCond .ne 10, 3) := by decide +kernel
theorem dX7_was_20 : decode cX7_was 20 = .ok (.aload_n 0, 1) := by decide +kernel
theorem dX7_was_21 : decode cX7_was 21 = .ok (.invokevirtual 390, 3) := by decide +kernel
theorem dX7_was_24 : decode cX7_was 24 = .ok (.goto 5, 3) := by decide +kernel
theorem dX7_was_27 : decode cX7_was 27 = .ok (.bipush (-2), 2) := by decide +kernel
theorem dX7_was_29 : decode cX7_was 29 = .ok (.ireturn, 1) := by decide +kernel
theorem dX7_was_30 : decode cX7_was 30 = .ok (.iload_n 2, 1) := by decide +kernel
theorem dX7_was_31 : decode cX7_was 31 = .ok (.iconst 0, 1) := by decide +kernel
theorem dX7_was_32 : decode cX7_was 32 = .ok (.aload_n 0, 1) := by decide +kernel
theorem dX7_was_33 : decode cX7_was 33 = .ok (.invokevirtual 390, 3) := by decide +kernel
theorem dX7_was_36 : decode cX7_was 36 = .ok (.iconst 1, 1) := by decide +kernel
theorem dX7_was_37 : decode cX7_was 37 = .ok (.isub, 1) := by decide +kernel
theorem dX7_was_38 : decode cX7_was 38 = .ok (.invokestatic 93, 3) := by decide +kernel
theorem dX7_was_41 : decode cX7_was 41 = .ok (.ifCond .eq 21, 3) := by decide +kernel
theorem dX7_was_44 : decode cX7_was 44 = .ok (.iload_n 3, 1) := by decide +kernel
theorem dX7_was_45 : decode cX7_was 45 = .ok (.iconst 0, 1) := by decide +kernel
theorem dX7_was_46 : decode cX7_was 46 = .ok (.iconst 3, 1) := by decide +kernel
theorem dX7_was_47 : decode cX7_was 47 = .ok (.invokestatic 93, 3) := by decide +kernel
theorem dX7_was_50 : decode cX7_was 50 = .ok (.ifCond .eq 12, 3) := by decide +kernel
theorem dX7_was_53 : decode cX7_was 53 = .ok (.aload_n 0, 1) := by decide +kernel
theorem dX7_was_54 : decode cX7_was 54 = .ok (.iload_n 2, 1) := by decide +kernel
theorem dX7_was_55 : decode cX7_was 55 = .ok (.iload_n 3, 1) := by decide +kernel
theorem dX7_was_56 : decode cX7_was 56 = .ok (.invokevirtual 384, 3) := by decide +kernel
theorem dX7_was_59 : decode cX7_was 59 = .ok (.goto 5, 3) := by decide +kernel
theorem dX7_was_62 : decode cX7_was 62 = .ok (.bipush (-2), 2) := by decide +kernel
theorem dX7_was_64 : decode cX7_was 64 = .ok (.ireturn, 1) := by decide +kernel
end
section
set_option maxRecDepth 100000 in
set_option maxHeartbeats 4000000 in
theorem ct_X6_cell (G : EG) (l : Launch) {w : EW} {k n : Nat} {f : Nat → Int32} {i : Int32} (hk : w[k]? = some (cI 0 n f)) (hn : n < 2147483648) (hi : vp_in i n) : Ct G l yX6_cell cX6_cell 2 (some .int) 0 0 0 [eR (k), eI (i)] w (fun r w2 => r = some (eI (f i.toNatClampNeg)) ∧ w2 = w) := by
  refine Ct_of (by decide +kernel) (Nat.le_of_ble_eq_true rfl) ?_
  intro p_ e_ s_ m_ a_ b_ t_ c_ K0 hr hin
  have K : wc_C p_ s_ m_ a_ t_ c_ G RX6 cX6_cell 2 (w).length := K0
  clear K0
  refine WW_ls (ls2 := [some (eR (k)), some (eI (i))]) rfl ?_
  refine ww_iload_n K dX6_cell_0 rfl ?_
  refine ww_if_lt (tgt := 16) K dX6_cell_1 rfl (fun cc_ => absurd cc_ (fun q => hi (Or.inl q))) (fun _ => ?_)
  refine ww_iload_n K dX6_cell_4 rfl ?_
  refine ww_aload_n K dX6_cell_5 rfl ?_
  refine ww_alen K dX6_cell_6 hk (by decide) ?_
  refine ww_icmp_ge (tgt := 16) K dX6_cell_7 rfl (fun cc_ => absurd cc_ (wc_lt_of hn hi)) (fun _ => ?_)
  refine ww_aload_n K dX6_cell_10 rfl ?_
  refine ww_iload_n K dX6_cell_11 rfl ?_
  refine ww_iald K dX6_cell_12 hk hi ?_
  refine ww_goto (tgt := 17) K dX6_cell_13 rfl ?_
  exact ww_iret K dX6_cell_17 hr ⟨rfl, rfl⟩
set_option maxRecDepth 100000 in
set_option maxHeartbeats 4000000 in
theorem ct_X6_put (G : EG) (l : Launch) {w : EW} {k n : Nat} {f : Nat → Int32} {i x : Int32} (hk : w[k]? = some (cI 0 n f)) (hn : n < 2147483648) (hi : vp_in i n) : Ct G l yX6_put cX6_put 3 none 0 0 0 [eR (k), eI (i), eI (x)] w (fun r w2 => r = none ∧ (w2[k]? = some (cI 0 n (upd f i.toNatClampNeg x)) ∧ wc_same [k] w w2)) := by
  refine Ct_of (by decide +kernel) (Nat.le_of_ble_eq_true rfl) ?_
  intro p_ e_ s_ m_ a_ b_ t_ c_ K0 hr hin
  have K : wc_C p_ s_ m_ a_ t_ c_ G RX6 cX6_put 3 (w).length := K0
  clear K0
  refine WW_ls (ls2 := [some (eR (k)), some (eI (i)), some (eI (x))]) rfl ?_
  refine ww_iload_n K dX6_put_0 rfl ?_
  refine ww_if_lt (tgt := 14) K dX6_put_1 rfl (fun cc_ => absurd cc_ (fun q => hi (Or.inl q))) (fun _ => ?_)
  refine ww_iload_n K dX6_put_4 rfl ?_
  refine ww_aload_n K dX6_put_5 rfl ?_
  refine ww_alen K dX6_put_6 hk (by decide) ?_
  refine ww_icmp_ge (tgt := 14) K dX6_put_7 rfl (fun cc_ => absurd cc_ (wc_lt_of hn hi)) (fun _ => ?_)
  refine ww_aload_n K dX6_put_10 rfl ?_
  refine ww_iload_n K dX6_put_11 rfl ?_
  refine ww_iload_n K dX6_put_12 rfl ?_
  refine ww_iastX K dX6_put_13 hk hi (fun w1 hln_w1 hk1 hne_w1 => ?_)
  exact ww_vret K dX6_put_14 hr ⟨rfl, hk1, wc_same.put wc_same.rf (by simp) hne_w1⟩
set_option maxRecDepth 100000 in
set_option maxHeartbeats 4000000 in
theorem ct_X6_isAmount (G : EG) (l : Launch) {w : EW} {a : Int32} : Ct G l yX6_isAmount cX6_isAmount 1 (some .boolean) 0 0 0 [eI (a)] w (fun r w2 => (∃ x : Int32, r = some (eI x) ∧ (w2 = w))) := by
  refine Ct_of (by decide +kernel) (Nat.le_of_ble_eq_true rfl) ?_
  intro p_ e_ s_ m_ a_ b_ t_ c_ K0 hr hin
  have K : wc_C p_ s_ m_ a_ t_ c_ G RX6 cX6_isAmount 1 (w).length := K0
  clear K0
  refine WW_ls (ls2 := [some (eI (a))]) rfl ?_
  refine ww_iload_n K dX6_isAmount_0 rfl ?_
  refine ww_if_lt (tgt := 14) K dX6_isAmount_1 rfl (fun c_1 => ?_) (fun c_1 => ?_)
  · refine ww_iconst (v := 0) K dX6_isAmount_14 rfl ?_
    exact ww_zret K rfl dX6_isAmount_15 hr ⟨_, rfl, rfl⟩
  · refine ww_iload_n K dX6_isAmount_4 rfl ?_
    refine ww_bipush (v := 10) K dX6_isAmount_5 rfl ?_
    refine ww_icmp_ge (tgt := 14) K dX6_isAmount_7 rfl (fun c_7 => ?_) (fun c_7 => ?_)
    · refine ww_iconst (v := 0) K dX6_isAmount_14 rfl ?_
      exact ww_zret K rfl dX6_isAmount_15 hr ⟨_, rfl, rfl⟩
    · refine ww_iconst (v := 1) K dX6_isAmount_10 rfl ?_
      refine ww_goto (tgt := 15) K dX6_isAmount_11 rfl ?_
      exact ww_zret K rfl dX6_isAmount_15 hr ⟨_, rfl, rfl⟩
set_option maxRecDepth 100000 in
set_option maxHeartbeats 4000000 in
theorem ct_X6_isSeason (G : EG) (l : Launch) {w : EW} {a : Int32} : Ct G l yX6_isSeason cX6_isSeason 1 (some .boolean) 0 0 0 [eI (a)] w (fun r w2 => (∃ x : Int32, r = some (eI x) ∧ (w2 = w))) := by
  refine Ct_of (by decide +kernel) (Nat.le_of_ble_eq_true rfl) ?_
  intro p_ e_ s_ m_ a_ b_ t_ c_ K0 hr hin
  have K : wc_C p_ s_ m_ a_ t_ c_ G RX6 cX6_isSeason 1 (w).length := K0
  clear K0
  refine WW_ls (ls2 := [some (eI (a))]) rfl ?_
  refine ww_iload_n K dX6_isSeason_0 rfl ?_
  refine ww_if_lt (tgt := 13) K dX6_isSeason_1 rfl (fun c_1 => ?_) (fun c_1 => ?_)
  · refine ww_iconst (v := 0) K dX6_isSeason_13 rfl ?_
    exact ww_zret K rfl dX6_isSeason_14 hr ⟨_, rfl, rfl⟩
  · refine ww_iload_n K dX6_isSeason_4 rfl ?_
    refine ww_iconst (v := 4) K dX6_isSeason_5 rfl ?_
    refine ww_icmp_ge (tgt := 13) K dX6_isSeason_6 rfl (fun c_6 => ?_) (fun c_6 => ?_)
    · refine ww_iconst (v := 0) K dX6_isSeason_13 rfl ?_
      exact ww_zret K rfl dX6_isSeason_14 hr ⟨_, rfl, rfl⟩
    · refine ww_iconst (v := 1) K dX6_isSeason_9 rfl ?_
      refine ww_goto (tgt := 14) K dX6_isSeason_10 rfl ?_
      exact ww_zret K rfl dX6_isSeason_14 hr ⟨_, rfl, rfl⟩
set_option maxRecDepth 100000 in
set_option maxHeartbeats 4000000 in
theorem ct_X6_numberOf (G : EG) (l : Launch) {w : EW} {a b c : Int32} : Ct G l yX6_numberOf cX6_numberOf 3 (some .int) 0 0 0 [eI (a), eI (b), eI (c)] w (fun r w2 => r = some (eI ((a * 10 + b) * 10 + c)) ∧ w2 = w) := by
  refine Ct_of (by decide +kernel) (Nat.le_of_ble_eq_true rfl) ?_
  intro p_ e_ s_ m_ a_ b_ t_ c_ K0 hr hin
  have K : wc_C p_ s_ m_ a_ t_ c_ G RX6 cX6_numberOf 3 (w).length := K0
  clear K0
  refine WW_ls (ls2 := [some (eI (a)), some (eI (b)), some (eI (c))]) rfl ?_
  refine ww_iload_n K dX6_numberOf_0 rfl ?_
  refine ww_bipush (v := 10) K dX6_numberOf_1 rfl ?_
  refine ww_imul K dX6_numberOf_3 ?_
  refine ww_iload_n K dX6_numberOf_4 rfl ?_
  refine ww_iadd K dX6_numberOf_5 ?_
  refine ww_bipush (v := 10) K dX6_numberOf_6 rfl ?_
  refine ww_imul K dX6_numberOf_8 ?_
  refine ww_iload_n K dX6_numberOf_9 rfl ?_
  refine ww_iadd K dX6_numberOf_10 ?_
  exact ww_iret K dX6_numberOf_11 hr ⟨rfl, rfl⟩
set_option maxRecDepth 100000 in
set_option maxHeartbeats 4000000 in
theorem ct_X6_dayOf (G : EG) (l : Launch) {w : EW} {a b c : Int32} : Ct G l yX6_dayOf cX6_dayOf 3 (some .int) 1 0 0 [eI (a), eI (b), eI (c)] w (fun r w2 => (∃ x : Int32, r = some (eI x) ∧ (w2 = w))) := by
  refine Ct_of (by decide +kernel) (Nat.le_of_ble_eq_true rfl) ?_
  intro p_ e_ s_ m_ a_ b_ t_ c_ K0 hr hin
  have K : wc_C p_ s_ m_ a_ t_ c_ G RX6 cX6_dayOf 3 (w).length := K0
  clear K0
  refine WW_ls (ls2 := [some (eI (a)), some (eI (b)), some (eI (c))]) rfl ?_
  refine ww_iload_n K dX6_dayOf_0 rfl ?_
  refine ww_xS K dX6_dayOf_1 lc_X6_419 (ct_X6_isAmount G l (a := a)) rfl ⟨Nat.le_of_ble_eq_true rfl, Nat.le_of_ble_eq_true rfl⟩ (Nat.le_of_ble_eq_true rfl) (fun z_a w2 hq hln => ?_)
  subst hq
  refine ww_if_eq (tgt := 30) K dX6_dayOf_4 rfl (fun c_4 => ?_) (fun c_4 => ?_)
  · refine ww_iconst (v := (-1)) K dX6_dayOf_30 rfl ?_
    exact ww_iret K dX6_dayOf_31 hr ⟨_, rfl, rfl⟩
  · refine ww_iload_n K dX6_dayOf_7 rfl ?_
    refine ww_xS K dX6_dayOf_8 lc_X6_419 (ct_X6_isAmount G l (a := b)) rfl ⟨Nat.le_of_ble_eq_true rfl, Nat.le_of_ble_eq_true rfl⟩ (Nat.le_of_ble_eq_true rfl) (fun z_b w2 hq hln => ?_)
    subst hq
    refine ww_if_eq (tgt := 30) K dX6_dayOf_11 rfl (fun c_11 => ?_) (fun c_11 => ?_)
    · refine ww_iconst (v := (-1)) K dX6_dayOf_30 rfl ?_
      exact ww_iret K dX6_dayOf_31 hr ⟨_, rfl, rfl⟩
    · refine ww_iload_n K dX6_dayOf_14 rfl ?_
      refine ww_xS K dX6_dayOf_15 lc_X6_419 (ct_X6_isAmount G l (a := c)) rfl ⟨Nat.le_of_ble_eq_true rfl, Nat.le_of_ble_eq_true rfl⟩ (Nat.le_of_ble_eq_true rfl) (fun z_c w2 hq hln => ?_)
      subst hq
      refine ww_if_eq (tgt := 30) K dX6_dayOf_18 rfl (fun c_18 => ?_) (fun c_18 => ?_)
      · refine ww_iconst (v := (-1)) K dX6_dayOf_30 rfl ?_
        exact ww_iret K dX6_dayOf_31 hr ⟨_, rfl, rfl⟩
      · refine ww_iload_n K dX6_dayOf_21 rfl ?_
        refine ww_iload_n K dX6_dayOf_22 rfl ?_
        refine ww_iload_n K dX6_dayOf_23 rfl ?_
        refine ww_cS K dX6_dayOf_24 lc_X6_297 (ct_X6_numberOf G l (a := a) (b := b) (c := c)) rfl ⟨Nat.le_of_ble_eq_true rfl, Nat.le_of_ble_eq_true rfl⟩ (Nat.le_of_ble_eq_true rfl) ?_
        refine ww_goto (tgt := 31) K dX6_dayOf_27 rfl ?_
        exact ww_iret K dX6_dayOf_31 hr ⟨_, rfl, rfl⟩
set_option maxRecDepth 100000 in
set_option maxHeartbeats 4000000 in
theorem ct_X7_isIn (G : EG) (l : Launch) {w : EW} {a b c : Int32} : Ct G l yX7_isIn cX7_isIn 3 (some .boolean) 0 0 0 [eI (a), eI (b), eI (c)] w (fun r w2 => r = some (eI (if a < b then 0 else if c < a then 0 else 1)) ∧ w2 = w) := by
  refine Ct_of (by decide +kernel) (Nat.le_of_ble_eq_true rfl) ?_
  intro p_ e_ s_ m_ a_ b_ t_ c_ K0 hr hin
  have K : wc_C p_ s_ m_ a_ t_ c_ G RX7 cX7_isIn 3 (w).length := K0
  clear K0
  refine WW_ls (ls2 := [some (eI (a)), some (eI (b)), some (eI (c))]) rfl ?_
  refine ww_iload_n K dX7_isIn_0 rfl ?_
  refine ww_iload_n K dX7_isIn_1 rfl ?_
  refine ww_icmp_lt (tgt := 14) K dX7_isIn_2 rfl (fun c_2 => ?_) (fun c_2 => ?_)
  · refine ww_iconst (v := 0) K dX7_isIn_14 rfl ?_
    exact ww_zret K rfl dX7_isIn_15 hr ⟨by first | rw [if_pos c_2] | rw [if_neg c_2, if_pos c_7] | rw [if_neg c_2, if_neg c_7], rfl⟩
  · refine ww_iload_n K dX7_isIn_5 rfl ?_
    refine ww_iload_n K dX7_isIn_6 rfl ?_
    refine ww_icmp_gt (tgt := 14) K dX7_isIn_7 rfl (fun c_7 => ?_) (fun c_7 => ?_)
    · refine ww_iconst (v := 0) K dX7_isIn_14 rfl ?_
      exact ww_zret K rfl dX7_isIn_15 hr ⟨by first | rw [if_pos c_2] | rw [if_neg c_2, if_pos c_7] | rw [if_neg c_2, if_neg c_7], rfl⟩
    · refine ww_iconst (v := 1) K dX7_isIn_10 rfl ?_
      refine ww_goto (tgt := 15) K dX7_isIn_11 rfl ?_
      exact ww_zret K rfl dX7_isIn_15 hr ⟨by first | rw [if_pos c_2] | rw [if_neg c_2, if_pos c_7] | rw [if_neg c_2, if_neg c_7], rfl⟩
end
section
theorem wc_vin {i : Int32} {n : Nat} (h : ¬ (i < 0 ∨ n ≤ i.toNatClampNeg)) : vp_in i n := h
theorem wc_cl_lt {i : Int32} {n : Nat} (h : vp_in i n) : i.toNatClampNeg < n := Nat.not_le.mp fun q => h (Or.inr q)
theorem wc_none (k : Int32) : (if k < 0 then 0 else if (-1) < k then 0 else (1 : Int32)) = 0 := by
  by_cases h : k < 0
  · rw [if_pos h]
  · rw [if_neg h, if_pos]
    have h0 := Int32.not_lt.mp h
    exact Int32.lt_of_lt_of_le (by decide) h0
theorem wc_in_le {i : Int32} {n m : Nat} (h : vp_in i n) (hm : n ≤ m) : vp_in i m := fun q => h (q.imp id (fun z => Nat.le_trans hm z))
set_option maxRecDepth 100000 in
set_option maxHeartbeats 4000000 in
theorem ct_X6_republicAt0 (G : EG) (l : Launch) {w : EW} {ln fl pl : Int32} {cnt : Nat → Int32} (hx : w[0]? = some (cO 6 [eR (1), eR (42), eR (43), eR (56), eR (60), eR (61), eR (62), eR (63)])) (ht : w[1]? = some (cO 5 [eR (2), eI (ln), eI (fl), eI (pl), eR (3), eR (4), eR (5)])) (hc : w[3]? = some (cI 0 6 cnt)) (hz : ∀ k, k < 6 → cnt k = 0) {a : Int32} : Ct G l yX6_republicAt cX6_republicAt 2 (some (.object "WindCabinet$Republic")) 1 0 0 [eR (0), eI (a)] w (fun r w2 => r = some eN ∧ w2 = w) := by
  refine Ct_of (by decide +kernel) (Nat.le_of_ble_eq_true rfl) ?_
  intro p_ e_ s_ m_ a_ b_ t_ c_ K0 hr hin
  have K : wc_C p_ s_ m_ a_ t_ c_ G RX6 cX6_republicAt 2 (w).length := K0
  clear K0
  refine WW_ls (ls2 := [some (eR (0)), some (eI (a))]) rfl ?_
  refine ww_iload_n K dX6_republicAt_0 rfl ?_
  refine ww_if_lt (tgt := 30) K dX6_republicAt_1 rfl (fun c_1 => ?_) (fun c_1 => ?_)
  · refine ww_null K dX6_republicAt_30 ?_
    exact ww_aretN K (Or.inl ⟨_, rfl⟩) dX6_republicAt_31 hr ⟨rfl, rfl⟩
  · refine ww_iload_n K dX6_republicAt_4 rfl ?_
    refine ww_aload_n K dX6_republicAt_5 rfl ?_
    refine ww_get K dX6_republicAt_6 lf_X6_10 hx rfl ?_
    refine ww_get K dX6_republicAt_9 lf_X6_85 ht rfl ?_
    refine ww_iconst (v := 0) K dX6_republicAt_12 rfl ?_
    refine ww_cS K dX6_republicAt_13 lc_X6_88 (ct_X6_cell G l hc (by decide) (i := 0) (wc_vin (by decide))) rfl ⟨Nat.le_of_ble_eq_true rfl, Nat.le_of_ble_eq_true rfl⟩ (Nat.le_of_ble_eq_true rfl) ?_
    rw [show cnt (0 : Int32).toNatClampNeg = 0 from hz 0 (by decide)]
    refine ww_icmp_ge (tgt := 30) K dX6_republicAt_16 rfl (fun _ => ?_) (fun cc_ => absurd (Int32.not_lt.mp c_1) cc_)
    refine ww_null K dX6_republicAt_30 ?_
    exact ww_aretN K (Or.inl ⟨_, rfl⟩) dX6_republicAt_31 hr ⟨rfl, rfl⟩
set_option maxRecDepth 100000 in
set_option maxHeartbeats 4000000 in
theorem ct_X6_rowsAt0 (G : EG) (l : Launch) {w : EW} {ln fl pl : Int32} {cnt : Nat → Int32} (hx : w[0]? = some (cO 6 [eR (1), eR (42), eR (43), eR (56), eR (60), eR (61), eR (62), eR (63)])) (ht : w[1]? = some (cO 5 [eR (2), eI (ln), eI (fl), eI (pl), eR (3), eR (4), eR (5)])) (hc : w[3]? = some (cI 0 6 cnt)) (hz : ∀ k, k < 6 → cnt k = 0) {j a : Int32} (hj : vp_in j 6) : Ct G l yX6_rowsAt cX6_rowsAt 3 (some (.object "WindCabinet$Rows")) 1 0 0 [eR (0), eI (j), eI (a)] w (fun r w2 => r = some eN ∧ w2 = w) := by
  refine Ct_of (by decide +kernel) (Nat.le_of_ble_eq_true rfl) ?_
  intro p_ e_ s_ m_ a_ b_ t_ c_ K0 hr hin
  have K : wc_C p_ s_ m_ a_ t_ c_ G RX6 cX6_rowsAt 3 (w).length := K0
  clear K0
  refine WW_ls (ls2 := [some (eR (0)), some (eI (j)), some (eI (a))]) rfl ?_
  refine ww_iload_n K dX6_rowsAt_0 rfl ?_
  refine ww_if_lt (tgt := 31) K dX6_rowsAt_1 rfl (fun c_1 => ?_) (fun c_1 => ?_)
  · refine ww_null K dX6_rowsAt_31 ?_
    exact ww_aretN K (Or.inl ⟨_, rfl⟩) dX6_rowsAt_32 hr ⟨rfl, rfl⟩
  · refine ww_iload_n K dX6_rowsAt_4 rfl ?_
    refine ww_aload_n K dX6_rowsAt_5 rfl ?_
    refine ww_get K dX6_rowsAt_6 lf_X6_10 hx rfl ?_
    refine ww_get K dX6_rowsAt_9 lf_X6_85 ht rfl ?_
    refine ww_iload_n K dX6_rowsAt_12 rfl ?_
    refine ww_cS K dX6_rowsAt_13 lc_X6_88 (ct_X6_cell G l hc (by decide) (i := j) hj) rfl ⟨Nat.le_of_ble_eq_true rfl, Nat.le_of_ble_eq_true rfl⟩ (Nat.le_of_ble_eq_true rfl) ?_
    rw [show cnt (j : Int32).toNatClampNeg = 0 from hz _ (wc_cl_lt hj)]
    refine ww_icmp_ge (tgt := 31) K dX6_rowsAt_16 rfl (fun _ => ?_) (fun cc_ => absurd (Int32.not_lt.mp c_1) cc_)
    refine ww_null K dX6_rowsAt_31 ?_
    exact ww_aretN K (Or.inl ⟨_, rfl⟩) dX6_rowsAt_32 hr ⟨rfl, rfl⟩
set_option maxRecDepth 100000 in
set_option maxHeartbeats 4000000 in
theorem ct_X6_movedIn0 (G : EG) (l : Launch) {w : EW} {ln fl pl : Int32} {cnt : Nat → Int32} (hx : w[0]? = some (cO 6 [eR (1), eR (42), eR (43), eR (56), eR (60), eR (61), eR (62), eR (63)])) (ht : w[1]? = some (cO 5 [eR (2), eI (ln), eI (fl), eI (pl), eR (3), eR (4), eR (5)])) (hc : w[3]? = some (cI 0 6 cnt)) (hz : ∀ k, k < 6 → cnt k = 0) {a b c d : Int32} : Ct G l yX6_movedIn cX6_movedIn 6 (some (.object "WindCabinet$Republic")) 2 0 0 [eR (0), eI (a), eI (b), eI (c), eI (d)] w (fun r w2 => r = some eN ∧ w2 = w) := by
  refine Ct_of (by decide +kernel) (Nat.le_of_ble_eq_true rfl) ?_
  intro p_ e_ s_ m_ a_ b_ t_ c_ K0 hr hin
  have K : wc_C p_ s_ m_ a_ t_ c_ G RX6 cX6_movedIn 6 (w).length := K0
  clear K0
  refine WW_ls (ls2 := [some (eR (0)), some (eI (a)), some (eI (b)), some (eI (c)), some (eI (d)), none]) rfl ?_
  refine ww_aload_n K dX6_movedIn_0 rfl ?_
  refine ww_iload_n K dX6_movedIn_1 rfl ?_
  refine ww_cV K dX6_movedIn_2 lc_X6_129 hx ⟨_, rfl, rfl⟩ (ct_X6_republicAt0 G l hx ht hc hz (a := a)) rfl ⟨Nat.le_of_ble_eq_true rfl, Nat.le_of_ble_eq_true rfl⟩ (Nat.le_of_ble_eq_true rfl) ?_
  refine ww_astoreN (ls2 := [some (eR (0)), some (eI (a)), some (eI (b)), some (eI (c)), some (eI (d)), some (eN)]) K dX6_movedIn_5 (by decide) rfl ?_
  refine ww_aloadN K dX6_movedIn_7 rfl ?_
  refine ww_ifnullN (tgt := 39) K dX6_movedIn_9 rfl ?_
  refine ww_null K dX6_movedIn_39 ?_
  exact ww_aretN K (Or.inl ⟨_, rfl⟩) dX6_movedIn_40 hr ⟨rfl, rfl⟩
set_option maxRecDepth 100000 in
set_option maxHeartbeats 4000000 in
theorem ct_X6_rowTold0 (G : EG) (l : Launch) {w : EW} {a b c : Int32} : Ct G l yX6_rowTold cX6_rowTold 4 (some .int) 0 0 0 [eN, eI (a), eI (b), eI (c)] w (fun r w2 => r = some (eI (-2)) ∧ w2 = w) := by
  refine Ct_of (by decide +kernel) (Nat.le_of_ble_eq_true rfl) ?_
  intro p_ e_ s_ m_ a_ b_ t_ c_ K0 hr hin
  have K : wc_C p_ s_ m_ a_ t_ c_ G RX6 cX6_rowTold 4 (w).length := K0
  clear K0
  refine WW_ls (ls2 := [some (eN), some (eI (a)), some (eI (b)), some (eI (c))]) rfl ?_
  refine ww_aload_nN K dX6_rowTold_0 rfl ?_
  refine ww_ifnullN (tgt := 13) K dX6_rowTold_1 rfl ?_
  refine ww_bipush (v := (-2)) K dX6_rowTold_13 rfl ?_
  exact ww_iret K dX6_rowTold_15 hr ⟨rfl, rfl⟩
set_option maxRecDepth 100000 in
set_option maxHeartbeats 4000000 in
theorem ct_X6_republic0 (G : EG) (l : Launch) {w : EW} {ln fl pl : Int32} {cnt : Nat → Int32} (hx : w[0]? = some (cO 6 [eR (1), eR (42), eR (43), eR (56), eR (60), eR (61), eR (62), eR (63)])) (ht : w[1]? = some (cO 5 [eR (2), eI (ln), eI (fl), eI (pl), eR (3), eR (4), eR (5)])) (hc : w[3]? = some (cI 0 6 cnt)) (hz : ∀ k, k < 6 → cnt k = 0) {a b : Int32} : Ct G l yX6_republic cX6_republic 4 (some .int) 3 0 0 [eR (0), eI (a), eI (b)] w (fun r w2 => r = some (eI (-1)) ∧ w2 = w) := by
  refine Ct_of (by decide +kernel) (Nat.le_of_ble_eq_true rfl) ?_
  intro p_ e_ s_ m_ a_ b_ t_ c_ K0 hr hin
  have K : wc_C p_ s_ m_ a_ t_ c_ G RX6 cX6_republic 4 (w).length := K0
  clear K0
  refine WW_ls (ls2 := [some (eR (0)), some (eI (a)), some (eI (b)), none]) rfl ?_
  refine ww_aload_n K dX6_republic_0 rfl ?_
  refine ww_iload_n K dX6_republic_1 rfl ?_
  refine ww_cV K dX6_republic_2 lc_X6_129 hx ⟨_, rfl, rfl⟩ (ct_X6_republicAt0 G l hx ht hc hz (a := a)) rfl ⟨Nat.le_of_ble_eq_true rfl, Nat.le_of_ble_eq_true rfl⟩ (Nat.le_of_ble_eq_true rfl) ?_
  refine ww_astore_nN (ls2 := [some (eR (0)), some (eI (a)), some (eI (b)), some (eN)]) K dX6_republic_5 (by decide) rfl ?_
  refine ww_aload_nN K dX6_republic_6 rfl ?_
  refine ww_ifnonnullN K dX6_republic_7 ?_
  refine ww_iconst (v := (-1)) K dX6_republic_10 rfl ?_
  exact ww_iret K dX6_republic_11 hr ⟨rfl, rfl⟩
set_option maxRecDepth 100000 in
set_option maxHeartbeats 4000000 in
theorem ct_X6_minister0 (G : EG) (l : Launch) {w : EW} {ln fl pl : Int32} {cnt : Nat → Int32} (hx : w[0]? = some (cO 6 [eR (1), eR (42), eR (43), eR (56), eR (60), eR (61), eR (62), eR (63)])) (ht : w[1]? = some (cO 5 [eR (2), eI (ln), eI (fl), eI (pl), eR (3), eR (4), eR (5)])) (hc : w[3]? = some (cI 0 6 cnt)) (hz : ∀ k, k < 6 → cnt k = 0) {a b c : Int32} : Ct G l yX6_minister cX6_minister 5 (some .int) 3 0 0 [eR (0), eI (a), eI (b), eI (c)] w (fun r w2 => r = some (eI (-1)) ∧ w2 = w) := by
  refine Ct_of (by decide +kernel) (Nat.le_of_ble_eq_true rfl) ?_
  intro p_ e_ s_ m_ a_ b_ t_ c_ K0 hr hin
  have K : wc_C p_ s_ m_ a_ t_ c_ G RX6 cX6_minister 5 (w).length := K0
  clear K0
  refine WW_ls (ls2 := [some (eR (0)), some (eI (a)), some (eI (b)), some (eI (c)), none]) rfl ?_
  refine ww_aload_n K dX6_minister_0 rfl ?_
  refine ww_iload_n K dX6_minister_1 rfl ?_
  refine ww_cV K dX6_minister_2 lc_X6_129 hx ⟨_, rfl, rfl⟩ (ct_X6_republicAt0 G l hx ht hc hz (a := a)) rfl ⟨Nat.le_of_ble_eq_true rfl, Nat.le_of_ble_eq_true rfl⟩ (Nat.le_of_ble_eq_true rfl) ?_
  refine ww_astoreN (ls2 := [some (eR (0)), some (eI (a)), some (eI (b)), some (eI (c)), some (eN)]) K dX6_minister_5 (by decide) rfl ?_
  refine ww_aloadN K dX6_minister_7 rfl ?_
  refine ww_ifnullN (tgt := 21) K dX6_minister_9 rfl ?_
  refine ww_iconst (v := (-1)) K dX6_minister_21 rfl ?_
  exact ww_iret K dX6_minister_22 hr ⟨rfl, rfl⟩
set_option maxRecDepth 100000 in
set_option maxHeartbeats 4000000 in
theorem ct_X6_off0 (G : EG) (l : Launch) {w : EW} {ln fl pl : Int32} {cnt : Nat → Int32} (hx : w[0]? = some (cO 6 [eR (1), eR (42), eR (43), eR (56), eR (60), eR (61), eR (62), eR (63)])) (ht : w[1]? = some (cO 5 [eR (2), eI (ln), eI (fl), eI (pl), eR (3), eR (4), eR (5)])) (hc : w[3]? = some (cI 0 6 cnt)) (hz : ∀ k, k < 6 → cnt k = 0) {a b c d f g : Int32} : Ct G l yX6_off cX6_off 9 (some .int) 3 0 0 [eR (0), eI (a), eI (b), eI (c), eI (d), eI (f), eI (g)] w (fun r w2 => r = some (eI (-1)) ∧ w2 = w) := by
  refine Ct_of (by decide +kernel) (Nat.le_of_ble_eq_true rfl) ?_
  intro p_ e_ s_ m_ a_ b_ t_ c_ K0 hr hin
  have K : wc_C p_ s_ m_ a_ t_ c_ G RX6 cX6_off 9 (w).length := K0
  clear K0
  refine WW_ls (ls2 := [some (eR (0)), some (eI (a)), some (eI (b)), some (eI (c)), some (eI (d)), some (eI (f)), some (eI (g)), none, none]) rfl ?_
  refine ww_iload K dX6_off_0 rfl ?_
  refine ww_iload K dX6_off_2 rfl ?_
  refine ww_iload K dX6_off_4 rfl ?_
  refine ww_xS K dX6_off_6 lc_X6_196 (ct_X6_dayOf G l (a := d) (b := f) (c := g)) rfl ⟨Nat.le_of_ble_eq_true rfl, Nat.le_of_ble_eq_true rfl⟩ (Nat.le_of_ble_eq_true rfl) (fun dy w2 hq hln => ?_)
  subst hq
  refine ww_istore (ls2 := [some (eR (0)), some (eI (a)), some (eI (b)), some (eI (c)), some (eI (d)), some (eI (f)), some (eI (g)), some (eI (dy)), none]) K dX6_off_9 (by decide) rfl ?_
  refine ww_aload_n K dX6_off_11 rfl ?_
  refine ww_iload_n K dX6_off_12 rfl ?_
  refine ww_iload_n K dX6_off_13 rfl ?_
  refine ww_iload_n K dX6_off_14 rfl ?_
  refine ww_iload K dX6_off_15 rfl ?_
  refine ww_cV K dX6_off_17 lc_X6_200 hx ⟨_, rfl, rfl⟩ (ct_X6_movedIn0 G l hx ht hc hz (a := a) (b := b) (c := c) (d := dy)) rfl ⟨Nat.le_of_ble_eq_true rfl, Nat.le_of_ble_eq_true rfl⟩ (Nat.le_of_ble_eq_true rfl) ?_
  refine ww_astoreN (ls2 := [some (eR (0)), some (eI (a)), some (eI (b)), some (eI (c)), some (eI (d)), some (eI (f)), some (eI (g)), some (eI (dy)), some (eN)]) K dX6_off_20 (by decide) rfl ?_
  refine ww_aloadN K dX6_off_22 rfl ?_
  refine ww_ifnonnullN K dX6_off_24 ?_
  refine ww_iconst (v := (-1)) K dX6_off_27 rfl ?_
  refine ww_goto (tgt := 40) K dX6_off_28 rfl ?_
  exact ww_iret K dX6_off_40 hr ⟨rfl, rfl⟩
set_option maxRecDepth 100000 in
set_option maxHeartbeats 4000000 in
theorem ct_X6_vote0 (G : EG) (l : Launch) {w : EW} {ln fl pl : Int32} {cnt : Nat → Int32} (hx : w[0]? = some (cO 6 [eR (1), eR (42), eR (43), eR (56), eR (60), eR (61), eR (62), eR (63)])) (ht : w[1]? = some (cO 5 [eR (2), eI (ln), eI (fl), eI (pl), eR (3), eR (4), eR (5)])) (hc : w[3]? = some (cI 0 6 cnt)) (hz : ∀ k, k < 6 → cnt k = 0) {a b c d f g h : Int32} : Ct G l yX6_vote cX6_vote 11 (some .int) 3 0 0 [eR (0), eI (a), eI (b), eI (c), eI (d), eI (f), eI (g), eI (h)] w (fun r w2 => r = some (eI (-1)) ∧ w2 = w) := by
  refine Ct_of (by decide +kernel) (Nat.le_of_ble_eq_true rfl) ?_
  intro p_ e_ s_ m_ a_ b_ t_ c_ K0 hr hin
  have K : wc_C p_ s_ m_ a_ t_ c_ G RX6 cX6_vote 11 (w).length := K0
  clear K0
  refine WW_ls (ls2 := [some (eR (0)), some (eI (a)), some (eI (b)), some (eI (c)), some (eI (d)), some (eI (f)), some (eI (g)), some (eI (h)), none, none, none]) rfl ?_
  refine ww_iload K dX6_vote_0 rfl ?_
  refine ww_iload K dX6_vote_2 rfl ?_
  refine ww_iload K dX6_vote_4 rfl ?_
  refine ww_xS K dX6_vote_6 lc_X6_196 (ct_X6_dayOf G l (a := d) (b := f) (c := g)) rfl ⟨Nat.le_of_ble_eq_true rfl, Nat.le_of_ble_eq_true rfl⟩ (Nat.le_of_ble_eq_true rfl) (fun dy w2 hq hln => ?_)
  subst hq
  refine ww_istore (ls2 := [some (eR (0)), some (eI (a)), some (eI (b)), some (eI (c)), some (eI (d)), some (eI (f)), some (eI (g)), some (eI (h)), some (eI (dy)), none, none]) K dX6_vote_9 (by decide) rfl ?_
  refine ww_aload_n K dX6_vote_11 rfl ?_
  refine ww_iload_n K dX6_vote_12 rfl ?_
  refine ww_iload_n K dX6_vote_13 rfl ?_
  refine ww_iload_n K dX6_vote_14 rfl ?_
  refine ww_iload K dX6_vote_15 rfl ?_
  refine ww_cV K dX6_vote_17 lc_X6_200 hx ⟨_, rfl, rfl⟩ (ct_X6_movedIn0 G l hx ht hc hz (a := a) (b := b) (c := c) (d := dy)) rfl ⟨Nat.le_of_ble_eq_true rfl, Nat.le_of_ble_eq_true rfl⟩ (Nat.le_of_ble_eq_true rfl) ?_
  refine ww_astoreN (ls2 := [some (eR (0)), some (eI (a)), some (eI (b)), some (eI (c)), some (eI (d)), some (eI (f)), some (eI (g)), some (eI (h)), some (eI (dy)), some (eN), none]) K dX6_vote_20 (by decide) rfl ?_
  refine ww_aloadN K dX6_vote_22 rfl ?_
  refine ww_ifnonnullN K dX6_vote_24 ?_
  refine ww_iconst (v := (-1)) K dX6_vote_27 rfl ?_
  exact ww_iret K dX6_vote_28 hr ⟨rfl, rfl⟩
set_option maxRecDepth 100000 in
set_option maxHeartbeats 4000000 in
theorem ct_X6_order0 (G : EG) (l : Launch) {w : EW} {ln fl pl : Int32} {cnt : Nat → Int32} (hx : w[0]? = some (cO 6 [eR (1), eR (42), eR (43), eR (56), eR (60), eR (61), eR (62), eR (63)])) (ht : w[1]? = some (cO 5 [eR (2), eI (ln), eI (fl), eI (pl), eR (3), eR (4), eR (5)])) (hc : w[3]? = some (cI 0 6 cnt)) (hz : ∀ k, k < 6 → cnt k = 0) {a b c : Int32} : Ct G l yX6_order cX6_order 4 (some .int) 3 0 0 [eR (0), eI (a), eI (b), eI (c)] w (fun r w2 => r = some (eI (-2)) ∧ w2 = w) := by
  refine Ct_of (by decide +kernel) (Nat.le_of_ble_eq_true rfl) ?_
  intro p_ e_ s_ m_ a_ b_ t_ c_ K0 hr hin
  have K : wc_C p_ s_ m_ a_ t_ c_ G RX6 cX6_order 4 (w).length := K0
  clear K0
  refine WW_ls (ls2 := [some (eR (0)), some (eI (a)), some (eI (b)), some (eI (c))]) rfl ?_
  refine ww_aload_n K dX6_order_0 rfl ?_
  refine ww_iconst (v := 1) K dX6_order_1 rfl ?_
  refine ww_iload_n K dX6_order_2 rfl ?_
  refine ww_cV K dX6_order_3 lc_X6_182 hx ⟨_, rfl, rfl⟩ (ct_X6_rowsAt0 G l hx ht hc hz (j := 1) (a := a) (wc_vin (by decide))) rfl ⟨Nat.le_of_ble_eq_true rfl, Nat.le_of_ble_eq_true rfl⟩ (Nat.le_of_ble_eq_true rfl) ?_
  refine ww_iload_n K dX6_order_6 rfl ?_
  refine ww_iload_n K dX6_order_7 rfl ?_
  refine ww_iconst (v := 5) K dX6_order_8 rfl ?_
  refine ww_cS K dX6_order_9 lc_X6_185 (ct_X6_rowTold0 G l (a := b) (b := c) (c := 5)) rfl ⟨Nat.le_of_ble_eq_true rfl, Nat.le_of_ble_eq_true rfl⟩ (Nat.le_of_ble_eq_true rfl) ?_
  exact ww_iret K dX6_order_12 hr ⟨rfl, rfl⟩
set_option maxRecDepth 100000 in
set_option maxHeartbeats 4000000 in
theorem ct_X6_broken0 (G : EG) (l : Launch) {w : EW} {ln fl pl : Int32} {cnt : Nat → Int32} (hx : w[0]? = some (cO 6 [eR (1), eR (42), eR (43), eR (56), eR (60), eR (61), eR (62), eR (63)])) (ht : w[1]? = some (cO 5 [eR (2), eI (ln), eI (fl), eI (pl), eR (3), eR (4), eR (5)])) (hc : w[3]? = some (cI 0 6 cnt)) (hz : ∀ k, k < 6 → cnt k = 0) {a b c d f g : Int32} : Ct G l yX6_broken cX6_broken 9 (some .int) 3 0 0 [eR (0), eI (a), eI (b), eI (c), eI (d), eI (f), eI (g)] w (fun r w2 => r = some (eI (-1)) ∧ w2 = w) := by
  refine Ct_of (by decide +kernel) (Nat.le_of_ble_eq_true rfl) ?_
  intro p_ e_ s_ m_ a_ b_ t_ c_ K0 hr hin
  have K : wc_C p_ s_ m_ a_ t_ c_ G RX6 cX6_broken 9 (w).length := K0
  clear K0
  refine WW_ls (ls2 := [some (eR (0)), some (eI (a)), some (eI (b)), some (eI (c)), some (eI (d)), some (eI (f)), some (eI (g)), none, none]) rfl ?_
  refine ww_aload_n K dX6_broken_0 rfl ?_
  refine ww_iconst (v := 1) K dX6_broken_1 rfl ?_
  refine ww_iload_n K dX6_broken_2 rfl ?_
  refine ww_cV K dX6_broken_3 lc_X6_182 hx ⟨_, rfl, rfl⟩ (ct_X6_rowsAt0 G l hx ht hc hz (j := 1) (a := a) (wc_vin (by decide))) rfl ⟨Nat.le_of_ble_eq_true rfl, Nat.le_of_ble_eq_true rfl⟩ (Nat.le_of_ble_eq_true rfl) ?_
  refine ww_astoreN (ls2 := [some (eR (0)), some (eI (a)), some (eI (b)), some (eI (c)), some (eI (d)), some (eI (f)), some (eI (g)), some (eN), none]) K dX6_broken_6 (by decide) rfl ?_
  refine ww_iload_n K dX6_broken_8 rfl ?_
  refine ww_iload K dX6_broken_9 rfl ?_
  refine ww_iload K dX6_broken_11 rfl ?_
  refine ww_xS K dX6_broken_13 lc_X6_196 (ct_X6_dayOf G l (a := c) (b := d) (c := f)) rfl ⟨Nat.le_of_ble_eq_true rfl, Nat.le_of_ble_eq_true rfl⟩ (Nat.le_of_ble_eq_true rfl) (fun dy w2 hq hln => ?_)
  subst hq
  refine ww_istore (ls2 := [some (eR (0)), some (eI (a)), some (eI (b)), some (eI (c)), some (eI (d)), some (eI (f)), some (eI (g)), some (eN), some (eI (dy))]) K dX6_broken_16 (by decide) rfl ?_
  refine ww_aloadN K dX6_broken_18 rfl ?_
  refine ww_ifnullN (tgt := 50) K dX6_broken_20 rfl ?_
  refine ww_iconst (v := (-1)) K dX6_broken_50 rfl ?_
  exact ww_iret K dX6_broken_51 hr ⟨rfl, rfl⟩
set_option maxRecDepth 100000 in
set_option maxHeartbeats 4000000 in
theorem ct_X6_deed0 (G : EG) (l : Launch) {w : EW} {ln fl pl : Int32} {cnt : Nat → Int32} (hx : w[0]? = some (cO 6 [eR (1), eR (42), eR (43), eR (56), eR (60), eR (61), eR (62), eR (63)])) (ht : w[1]? = some (cO 5 [eR (2), eI (ln), eI (fl), eI (pl), eR (3), eR (4), eR (5)])) (hc : w[3]? = some (cI 0 6 cnt)) (hz : ∀ k, k < 6 → cnt k = 0) {a b c : Int32} : Ct G l yX6_deed cX6_deed 4 (some .int) 3 0 0 [eR (0), eI (a), eI (b), eI (c)] w (fun r w2 => r = some (eI (-2)) ∧ w2 = w) := by
  refine Ct_of (by decide +kernel) (Nat.le_of_ble_eq_true rfl) ?_
  intro p_ e_ s_ m_ a_ b_ t_ c_ K0 hr hin
  have K : wc_C p_ s_ m_ a_ t_ c_ G RX6 cX6_deed 4 (w).length := K0
  clear K0
  refine WW_ls (ls2 := [some (eR (0)), some (eI (a)), some (eI (b)), some (eI (c))]) rfl ?_
  refine ww_aload_n K dX6_deed_0 rfl ?_
  refine ww_iconst (v := 2) K dX6_deed_1 rfl ?_
  refine ww_iload_n K dX6_deed_2 rfl ?_
  refine ww_cV K dX6_deed_3 lc_X6_182 hx ⟨_, rfl, rfl⟩ (ct_X6_rowsAt0 G l hx ht hc hz (j := 2) (a := a) (wc_vin (by decide))) rfl ⟨Nat.le_of_ble_eq_true rfl, Nat.le_of_ble_eq_true rfl⟩ (Nat.le_of_ble_eq_true rfl) ?_
  refine ww_iload_n K dX6_deed_6 rfl ?_
  refine ww_iload_n K dX6_deed_7 rfl ?_
  refine ww_iconst (v := 5) K dX6_deed_8 rfl ?_
  refine ww_cS K dX6_deed_9 lc_X6_185 (ct_X6_rowTold0 G l (a := b) (b := c) (c := 5)) rfl ⟨Nat.le_of_ble_eq_true rfl, Nat.le_of_ble_eq_true rfl⟩ (Nat.le_of_ble_eq_true rfl) ?_
  exact ww_iret K dX6_deed_12 hr ⟨rfl, rfl⟩
set_option maxRecDepth 100000 in
set_option maxHeartbeats 4000000 in
theorem ct_X6_stop0 (G : EG) (l : Launch) {w : EW} {ln fl pl : Int32} {cnt : Nat → Int32} (hx : w[0]? = some (cO 6 [eR (1), eR (42), eR (43), eR (56), eR (60), eR (61), eR (62), eR (63)])) (ht : w[1]? = some (cO 5 [eR (2), eI (ln), eI (fl), eI (pl), eR (3), eR (4), eR (5)])) (hc : w[3]? = some (cI 0 6 cnt)) (hz : ∀ k, k < 6 → cnt k = 0) {a b c : Int32} : Ct G l yX6_stop cX6_stop 7 (some .int) 3 0 0 [eR (0), eI (a), eI (b), eI (c)] w (fun r w2 => r = some (eI (-1)) ∧ w2 = w) := by
  refine Ct_of (by decide +kernel) (Nat.le_of_ble_eq_true rfl) ?_
  intro p_ e_ s_ m_ a_ b_ t_ c_ K0 hr hin
  have K : wc_C p_ s_ m_ a_ t_ c_ G RX6 cX6_stop 7 (w).length := K0
  clear K0
  refine WW_ls (ls2 := [some (eR (0)), some (eI (a)), some (eI (b)), some (eI (c)), none, none, none]) rfl ?_
  refine ww_aload_n K dX6_stop_0 rfl ?_
  refine ww_iload_n K dX6_stop_1 rfl ?_
  refine ww_cV K dX6_stop_2 lc_X6_129 hx ⟨_, rfl, rfl⟩ (ct_X6_republicAt0 G l hx ht hc hz (a := a)) rfl ⟨Nat.le_of_ble_eq_true rfl, Nat.le_of_ble_eq_true rfl⟩ (Nat.le_of_ble_eq_true rfl) ?_
  refine ww_astoreN (ls2 := [some (eR (0)), some (eI (a)), some (eI (b)), some (eI (c)), some (eN), none, none]) K dX6_stop_5 (by decide) rfl ?_
  refine ww_aload_n K dX6_stop_7 rfl ?_
  refine ww_iconst (v := 1) K dX6_stop_8 rfl ?_
  refine ww_iload_n K dX6_stop_9 rfl ?_
  refine ww_cV K dX6_stop_10 lc_X6_182 hx ⟨_, rfl, rfl⟩ (ct_X6_rowsAt0 G l hx ht hc hz (j := 1) (a := b) (wc_vin (by decide))) rfl ⟨Nat.le_of_ble_eq_true rfl, Nat.le_of_ble_eq_true rfl⟩ (Nat.le_of_ble_eq_true rfl) ?_
  refine ww_astoreN (ls2 := [some (eR (0)), some (eI (a)), some (eI (b)), some (eI (c)), some (eN), some (eN), none]) K dX6_stop_13 (by decide) rfl ?_
  refine ww_aload_n K dX6_stop_15 rfl ?_
  refine ww_iconst (v := 2) K dX6_stop_16 rfl ?_
  refine ww_iload_n K dX6_stop_17 rfl ?_
  refine ww_cV K dX6_stop_18 lc_X6_182 hx ⟨_, rfl, rfl⟩ (ct_X6_rowsAt0 G l hx ht hc hz (j := 2) (a := c) (wc_vin (by decide))) rfl ⟨Nat.le_of_ble_eq_true rfl, Nat.le_of_ble_eq_true rfl⟩ (Nat.le_of_ble_eq_true rfl) ?_
  refine ww_astoreN (ls2 := [some (eR (0)), some (eI (a)), some (eI (b)), some (eI (c)), some (eN), some (eN), some (eN)]) K dX6_stop_21 (by decide) rfl ?_
  refine ww_aloadN K dX6_stop_23 rfl ?_
  refine ww_ifnullN (tgt := 38) K dX6_stop_25 rfl ?_
  refine ww_iconst (v := (-1)) K dX6_stop_38 rfl ?_
  exact ww_iret K dX6_stop_39 hr ⟨rfl, rfl⟩
set_option maxRecDepth 100000 in
set_option maxHeartbeats 4000000 in
theorem ct_X6_state0 (G : EG) (l : Launch) {w : EW} {ln fl pl : Int32} {cnt : Nat → Int32} (hx : w[0]? = some (cO 6 [eR (1), eR (42), eR (43), eR (56), eR (60), eR (61), eR (62), eR (63)])) (ht : w[1]? = some (cO 5 [eR (2), eI (ln), eI (fl), eI (pl), eR (3), eR (4), eR (5)])) (hc : w[3]? = some (cI 0 6 cnt)) (hz : ∀ k, k < 6 → cnt k = 0) {a b c d f : Int32} : Ct G l yX6_state cX6_state 9 (some .int) 3 0 0 [eR (0), eI (a), eI (b), eI (c), eI (d), eI (f)] w (fun r w2 => r = some (eI (-2)) ∧ w2 = w) := by
  refine Ct_of (by decide +kernel) (Nat.le_of_ble_eq_true rfl) ?_
  intro p_ e_ s_ m_ a_ b_ t_ c_ K0 hr hin
  have K : wc_C p_ s_ m_ a_ t_ c_ G RX6 cX6_state 9 (w).length := K0
  clear K0
  refine WW_ls (ls2 := [some (eR (0)), some (eI (a)), some (eI (b)), some (eI (c)), some (eI (d)), some (eI (f)), none, none, none]) rfl ?_
  refine ww_aload_n K dX6_state_0 rfl ?_
  refine ww_iload_n K dX6_state_1 rfl ?_
  refine ww_cV K dX6_state_2 lc_X6_129 hx ⟨_, rfl, rfl⟩ (ct_X6_republicAt0 G l hx ht hc hz (a := a)) rfl ⟨Nat.le_of_ble_eq_true rfl, Nat.le_of_ble_eq_true rfl⟩ (Nat.le_of_ble_eq_true rfl) ?_
  refine ww_astoreN (ls2 := [some (eR (0)), some (eI (a)), some (eI (b)), some (eI (c)), some (eI (d)), some (eI (f)), some (eN), none, none]) K dX6_state_5 (by decide) rfl ?_
  refine ww_aload_n K dX6_state_7 rfl ?_
  refine ww_iconst (v := 1) K dX6_state_8 rfl ?_
  refine ww_iload_n K dX6_state_9 rfl ?_
  refine ww_cV K dX6_state_10 lc_X6_182 hx ⟨_, rfl, rfl⟩ (ct_X6_rowsAt0 G l hx ht hc hz (j := 1) (a := b) (wc_vin (by decide))) rfl ⟨Nat.le_of_ble_eq_true rfl, Nat.le_of_ble_eq_true rfl⟩ (Nat.le_of_ble_eq_true rfl) ?_
  refine ww_astoreN (ls2 := [some (eR (0)), some (eI (a)), some (eI (b)), some (eI (c)), some (eI (d)), some (eI (f)), some (eN), some (eN), none]) K dX6_state_13 (by decide) rfl ?_
  refine ww_aload_n K dX6_state_15 rfl ?_
  refine ww_iconst (v := 2) K dX6_state_16 rfl ?_
  refine ww_iload_n K dX6_state_17 rfl ?_
  refine ww_cV K dX6_state_18 lc_X6_182 hx ⟨_, rfl, rfl⟩ (ct_X6_rowsAt0 G l hx ht hc hz (j := 2) (a := c) (wc_vin (by decide))) rfl ⟨Nat.le_of_ble_eq_true rfl, Nat.le_of_ble_eq_true rfl⟩ (Nat.le_of_ble_eq_true rfl) ?_
  refine ww_astoreN (ls2 := [some (eR (0)), some (eI (a)), some (eI (b)), some (eI (c)), some (eI (d)), some (eI (f)), some (eN), some (eN), some (eN)]) K dX6_state_21 (by decide) rfl ?_
  refine ww_aloadN K dX6_state_23 rfl ?_
  refine ww_ifnullN (tgt := 53) K dX6_state_25 rfl ?_
  refine ww_bipush (v := (-2)) K dX6_state_53 rfl ?_
  exact ww_iret K dX6_state_55 hr ⟨rfl, rfl⟩
set_option maxRecDepth 100000 in
set_option maxHeartbeats 4000000 in
theorem ct_X6_agreed0 (G : EG) (l : Launch) {w : EW} {ln fl pl : Int32} {cnt : Nat → Int32} (hx : w[0]? = some (cO 6 [eR (1), eR (42), eR (43), eR (56), eR (60), eR (61), eR (62), eR (63)])) (ht : w[1]? = some (cO 5 [eR (2), eI (ln), eI (fl), eI (pl), eR (3), eR (4), eR (5)])) (hc : w[3]? = some (cI 0 6 cnt)) (hz : ∀ k, k < 6 → cnt k = 0) {a b c d f : Int32} : Ct G l yX6_agreed cX6_agreed 8 (some .int) 3 0 0 [eR (0), eI (a), eI (b), eI (c), eI (d), eI (f)] w (fun r w2 => r = some (eI (-2)) ∧ w2 = w) := by
  refine Ct_of (by decide +kernel) (Nat.le_of_ble_eq_true rfl) ?_
  intro p_ e_ s_ m_ a_ b_ t_ c_ K0 hr hin
  have K : wc_C p_ s_ m_ a_ t_ c_ G RX6 cX6_agreed 8 (w).length := K0
  clear K0
  refine WW_ls (ls2 := [some (eR (0)), some (eI (a)), some (eI (b)), some (eI (c)), some (eI (d)), some (eI (f)), none, none]) rfl ?_
  refine ww_aload_n K dX6_agreed_0 rfl ?_
  refine ww_iload_n K dX6_agreed_1 rfl ?_
  refine ww_iload_n K dX6_agreed_2 rfl ?_
  refine ww_iload K dX6_agreed_3 rfl ?_
  refine ww_iconst (v := 0) K dX6_agreed_5 rfl ?_
  refine ww_cV K dX6_agreed_6 lc_X6_200 hx ⟨_, rfl, rfl⟩ (ct_X6_movedIn0 G l hx ht hc hz (a := a) (b := c) (c := d) (d := 0)) rfl ⟨Nat.le_of_ble_eq_true rfl, Nat.le_of_ble_eq_true rfl⟩ (Nat.le_of_ble_eq_true rfl) ?_
  refine ww_astoreN (ls2 := [some (eR (0)), some (eI (a)), some (eI (b)), some (eI (c)), some (eI (d)), some (eI (f)), some (eN), none]) K dX6_agreed_9 (by decide) rfl ?_
  refine ww_aload_n K dX6_agreed_11 rfl ?_
  refine ww_iconst (v := 1) K dX6_agreed_12 rfl ?_
  refine ww_iload_n K dX6_agreed_13 rfl ?_
  refine ww_cV K dX6_agreed_14 lc_X6_182 hx ⟨_, rfl, rfl⟩ (ct_X6_rowsAt0 G l hx ht hc hz (j := 1) (a := b) (wc_vin (by decide))) rfl ⟨Nat.le_of_ble_eq_true rfl, Nat.le_of_ble_eq_true rfl⟩ (Nat.le_of_ble_eq_true rfl) ?_
  refine ww_astoreN (ls2 := [some (eR (0)), some (eI (a)), some (eI (b)), some (eI (c)), some (eI (d)), some (eI (f)), some (eN), some (eN)]) K dX6_agreed_17 (by decide) rfl ?_
  refine ww_aloadN K dX6_agreed_19 rfl ?_
  refine ww_ifnullN (tgt := 34) K dX6_agreed_21 rfl ?_
  refine ww_bipush (v := (-2)) K dX6_agreed_34 rfl ?_
  exact ww_iret K dX6_agreed_36 hr ⟨rfl, rfl⟩
set_option maxRecDepth 100000 in
set_option maxHeartbeats 4000000 in
theorem ct_X6_power0 (G : EG) (l : Launch) {w : EW} {ln fl pl : Int32} {cnt : Nat → Int32} (hx : w[0]? = some (cO 6 [eR (1), eR (42), eR (43), eR (56), eR (60), eR (61), eR (62), eR (63)])) (ht : w[1]? = some (cO 5 [eR (2), eI (ln), eI (fl), eI (pl), eR (3), eR (4), eR (5)])) (hc : w[3]? = some (cI 0 6 cnt)) (hz : ∀ k, k < 6 → cnt k = 0) {a b c : Int32} : Ct G l yX6_power cX6_power 5 (some .int) 3 0 0 [eR (0), eI (a), eI (b), eI (c)] w (fun r w2 => r = some (eI (-1)) ∧ w2 = w) := by
  refine Ct_of (by decide +kernel) (Nat.le_of_ble_eq_true rfl) ?_
  intro p_ e_ s_ m_ a_ b_ t_ c_ K0 hr hin
  have K : wc_C p_ s_ m_ a_ t_ c_ G RX6 cX6_power 5 (w).length := K0
  clear K0
  refine WW_ls (ls2 := [some (eR (0)), some (eI (a)), some (eI (b)), some (eI (c)), none]) rfl ?_
  refine ww_aload_n K dX6_power_0 rfl ?_
  refine ww_iload_n K dX6_power_1 rfl ?_
  refine ww_cV K dX6_power_2 lc_X6_129 hx ⟨_, rfl, rfl⟩ (ct_X6_republicAt0 G l hx ht hc hz (a := a)) rfl ⟨Nat.le_of_ble_eq_true rfl, Nat.le_of_ble_eq_true rfl⟩ (Nat.le_of_ble_eq_true rfl) ?_
  refine ww_astoreN (ls2 := [some (eR (0)), some (eI (a)), some (eI (b)), some (eI (c)), some (eN)]) K dX6_power_5 (by decide) rfl ?_
  refine ww_aloadN K dX6_power_7 rfl ?_
  refine ww_ifnullN (tgt := 21) K dX6_power_9 rfl ?_
  refine ww_iconst (v := (-1)) K dX6_power_21 rfl ?_
  exact ww_iret K dX6_power_22 hr ⟨rfl, rfl⟩
set_option maxRecDepth 100000 in
set_option maxHeartbeats 4000000 in
theorem ct_X6_coalition0 (G : EG) (l : Launch) {w : EW} {ln fl pl : Int32} {cnt : Nat → Int32} (hx : w[0]? = some (cO 6 [eR (1), eR (42), eR (43), eR (56), eR (60), eR (61), eR (62), eR (63)])) (ht : w[1]? = some (cO 5 [eR (2), eI (ln), eI (fl), eI (pl), eR (3), eR (4), eR (5)])) (hc : w[3]? = some (cI 0 6 cnt)) (hz : ∀ k, k < 6 → cnt k = 0) {a b : Int32} : Ct G l yX6_coalition cX6_coalition 4 (some .int) 3 0 0 [eR (0), eI (a), eI (b)] w (fun r w2 => r = some (eI (-3)) ∧ w2 = w) := by
  refine Ct_of (by decide +kernel) (Nat.le_of_ble_eq_true rfl) ?_
  intro p_ e_ s_ m_ a_ b_ t_ c_ K0 hr hin
  have K : wc_C p_ s_ m_ a_ t_ c_ G RX6 cX6_coalition 4 (w).length := K0
  clear K0
  refine WW_ls (ls2 := [some (eR (0)), some (eI (a)), some (eI (b)), none]) rfl ?_
  refine ww_aload_n K dX6_coalition_0 rfl ?_
  refine ww_iload_n K dX6_coalition_1 rfl ?_
  refine ww_cV K dX6_coalition_2 lc_X6_129 hx ⟨_, rfl, rfl⟩ (ct_X6_republicAt0 G l hx ht hc hz (a := a)) rfl ⟨Nat.le_of_ble_eq_true rfl, Nat.le_of_ble_eq_true rfl⟩ (Nat.le_of_ble_eq_true rfl) ?_
  refine ww_astore_nN (ls2 := [some (eR (0)), some (eI (a)), some (eI (b)), some (eN)]) K dX6_coalition_5 (by decide) rfl ?_
  refine ww_aload_nN K dX6_coalition_6 rfl ?_
  refine ww_ifnullN (tgt := 16) K dX6_coalition_7 rfl ?_
  refine ww_bipush (v := (-3)) K dX6_coalition_16 rfl ?_
  exact ww_iret K dX6_coalition_18 hr ⟨rfl, rfl⟩
set_option maxRecDepth 100000 in
set_option maxHeartbeats 4000000 in
theorem ct_X6_bribe0 (G : EG) (l : Launch) {w : EW} {ln fl pl : Int32} {cnt : Nat → Int32} (hx : w[0]? = some (cO 6 [eR (1), eR (42), eR (43), eR (56), eR (60), eR (61), eR (62), eR (63)])) (ht : w[1]? = some (cO 5 [eR (2), eI (ln), eI (fl), eI (pl), eR (3), eR (4), eR (5)])) (hc : w[3]? = some (cI 0 6 cnt)) (hz : ∀ k, k < 6 → cnt k = 0) {a b c d f g h : Int32} : Ct G l yX6_bribe cX6_bribe 15 (some .int) 3 0 0 [eR (0), eI (a), eI (b), eI (c), eI (d), eI (f), eI (g), eI (h)] w (fun r w2 => r = some (eI (-1)) ∧ w2 = w) := by
  refine Ct_of (by decide +kernel) (Nat.le_of_ble_eq_true rfl) ?_
  intro p_ e_ s_ m_ a_ b_ t_ c_ K0 hr hin
  have K : wc_C p_ s_ m_ a_ t_ c_ G RX6 cX6_bribe 15 (w).length := K0
  clear K0
  refine WW_ls (ls2 := [some (eR (0)), some (eI (a)), some (eI (b)), some (eI (c)), some (eI (d)), some (eI (f)), some (eI (g)), some (eI (h)), none, none, none, none, none, none, none]) rfl ?_
  refine ww_iload K dX6_bribe_0 rfl ?_
  refine ww_iload K dX6_bribe_2 rfl ?_
  refine ww_iload K dX6_bribe_4 rfl ?_
  refine ww_xS K dX6_bribe_6 lc_X6_196 (ct_X6_dayOf G l (a := d) (b := f) (c := g)) rfl ⟨Nat.le_of_ble_eq_true rfl, Nat.le_of_ble_eq_true rfl⟩ (Nat.le_of_ble_eq_true rfl) (fun dy w2 hq hln => ?_)
  subst hq
  refine ww_istore (ls2 := [some (eR (0)), some (eI (a)), some (eI (b)), some (eI (c)), some (eI (d)), some (eI (f)), some (eI (g)), some (eI (h)), some (eI (dy)), none, none, none, none, none, none]) K dX6_bribe_9 (by decide) rfl ?_
  refine ww_aload_n K dX6_bribe_11 rfl ?_
  refine ww_iload_n K dX6_bribe_12 rfl ?_
  refine ww_iload_n K dX6_bribe_13 rfl ?_
  refine ww_iload_n K dX6_bribe_14 rfl ?_
  refine ww_iload K dX6_bribe_15 rfl ?_
  refine ww_cV K dX6_bribe_17 lc_X6_200 hx ⟨_, rfl, rfl⟩ (ct_X6_movedIn0 G l hx ht hc hz (a := a) (b := b) (c := c) (d := dy)) rfl ⟨Nat.le_of_ble_eq_true rfl, Nat.le_of_ble_eq_true rfl⟩ (Nat.le_of_ble_eq_true rfl) ?_
  refine ww_astoreN (ls2 := [some (eR (0)), some (eI (a)), some (eI (b)), some (eI (c)), some (eI (d)), some (eI (f)), some (eI (g)), some (eI (h)), some (eI (dy)), some (eN), none, none, none, none, none]) K dX6_bribe_20 (by decide) rfl ?_
  refine ww_aloadN K dX6_bribe_22 rfl ?_
  refine ww_ifnonnullN K dX6_bribe_24 ?_
  refine ww_iconst (v := (-1)) K dX6_bribe_27 rfl ?_
  exact ww_iret K dX6_bribe_28 hr ⟨rfl, rfl⟩
set_option maxRecDepth 100000 in
set_option maxHeartbeats 4000000 in
theorem ct_X6_lobby0 (G : EG) (l : Launch) {w : EW} {ln fl pl : Int32} {cnt : Nat → Int32} (hx : w[0]? = some (cO 6 [eR (1), eR (42), eR (43), eR (56), eR (60), eR (61), eR (62), eR (63)])) (ht : w[1]? = some (cO 5 [eR (2), eI (ln), eI (fl), eI (pl), eR (3), eR (4), eR (5)])) (hc : w[3]? = some (cI 0 6 cnt)) (hz : ∀ k, k < 6 → cnt k = 0) {a b c d f g h : Int32} : Ct G l yX6_lobby cX6_lobby 14 (some .int) 3 0 0 [eR (0), eI (a), eI (b), eI (c), eI (d), eI (f), eI (g), eI (h)] w (fun r w2 => r = some (eI (-1)) ∧ w2 = w) := by
  refine Ct_of (by decide +kernel) (Nat.le_of_ble_eq_true rfl) ?_
  intro p_ e_ s_ m_ a_ b_ t_ c_ K0 hr hin
  have K : wc_C p_ s_ m_ a_ t_ c_ G RX6 cX6_lobby 14 (w).length := K0
  clear K0
  refine WW_ls (ls2 := [some (eR (0)), some (eI (a)), some (eI (b)), some (eI (c)), some (eI (d)), some (eI (f)), some (eI (g)), some (eI (h)), none, none, none, none, none, none]) rfl ?_
  refine ww_iload K dX6_lobby_0 rfl ?_
  refine ww_iload K dX6_lobby_2 rfl ?_
  refine ww_iload K dX6_lobby_4 rfl ?_
  refine ww_xS K dX6_lobby_6 lc_X6_196 (ct_X6_dayOf G l (a := d) (b := f) (c := g)) rfl ⟨Nat.le_of_ble_eq_true rfl, Nat.le_of_ble_eq_true rfl⟩ (Nat.le_of_ble_eq_true rfl) (fun dy w2 hq hln => ?_)
  subst hq
  refine ww_istore (ls2 := [some (eR (0)), some (eI (a)), some (eI (b)), some (eI (c)), some (eI (d)), some (eI (f)), some (eI (g)), some (eI (h)), some (eI (dy)), none, none, none, none, none]) K dX6_lobby_9 (by decide) rfl ?_
  refine ww_aload_n K dX6_lobby_11 rfl ?_
  refine ww_iload_n K dX6_lobby_12 rfl ?_
  refine ww_iload_n K dX6_lobby_13 rfl ?_
  refine ww_iload_n K dX6_lobby_14 rfl ?_
  refine ww_iload K dX6_lobby_15 rfl ?_
  refine ww_cV K dX6_lobby_17 lc_X6_200 hx ⟨_, rfl, rfl⟩ (ct_X6_movedIn0 G l hx ht hc hz (a := a) (b := b) (c := c) (d := dy)) rfl ⟨Nat.le_of_ble_eq_true rfl, Nat.le_of_ble_eq_true rfl⟩ (Nat.le_of_ble_eq_true rfl) ?_
  refine ww_astoreN (ls2 := [some (eR (0)), some (eI (a)), some (eI (b)), some (eI (c)), some (eI (d)), some (eI (f)), some (eI (g)), some (eI (h)), some (eI (dy)), some (eN), none, none, none, none]) K dX6_lobby_20 (by decide) rfl ?_
  refine ww_aloadN K dX6_lobby_22 rfl ?_
  refine ww_ifnonnullN K dX6_lobby_24 ?_
  refine ww_iconst (v := (-1)) K dX6_lobby_27 rfl ?_
  exact ww_iret K dX6_lobby_28 hr ⟨rfl, rfl⟩
set_option maxRecDepth 100000 in
set_option maxHeartbeats 4000000 in
theorem ct_X6_bargain0 (G : EG) (l : Launch) {w : EW} {ln fl pl : Int32} {cnt : Nat → Int32} (hx : w[0]? = some (cO 6 [eR (1), eR (42), eR (43), eR (56), eR (60), eR (61), eR (62), eR (63)])) (ht : w[1]? = some (cO 5 [eR (2), eI (ln), eI (fl), eI (pl), eR (3), eR (4), eR (5)])) (hc : w[3]? = some (cI 0 6 cnt)) (hz : ∀ k, k < 6 → cnt k = 0) {a b c : Int32} : Ct G l yX6_bargain cX6_bargain 6 (some .int) 3 0 0 [eR (0), eI (a), eI (b), eI (c)] w (fun r w2 => r = some (eI (-2)) ∧ w2 = w) := by
  refine Ct_of (by decide +kernel) (Nat.le_of_ble_eq_true rfl) ?_
  intro p_ e_ s_ m_ a_ b_ t_ c_ K0 hr hin
  have K : wc_C p_ s_ m_ a_ t_ c_ G RX6 cX6_bargain 6 (w).length := K0
  clear K0
  refine WW_ls (ls2 := [some (eR (0)), some (eI (a)), some (eI (b)), some (eI (c)), none, none]) rfl ?_
  refine ww_aload_n K dX6_bargain_0 rfl ?_
  refine ww_iload_n K dX6_bargain_1 rfl ?_
  refine ww_cV K dX6_bargain_2 lc_X6_129 hx ⟨_, rfl, rfl⟩ (ct_X6_republicAt0 G l hx ht hc hz (a := a)) rfl ⟨Nat.le_of_ble_eq_true rfl, Nat.le_of_ble_eq_true rfl⟩ (Nat.le_of_ble_eq_true rfl) ?_
  refine ww_astoreN (ls2 := [some (eR (0)), some (eI (a)), some (eI (b)), some (eI (c)), some (eN), none]) K dX6_bargain_5 (by decide) rfl ?_
  refine ww_aload_n K dX6_bargain_7 rfl ?_
  refine ww_iconst (v := 5) K dX6_bargain_8 rfl ?_
  refine ww_iload_n K dX6_bargain_9 rfl ?_
  refine ww_cV K dX6_bargain_10 lc_X6_182 hx ⟨_, rfl, rfl⟩ (ct_X6_rowsAt0 G l hx ht hc hz (j := 5) (a := b) (wc_vin (by decide))) rfl ⟨Nat.le_of_ble_eq_true rfl, Nat.le_of_ble_eq_true rfl⟩ (Nat.le_of_ble_eq_true rfl) ?_
  refine ww_astoreN (ls2 := [some (eR (0)), some (eI (a)), some (eI (b)), some (eI (c)), some (eN), some (eN)]) K dX6_bargain_13 (by decide) rfl ?_
  refine ww_aloadN K dX6_bargain_15 rfl ?_
  refine ww_ifnullN (tgt := 25) K dX6_bargain_17 rfl ?_
  refine ww_bipush (v := (-2)) K dX6_bargain_25 rfl ?_
  exact ww_iret K dX6_bargain_27 hr ⟨rfl, rfl⟩
set_option maxRecDepth 100000 in
set_option maxHeartbeats 4000000 in
theorem ct_X6_was0 (G : EG) (l : Launch) {w : EW} {ln fl pl : Int32} {cnt : Nat → Int32} (hx : w[0]? = some (cO 6 [eR (1), eR (42), eR (43), eR (56), eR (60), eR (61), eR (62), eR (63)])) (ht : w[1]? = some (cO 5 [eR (2), eI (ln), eI (fl), eI (pl), eR (3), eR (4), eR (5)])) (hc : w[3]? = some (cI 0 6 cnt)) (hz : ∀ k, k < 6 → cnt k = 0) {a b c : Int32} : Ct G l yX6_was cX6_was 4 (some .int) 3 0 0 [eR (0), eI (a), eI (b), eI (c)] w (fun r w2 => r = some (eI (-2)) ∧ w2 = w) := by
  refine Ct_of (by decide +kernel) (Nat.le_of_ble_eq_true rfl) ?_
  intro p_ e_ s_ m_ a_ b_ t_ c_ K0 hr hin
  have K : wc_C p_ s_ m_ a_ t_ c_ G RX6 cX6_was 4 (w).length := K0
  clear K0
  refine WW_ls (ls2 := [some (eR (0)), some (eI (a)), some (eI (b)), some (eI (c))]) rfl ?_
  refine ww_aload_n K dX6_was_0 rfl ?_
  refine ww_iconst (v := 4) K dX6_was_1 rfl ?_
  refine ww_iload_n K dX6_was_2 rfl ?_
  refine ww_cV K dX6_was_3 lc_X6_182 hx ⟨_, rfl, rfl⟩ (ct_X6_rowsAt0 G l hx ht hc hz (j := 4) (a := a) (wc_vin (by decide))) rfl ⟨Nat.le_of_ble_eq_true rfl, Nat.le_of_ble_eq_true rfl⟩ (Nat.le_of_ble_eq_true rfl) ?_
  refine ww_iload_n K dX6_was_6 rfl ?_
  refine ww_iload_n K dX6_was_7 rfl ?_
  refine ww_iconst (v := 4) K dX6_was_8 rfl ?_
  refine ww_cS K dX6_was_9 lc_X6_185 (ct_X6_rowTold0 G l (a := b) (b := c) (c := 4)) rfl ⟨Nat.le_of_ble_eq_true rfl, Nat.le_of_ble_eq_true rfl⟩ (Nat.le_of_ble_eq_true rfl) ?_
  exact ww_iret K dX6_was_12 hr ⟨rfl, rfl⟩
set_option maxRecDepth 100000 in
set_option maxHeartbeats 4000000 in
theorem ct_X6_nature0 (G : EG) (l : Launch) {w : EW} {ln fl pl : Int32} {cnt : Nat → Int32} (hx : w[0]? = some (cO 6 [eR (1), eR (42), eR (43), eR (56), eR (60), eR (61), eR (62), eR (63)])) (ht : w[1]? = some (cO 5 [eR (2), eI (ln), eI (fl), eI (pl), eR (3), eR (4), eR (5)])) (hc : w[3]? = some (cI 0 6 cnt)) (hz : ∀ k, k < 6 → cnt k = 0) {a b c : Int32} : Ct G l yX6_nature cX6_nature 8 (some .int) 3 0 0 [eR (0), eI (a), eI (b), eI (c)] w (fun r w2 => r = some (eI (-2)) ∧ w2 = w) := by
  refine Ct_of (by decide +kernel) (Nat.le_of_ble_eq_true rfl) ?_
  intro p_ e_ s_ m_ a_ b_ t_ c_ K0 hr hin
  have K : wc_C p_ s_ m_ a_ t_ c_ G RX6 cX6_nature 8 (w).length := K0
  clear K0
  refine WW_ls (ls2 := [some (eR (0)), some (eI (a)), some (eI (b)), some (eI (c)), none, none, none, none]) rfl ?_
  refine ww_aload_n K dX6_nature_0 rfl ?_
  refine ww_iload_n K dX6_nature_1 rfl ?_
  refine ww_cV K dX6_nature_2 lc_X6_129 hx ⟨_, rfl, rfl⟩ (ct_X6_republicAt0 G l hx ht hc hz (a := a)) rfl ⟨Nat.le_of_ble_eq_true rfl, Nat.le_of_ble_eq_true rfl⟩ (Nat.le_of_ble_eq_true rfl) ?_
  refine ww_astoreN (ls2 := [some (eR (0)), some (eI (a)), some (eI (b)), some (eI (c)), some (eN), none, none, none]) K dX6_nature_5 (by decide) rfl ?_
  refine ww_aload_n K dX6_nature_7 rfl ?_
  refine ww_iconst (v := 4) K dX6_nature_8 rfl ?_
  refine ww_iload_n K dX6_nature_9 rfl ?_
  refine ww_cV K dX6_nature_10 lc_X6_182 hx ⟨_, rfl, rfl⟩ (ct_X6_rowsAt0 G l hx ht hc hz (j := 4) (a := b) (wc_vin (by decide))) rfl ⟨Nat.le_of_ble_eq_true rfl, Nat.le_of_ble_eq_true rfl⟩ (Nat.le_of_ble_eq_true rfl) ?_
  refine ww_astoreN (ls2 := [some (eR (0)), some (eI (a)), some (eI (b)), some (eI (c)), some (eN), some (eN), none, none]) K dX6_nature_13 (by decide) rfl ?_
  refine ww_aloadN K dX6_nature_15 rfl ?_
  refine ww_ifnullN (tgt := 25) K dX6_nature_17 rfl ?_
  refine ww_bipush (v := (-2)) K dX6_nature_25 rfl ?_
  exact ww_iret K dX6_nature_27 hr ⟨rfl, rfl⟩
set_option maxRecDepth 100000 in
set_option maxHeartbeats 4000000 in
theorem ct_X6_seats0 (G : EG) (l : Launch) {w : EW} {ln fl pl : Int32} {cnt : Nat → Int32} (hx : w[0]? = some (cO 6 [eR (1), eR (42), eR (43), eR (56), eR (60), eR (61), eR (62), eR (63)])) (ht : w[1]? = some (cO 5 [eR (2), eI (ln), eI (fl), eI (pl), eR (3), eR (4), eR (5)])) (hc : w[3]? = some (cI 0 6 cnt)) (hz : ∀ k, k < 6 → cnt k = 0) {a b c : Int32} : Ct G l yX6_seats cX6_seats 7 (some .int) 3 0 0 [eR (0), eI (a), eI (b), eI (c)] w (fun r w2 => r = some (eI (-4)) ∧ w2 = w) := by
  refine Ct_of (by decide +kernel) (Nat.le_of_ble_eq_true rfl) ?_
  intro p_ e_ s_ m_ a_ b_ t_ c_ K0 hr hin
  have K : wc_C p_ s_ m_ a_ t_ c_ G RX6 cX6_seats 7 (w).length := K0
  clear K0
  refine WW_ls (ls2 := [some (eR (0)), some (eI (a)), some (eI (b)), some (eI (c)), none, none, none]) rfl ?_
  refine ww_aload_n K dX6_seats_0 rfl ?_
  refine ww_iload_n K dX6_seats_1 rfl ?_
  refine ww_cV K dX6_seats_2 lc_X6_129 hx ⟨_, rfl, rfl⟩ (ct_X6_republicAt0 G l hx ht hc hz (a := a)) rfl ⟨Nat.le_of_ble_eq_true rfl, Nat.le_of_ble_eq_true rfl⟩ (Nat.le_of_ble_eq_true rfl) ?_
  refine ww_astoreN (ls2 := [some (eR (0)), some (eI (a)), some (eI (b)), some (eI (c)), some (eN), none, none]) K dX6_seats_5 (by decide) rfl ?_
  refine ww_aload_n K dX6_seats_7 rfl ?_
  refine ww_iconst (v := 4) K dX6_seats_8 rfl ?_
  refine ww_iload_n K dX6_seats_9 rfl ?_
  refine ww_cV K dX6_seats_10 lc_X6_182 hx ⟨_, rfl, rfl⟩ (ct_X6_rowsAt0 G l hx ht hc hz (j := 4) (a := b) (wc_vin (by decide))) rfl ⟨Nat.le_of_ble_eq_true rfl, Nat.le_of_ble_eq_true rfl⟩ (Nat.le_of_ble_eq_true rfl) ?_
  refine ww_astoreN (ls2 := [some (eR (0)), some (eI (a)), some (eI (b)), some (eI (c)), some (eN), some (eN), none]) K dX6_seats_13 (by decide) rfl ?_
  refine ww_aloadN K dX6_seats_15 rfl ?_
  refine ww_ifnullN (tgt := 25) K dX6_seats_17 rfl ?_
  refine ww_bipush (v := (-4)) K dX6_seats_25 rfl ?_
  exact ww_iret K dX6_seats_27 hr ⟨rfl, rfl⟩
set_option maxRecDepth 100000 in
set_option maxHeartbeats 4000000 in
theorem ct_X6_reshuffle0 (G : EG) (l : Launch) {w : EW} {ln fl pl : Int32} {cnt : Nat → Int32} (hx : w[0]? = some (cO 6 [eR (1), eR (42), eR (43), eR (56), eR (60), eR (61), eR (62), eR (63)])) (ht : w[1]? = some (cO 5 [eR (2), eI (ln), eI (fl), eI (pl), eR (3), eR (4), eR (5)])) (hc : w[3]? = some (cI 0 6 cnt)) (hz : ∀ k, k < 6 → cnt k = 0) {a b : Int32} : Ct G l yX6_reshuffle cX6_reshuffle 8 (some .int) 3 0 0 [eR (0), eI (a), eI (b)] w (fun r w2 => r = some (eI (-1)) ∧ w2 = w) := by
  refine Ct_of (by decide +kernel) (Nat.le_of_ble_eq_true rfl) ?_
  intro p_ e_ s_ m_ a_ b_ t_ c_ K0 hr hin
  have K : wc_C p_ s_ m_ a_ t_ c_ G RX6 cX6_reshuffle 8 (w).length := K0
  clear K0
  refine WW_ls (ls2 := [some (eR (0)), some (eI (a)), some (eI (b)), none, none, none, none, none]) rfl ?_
  refine ww_aload_n K dX6_reshuffle_0 rfl ?_
  refine ww_iload_n K dX6_reshuffle_1 rfl ?_
  refine ww_cV K dX6_reshuffle_2 lc_X6_129 hx ⟨_, rfl, rfl⟩ (ct_X6_republicAt0 G l hx ht hc hz (a := a)) rfl ⟨Nat.le_of_ble_eq_true rfl, Nat.le_of_ble_eq_true rfl⟩ (Nat.le_of_ble_eq_true rfl) ?_
  refine ww_astore_nN (ls2 := [some (eR (0)), some (eI (a)), some (eI (b)), some (eN), none, none, none, none]) K dX6_reshuffle_5 (by decide) rfl ?_
  refine ww_aload_nN K dX6_reshuffle_6 rfl ?_
  refine ww_ifnonnullN K dX6_reshuffle_7 ?_
  refine ww_iconst (v := (-1)) K dX6_reshuffle_10 rfl ?_
  exact ww_iret K dX6_reshuffle_11 hr ⟨rfl, rfl⟩
set_option maxRecDepth 100000 in
set_option maxHeartbeats 4000000 in
theorem ct_X6_leak0 (G : EG) (l : Launch) {w : EW} {ln fl pl : Int32} {cnt : Nat → Int32} (hx : w[0]? = some (cO 6 [eR (1), eR (42), eR (43), eR (56), eR (60), eR (61), eR (62), eR (63)])) (ht : w[1]? = some (cO 5 [eR (2), eI (ln), eI (fl), eI (pl), eR (3), eR (4), eR (5)])) (hc : w[3]? = some (cI 0 6 cnt)) (hz : ∀ k, k < 6 → cnt k = 0) {a b c : Int32} : Ct G l yX6_leak cX6_leak 4 (some .int) 3 0 0 [eR (0), eI (a), eI (b), eI (c)] w (fun r w2 => r = some (eI (-2)) ∧ w2 = w) := by
  refine Ct_of (by decide +kernel) (Nat.le_of_ble_eq_true rfl) ?_
  intro p_ e_ s_ m_ a_ b_ t_ c_ K0 hr hin
  have K : wc_C p_ s_ m_ a_ t_ c_ G RX6 cX6_leak 4 (w).length := K0
  clear K0
  refine WW_ls (ls2 := [some (eR (0)), some (eI (a)), some (eI (b)), some (eI (c))]) rfl ?_
  refine ww_aload_n K dX6_leak_0 rfl ?_
  refine ww_iconst (v := 3) K dX6_leak_1 rfl ?_
  refine ww_iload_n K dX6_leak_2 rfl ?_
  refine ww_cV K dX6_leak_3 lc_X6_182 hx ⟨_, rfl, rfl⟩ (ct_X6_rowsAt0 G l hx ht hc hz (j := 3) (a := a) (wc_vin (by decide))) rfl ⟨Nat.le_of_ble_eq_true rfl, Nat.le_of_ble_eq_true rfl⟩ (Nat.le_of_ble_eq_true rfl) ?_
  refine ww_iload_n K dX6_leak_6 rfl ?_
  refine ww_iload_n K dX6_leak_7 rfl ?_
  refine ww_iconst (v := 2) K dX6_leak_8 rfl ?_
  refine ww_cS K dX6_leak_9 lc_X6_185 (ct_X6_rowTold0 G l (a := b) (b := c) (c := 2)) rfl ⟨Nat.le_of_ble_eq_true rfl, Nat.le_of_ble_eq_true rfl⟩ (Nat.le_of_ble_eq_true rfl) ?_
  exact ww_iret K dX6_leak_12 hr ⟨rfl, rfl⟩
set_option maxRecDepth 100000 in
set_option maxHeartbeats 4000000 in
theorem ct_X6_fits0 (G : EG) (l : Launch) {w : EW} {ln fl pl : Int32} {cnt : Nat → Int32} (hx : w[0]? = some (cO 6 [eR (1), eR (42), eR (43), eR (56), eR (60), eR (61), eR (62), eR (63)])) (ht : w[1]? = some (cO 5 [eR (2), eI (ln), eI (fl), eI (pl), eR (3), eR (4), eR (5)])) (hc : w[3]? = some (cI 0 6 cnt)) (hz : ∀ k, k < 6 → cnt k = 0) {a b c d f : Int32} : Ct G l yX6_fits cX6_fits 8 (some .int) 3 0 0 [eR (0), eI (a), eI (b), eI (c), eI (d), eI (f)] w (fun r w2 => r = some (eI (-2)) ∧ w2 = w) := by
  refine Ct_of (by decide +kernel) (Nat.le_of_ble_eq_true rfl) ?_
  intro p_ e_ s_ m_ a_ b_ t_ c_ K0 hr hin
  have K : wc_C p_ s_ m_ a_ t_ c_ G RX6 cX6_fits 8 (w).length := K0
  clear K0
  refine WW_ls (ls2 := [some (eR (0)), some (eI (a)), some (eI (b)), some (eI (c)), some (eI (d)), some (eI (f)), none, none]) rfl ?_
  refine ww_aload_n K dX6_fits_0 rfl ?_
  refine ww_iload_n K dX6_fits_1 rfl ?_
  refine ww_iload_n K dX6_fits_2 rfl ?_
  refine ww_iload K dX6_fits_3 rfl ?_
  refine ww_iconst (v := 0) K dX6_fits_5 rfl ?_
  refine ww_cV K dX6_fits_6 lc_X6_200 hx ⟨_, rfl, rfl⟩ (ct_X6_movedIn0 G l hx ht hc hz (a := a) (b := c) (c := d) (d := 0)) rfl ⟨Nat.le_of_ble_eq_true rfl, Nat.le_of_ble_eq_true rfl⟩ (Nat.le_of_ble_eq_true rfl) ?_
  refine ww_astoreN (ls2 := [some (eR (0)), some (eI (a)), some (eI (b)), some (eI (c)), some (eI (d)), some (eI (f)), some (eN), none]) K dX6_fits_9 (by decide) rfl ?_
  refine ww_aload_n K dX6_fits_11 rfl ?_
  refine ww_iconst (v := 3) K dX6_fits_12 rfl ?_
  refine ww_iload_n K dX6_fits_13 rfl ?_
  refine ww_cV K dX6_fits_14 lc_X6_182 hx ⟨_, rfl, rfl⟩ (ct_X6_rowsAt0 G l hx ht hc hz (j := 3) (a := b) (wc_vin (by decide))) rfl ⟨Nat.le_of_ble_eq_true rfl, Nat.le_of_ble_eq_true rfl⟩ (Nat.le_of_ble_eq_true rfl) ?_
  refine ww_astoreN (ls2 := [some (eR (0)), some (eI (a)), some (eI (b)), some (eI (c)), some (eI (d)), some (eI (f)), some (eN), some (eN)]) K dX6_fits_17 (by decide) rfl ?_
  refine ww_aloadN K dX6_fits_19 rfl ?_
  refine ww_ifnullN (tgt := 39) K dX6_fits_21 rfl ?_
  refine ww_bipush (v := (-2)) K dX6_fits_39 rfl ?_
  exact ww_iret K dX6_fits_41 hr ⟨rfl, rfl⟩
set_option maxRecDepth 100000 in
set_option maxHeartbeats 4000000 in
theorem ct_X6_drawn0 (G : EG) (l : Launch) {w : EW} {ln fl pl : Int32} {cnt : Nat → Int32} (hx : w[0]? = some (cO 6 [eR (1), eR (42), eR (43), eR (56), eR (60), eR (61), eR (62), eR (63)])) (ht : w[1]? = some (cO 5 [eR (2), eI (ln), eI (fl), eI (pl), eR (3), eR (4), eR (5)])) (hc : w[3]? = some (cI 0 6 cnt)) (hz : ∀ k, k < 6 → cnt k = 0) {a b c d : Int32} : Ct G l yX6_drawn cX6_drawn 6 (some .int) 3 0 0 [eR (0), eI (a), eI (b), eI (c), eI (d)] w (fun r w2 => r = some (eI (-2)) ∧ w2 = w) := by
  refine Ct_of (by decide +kernel) (Nat.le_of_ble_eq_true rfl) ?_
  intro p_ e_ s_ m_ a_ b_ t_ c_ K0 hr hin
  have K : wc_C p_ s_ m_ a_ t_ c_ G RX6 cX6_drawn 6 (w).length := K0
  clear K0
  refine WW_ls (ls2 := [some (eR (0)), some (eI (a)), some (eI (b)), some (eI (c)), some (eI (d)), none]) rfl ?_
  refine ww_aload_n K dX6_drawn_0 rfl ?_
  refine ww_iload_n K dX6_drawn_1 rfl ?_
  refine ww_cV K dX6_drawn_2 lc_X6_129 hx ⟨_, rfl, rfl⟩ (ct_X6_republicAt0 G l hx ht hc hz (a := a)) rfl ⟨Nat.le_of_ble_eq_true rfl, Nat.le_of_ble_eq_true rfl⟩ (Nat.le_of_ble_eq_true rfl) ?_
  refine ww_astoreN (ls2 := [some (eR (0)), some (eI (a)), some (eI (b)), some (eI (c)), some (eI (d)), some (eN)]) K dX6_drawn_5 (by decide) rfl ?_
  refine ww_aloadN K dX6_drawn_7 rfl ?_
  refine ww_ifnullN (tgt := 22) K dX6_drawn_9 rfl ?_
  refine ww_bipush (v := (-2)) K dX6_drawn_22 rfl ?_
  exact ww_iret K dX6_drawn_24 hr ⟨rfl, rfl⟩
set_option maxRecDepth 100000 in
set_option maxHeartbeats 4000000 in
theorem ct_X7_isOf0 (G : EG) (l : Launch) {w : EW} {A : Nat → Int32} (hm : w[64]? = some (cO 7 [eR (65), eR (66), eI (0), eI (0), eI (0), eI (0), eI (0), eI (0), eI (0), eI (0), eR (67), eI (0), eI (0), eI (0), eI (0), eI (0), eI (0), eI (0), eI (0), eI (0), eI (0), eI (0), eI (0), eI (0), eI (0), eI (0), eI (0), eR (68), eR (69), eI (0), eI (0), eR (70), eR (71), eI (0), eI (0)])) (ha : w[65]? = some (cI 0 5768 A)) (hz : ∀ k, k < 6 → A k = 0) {j a : Int32} (hj : vp_in j 6) : Ct G l yX7_isOf cX7_isOf 3 (some .boolean) 1 0 0 [eR (64), eI (j), eI (a)] w (fun r w2 => r = some (eI 0) ∧ w2 = w) := by
  refine Ct_of (by decide +kernel) (Nat.le_of_ble_eq_true rfl) ?_
  intro p_ e_ s_ m_ a_ b_ t_ c_ K0 hr hin
  have K : wc_C p_ s_ m_ a_ t_ c_ G RX7 cX7_isOf 3 (w).length := K0
  clear K0
  refine WW_ls (ls2 := [some (eR (64)), some (eI (j)), some (eI (a))]) rfl ?_
  refine ww_iload_n K dX7_isOf_0 rfl ?_
  refine ww_iconst (v := 0) K dX7_isOf_1 rfl ?_
  refine ww_aload_n K dX7_isOf_2 rfl ?_
  refine ww_get K dX7_isOf_3 lf_X7_7 hm rfl ?_
  refine ww_iload_n K dX7_isOf_6 rfl ?_
  refine ww_iald K dX7_isOf_7 ha (wc_in_le hj (by decide)) ?_
  rw [show A j.toNatClampNeg = 0 from hz _ (wc_cl_lt hj)]
  refine ww_iconst (v := 1) K dX7_isOf_8 rfl ?_
  refine ww_isub K dX7_isOf_9 ?_
  rw [show ((0 : Int32) - 1) = (-1) from rfl]
  refine ww_cS K dX7_isOf_10 lc_X7_93 (ct_X7_isIn G l (a := a) (b := 0) (c := (-1))) rfl ⟨Nat.le_of_ble_eq_true rfl, Nat.le_of_ble_eq_true rfl⟩ (Nat.le_of_ble_eq_true rfl) ?_
  rw [wc_none]
  exact ww_zret K rfl dX7_isOf_13 hr ⟨rfl, rfl⟩
set_option maxRecDepth 100000 in
set_option maxHeartbeats 4000000 in
theorem ct_X7_isRepublic0 (G : EG) (l : Launch) {w : EW} {A : Nat → Int32} (hm : w[64]? = some (cO 7 [eR (65), eR (66), eI (0), eI (0), eI (0), eI (0), eI (0), eI (0), eI (0), eI (0), eR (67), eI (0), eI (0), eI (0), eI (0), eI (0), eI (0), eI (0), eI (0), eI (0), eI (0), eI (0), eI (0), eI (0), eI (0), eI (0), eI (0), eR (68), eR (69), eI (0), eI (0), eR (70), eR (71), eI (0), eI (0)])) (ha : w[65]? = some (cI 0 5768 A)) (hz : ∀ k, k < 6 → A k = 0) {a : Int32} : Ct G l yX7_isRepublic cX7_isRepublic 2 (some .boolean) 2 0 0 [eR (64), eI (a)] w (fun r w2 => r = some (eI 0) ∧ w2 = w) := by
  refine Ct_of (by decide +kernel) (Nat.le_of_ble_eq_true rfl) ?_
  intro p_ e_ s_ m_ a_ b_ t_ c_ K0 hr hin
  have K : wc_C p_ s_ m_ a_ t_ c_ G RX7 cX7_isRepublic 2 (w).length := K0
  clear K0
  refine WW_ls (ls2 := [some (eR (64)), some (eI (a))]) rfl ?_
  refine ww_aload_n K dX7_isRepublic_0 rfl ?_
  refine ww_iconst (v := 0) K dX7_isRepublic_1 rfl ?_
  refine ww_iload_n K dX7_isRepublic_2 rfl ?_
  refine ww_cV K dX7_isRepublic_3 lc_X7_144 hm ⟨_, rfl, rfl⟩ (ct_X7_isOf0 G l hm ha hz (j := 0) (a := a) (wc_vin (by decide))) rfl ⟨Nat.le_of_ble_eq_true rfl, Nat.le_of_ble_eq_true rfl⟩ (Nat.le_of_ble_eq_true rfl) ?_
  refine ww_if_ne (tgt := 11) K dX7_isRepublic_6 rfl (fun cc_ => absurd cc_ (by decide)) (fun _ => ?_)
  refine ww_iconst (v := 0) K dX7_isRepublic_9 rfl ?_
  exact ww_zret K rfl dX7_isRepublic_10 hr ⟨rfl, rfl⟩
set_option maxRecDepth 100000 in
set_option maxHeartbeats 4000000 in
theorem ct_X7_areOrders0 (G : EG) (l : Launch) {w : EW} {A : Nat → Int32} (hm : w[64]? = some (cO 7 [eR (65), eR (66), eI (0), eI (0), eI (0), eI (0), eI (0), eI (0), eI (0), eI (0), eR (67), eI (0), eI (0), eI (0), eI (0), eI (0), eI (0), eI (0), eI (0), eI (0), eI (0), eI (0), eI (0), eI (0), eI (0), eI (0), eI (0), eR (68), eR (69), eI (0), eI (0), eR (70), eR (71), eI (0), eI (0)])) (ha : w[65]? = some (cI 0 5768 A)) (hz : ∀ k, k < 6 → A k = 0) {a : Int32} : Ct G l yX7_areOrders cX7_areOrders 2 (some .boolean) 2 0 0 [eR (64), eI (a)] w (fun r w2 => r = some (eI 0) ∧ w2 = w) := by
  refine Ct_of (by decide +kernel) (Nat.le_of_ble_eq_true rfl) ?_
  intro p_ e_ s_ m_ a_ b_ t_ c_ K0 hr hin
  have K : wc_C p_ s_ m_ a_ t_ c_ G RX7 cX7_areOrders 2 (w).length := K0
  clear K0
  refine WW_ls (ls2 := [some (eR (64)), some (eI (a))]) rfl ?_
  refine ww_aload_n K dX7_areOrders_0 rfl ?_
  refine ww_iconst (v := 1) K dX7_areOrders_1 rfl ?_
  refine ww_iload_n K dX7_areOrders_2 rfl ?_
  refine ww_cV K dX7_areOrders_3 lc_X7_144 hm ⟨_, rfl, rfl⟩ (ct_X7_isOf0 G l hm ha hz (j := 1) (a := a) (wc_vin (by decide))) rfl ⟨Nat.le_of_ble_eq_true rfl, Nat.le_of_ble_eq_true rfl⟩ (Nat.le_of_ble_eq_true rfl) ?_
  refine ww_if_ne (tgt := 11) K dX7_areOrders_6 rfl (fun cc_ => absurd cc_ (by decide)) (fun _ => ?_)
  refine ww_iconst (v := 0) K dX7_areOrders_9 rfl ?_
  exact ww_zret K rfl dX7_areOrders_10 hr ⟨rfl, rfl⟩
set_option maxRecDepth 100000 in
set_option maxHeartbeats 4000000 in
theorem ct_X7_isSummer0 (G : EG) (l : Launch) {w : EW} {A : Nat → Int32} (hm : w[64]? = some (cO 7 [eR (65), eR (66), eI (0), eI (0), eI (0), eI (0), eI (0), eI (0), eI (0), eI (0), eR (67), eI (0), eI (0), eI (0), eI (0), eI (0), eI (0), eI (0), eI (0), eI (0), eI (0), eI (0), eI (0), eI (0), eI (0), eI (0), eI (0), eR (68), eR (69), eI (0), eI (0), eR (70), eR (71), eI (0), eI (0)])) (ha : w[65]? = some (cI 0 5768 A)) (hz : ∀ k, k < 6 → A k = 0) {a : Int32} : Ct G l yX7_isSummer cX7_isSummer 2 (some .boolean) 2 0 0 [eR (64), eI (a)] w (fun r w2 => r = some (eI 0) ∧ w2 = w) := by
  refine Ct_of (by decide +kernel) (Nat.le_of_ble_eq_true rfl) ?_
  intro p_ e_ s_ m_ a_ b_ t_ c_ K0 hr hin
  have K : wc_C p_ s_ m_ a_ t_ c_ G RX7 cX7_isSummer 2 (w).length := K0
  clear K0
  refine WW_ls (ls2 := [some (eR (64)), some (eI (a))]) rfl ?_
  refine ww_aload_n K dX7_isSummer_0 rfl ?_
  refine ww_iconst (v := 4) K dX7_isSummer_1 rfl ?_
  refine ww_iload_n K dX7_isSummer_2 rfl ?_
  refine ww_cV K dX7_isSummer_3 lc_X7_144 hm ⟨_, rfl, rfl⟩ (ct_X7_isOf0 G l hm ha hz (j := 4) (a := a) (wc_vin (by decide))) rfl ⟨Nat.le_of_ble_eq_true rfl, Nat.le_of_ble_eq_true rfl⟩ (Nat.le_of_ble_eq_true rfl) ?_
  refine ww_if_ne (tgt := 11) K dX7_isSummer_6 rfl (fun cc_ => absurd cc_ (by decide)) (fun _ => ?_)
  refine ww_iconst (v := 0) K dX7_isSummer_9 rfl ?_
  exact ww_zret K rfl dX7_isSummer_10 hr ⟨rfl, rfl⟩
set_option maxRecDepth 100000 in
set_option maxHeartbeats 4000000 in
theorem ct_X7_areTold0 (G : EG) (l : Launch) {w : EW} {A : Nat → Int32} (hm : w[64]? = some (cO 7 [eR (65), eR (66), eI (0), eI (0), eI (0), eI (0), eI (0), eI (0), eI (0), eI (0), eR (67), eI (0), eI (0), eI (0), eI (0), eI (0), eI (0), eI (0), eI (0), eI (0), eI (0), eI (0), eI (0), eI (0), eI (0), eI (0), eI (0), eR (68), eR (69), eI (0), eI (0), eR (70), eR (71), eI (0), eI (0)])) (ha : w[65]? = some (cI 0 5768 A)) (hz : ∀ k, k < 6 → A k = 0) {a b c : Int32} : Ct G l yX7_areTold cX7_areTold 4 (some .boolean) 3 0 0 [eR (64), eI (a), eI (b), eI (c)] w (fun r w2 => r = some (eI 0) ∧ w2 = w) := by
  refine Ct_of (by decide +kernel) (Nat.le_of_ble_eq_true rfl) ?_
  intro p_ e_ s_ m_ a_ b_ t_ c_ K0 hr hin
  have K : wc_C p_ s_ m_ a_ t_ c_ G RX7 cX7_areTold 4 (w).length := K0
  clear K0
  refine WW_ls (ls2 := [some (eR (64)), some (eI (a)), some (eI (b)), some (eI (c))]) rfl ?_
  refine ww_aload_n K dX7_areTold_0 rfl ?_
  refine ww_iload_n K dX7_areTold_1 rfl ?_
  refine ww_cV K dX7_areTold_2 lc_X7_190 hm ⟨_, rfl, rfl⟩ (ct_X7_isRepublic0 G l hm ha hz (a := a)) rfl ⟨Nat.le_of_ble_eq_true rfl, Nat.le_of_ble_eq_true rfl⟩ (Nat.le_of_ble_eq_true rfl) ?_
  refine ww_if_eq (tgt := 25) K dX7_areTold_5 rfl (fun _ => ?_) (fun cc_ => absurd cc_ (by decide))
  refine ww_iconst (v := 0) K dX7_areTold_25 rfl ?_
  exact ww_zret K rfl dX7_areTold_26 hr ⟨rfl, rfl⟩
set_option maxRecDepth 100000 in
set_option maxHeartbeats 4000000 in
theorem ct_X7_isMotion0 (G : EG) (l : Launch) {w : EW} {A : Nat → Int32} (hm : w[64]? = some (cO 7 [eR (65), eR (66), eI (0), eI (0), eI (0), eI (0), eI (0), eI (0), eI (0), eI (0), eR (67), eI (0), eI (0), eI (0), eI (0), eI (0), eI (0), eI (0), eI (0), eI (0), eI (0), eI (0), eI (0), eI (0), eI (0), eI (0), eI (0), eR (68), eR (69), eI (0), eI (0), eR (70), eR (71), eI (0), eI (0)])) (ha : w[65]? = some (cI 0 5768 A)) (hz : ∀ k, k < 6 → A k = 0) {a b c d f g : Int32} : Ct G l yX7_isMotion cX7_isMotion 7 (some .boolean) 3 0 0 [eR (64), eI (a), eI (b), eI (c), eI (d), eI (f), eI (g)] w (fun r w2 => r = some (eI 0) ∧ w2 = w) := by
  refine Ct_of (by decide +kernel) (Nat.le_of_ble_eq_true rfl) ?_
  intro p_ e_ s_ m_ a_ b_ t_ c_ K0 hr hin
  have K : wc_C p_ s_ m_ a_ t_ c_ G RX7 cX7_isMotion 7 (w).length := K0
  clear K0
  refine WW_ls (ls2 := [some (eR (64)), some (eI (a)), some (eI (b)), some (eI (c)), some (eI (d)), some (eI (f)), some (eI (g))]) rfl ?_
  refine ww_aload_n K dX7_isMotion_0 rfl ?_
  refine ww_iload_n K dX7_isMotion_1 rfl ?_
  refine ww_cV K dX7_isMotion_2 lc_X7_190 hm ⟨_, rfl, rfl⟩ (ct_X7_isRepublic0 G l hm ha hz (a := a)) rfl ⟨Nat.le_of_ble_eq_true rfl, Nat.le_of_ble_eq_true rfl⟩ (Nat.le_of_ble_eq_true rfl) ?_
  refine ww_if_eq (tgt := 37) K dX7_isMotion_5 rfl (fun _ => ?_) (fun cc_ => absurd cc_ (by decide))
  refine ww_iconst (v := 0) K dX7_isMotion_37 rfl ?_
  exact ww_zret K rfl dX7_isMotion_38 hr ⟨rfl, rfl⟩
set_option maxRecDepth 100000 in
set_option maxHeartbeats 4000000 in
theorem ct_X7_republic0 (G : EG) (l : Launch) {w : EW} {A : Nat → Int32} (hm : w[64]? = some (cO 7 [eR (65), eR (66), eI (0), eI (0), eI (0), eI (0), eI (0), eI (0), eI (0), eI (0), eR (67), eI (0), eI (0), eI (0), eI (0), eI (0), eI (0), eI (0), eI (0), eI (0), eI (0), eI (0), eI (0), eI (0), eI (0), eI (0), eI (0), eR (68), eR (69), eI (0), eI (0), eR (70), eR (71), eI (0), eI (0)])) (ha : w[65]? = some (cI 0 5768 A)) (hz : ∀ k, k < 6 → A k = 0) {a b : Int32} : Ct G l yX7_republic cX7_republic 3 (some .int) 4 0 0 [eR (64), eI (a), eI (b)] w (fun r w2 => r = some (eI (-1)) ∧ w2 = w) := by
  refine Ct_of (by decide +kernel) (Nat.le_of_ble_eq_true rfl) ?_
  intro p_ e_ s_ m_ a_ b_ t_ c_ K0 hr hin
  have K : wc_C p_ s_ m_ a_ t_ c_ G RX7 cX7_republic 3 (w).length := K0
  clear K0
  refine WW_ls (ls2 := [some (eR (64)), some (eI (a)), some (eI (b))]) rfl ?_
  refine ww_aload_n K dX7_republic_0 rfl ?_
  refine ww_iload_n K dX7_republic_1 rfl ?_
  refine ww_cV K dX7_republic_2 lc_X7_190 hm ⟨_, rfl, rfl⟩ (ct_X7_isRepublic0 G l hm ha hz (a := a)) rfl ⟨Nat.le_of_ble_eq_true rfl, Nat.le_of_ble_eq_true rfl⟩ (Nat.le_of_ble_eq_true rfl) ?_
  refine ww_if_ne (tgt := 10) K dX7_republic_5 rfl (fun cc_ => absurd cc_ (by decide)) (fun _ => ?_)
  refine ww_iconst (v := (-1)) K dX7_republic_8 rfl ?_
  exact ww_iret K dX7_republic_9 hr ⟨rfl, rfl⟩
set_option maxRecDepth 100000 in
set_option maxHeartbeats 4000000 in
theorem ct_X7_minister0 (G : EG) (l : Launch) {w : EW} {A : Nat → Int32} (hm : w[64]? = some (cO 7 [eR (65), eR (66), eI (0), eI (0), eI (0), eI (0), eI (0), eI (0), eI (0), eI (0), eR (67), eI (0), eI (0), eI (0), eI (0), eI (0), eI (0), eI (0), eI (0), eI (0), eI (0), eI (0), eI (0), eI (0), eI (0), eI (0), eI (0), eR (68), eR (69), eI (0), eI (0), eR (70), eR (71), eI (0), eI (0)])) (ha : w[65]? = some (cI 0 5768 A)) (hz : ∀ k, k < 6 → A k = 0) {a b c : Int32} : Ct G l yX7_minister cX7_minister 4 (some .int) 4 0 0 [eR (64), eI (a), eI (b), eI (c)] w (fun r w2 => r = some (eI (-1)) ∧ w2 = w) := by
  refine Ct_of (by decide +kernel) (Nat.le_of_ble_eq_true rfl) ?_
  intro p_ e_ s_ m_ a_ b_ t_ c_ K0 hr hin
  have K : wc_C p_ s_ m_ a_ t_ c_ G RX7 cX7_minister 4 (w).length := K0
  clear K0
  refine WW_ls (ls2 := [some (eR (64)), some (eI (a)), some (eI (b)), some (eI (c))]) rfl ?_
  refine ww_aload_n K dX7_minister_0 rfl ?_
  refine ww_iload_n K dX7_minister_1 rfl ?_
  refine ww_cV K dX7_minister_2 lc_X7_190 hm ⟨_, rfl, rfl⟩ (ct_X7_isRepublic0 G l hm ha hz (a := a)) rfl ⟨Nat.le_of_ble_eq_true rfl, Nat.le_of_ble_eq_true rfl⟩ (Nat.le_of_ble_eq_true rfl) ?_
  refine ww_if_eq (tgt := 16) K dX7_minister_5 rfl (fun _ => ?_) (fun cc_ => absurd cc_ (by decide))
  refine ww_iconst (v := (-1)) K dX7_minister_16 rfl ?_
  exact ww_iret K dX7_minister_17 hr ⟨rfl, rfl⟩
set_option maxRecDepth 100000 in
set_option maxHeartbeats 4000000 in
theorem ct_X7_off0 (G : EG) (l : Launch) {w : EW} {A : Nat → Int32} (hm : w[64]? = some (cO 7 [eR (65), eR (66), eI (0), eI (0), eI (0), eI (0), eI (0), eI (0), eI (0), eI (0), eR (67), eI (0), eI (0), eI (0), eI (0), eI (0), eI (0), eI (0), eI (0), eI (0), eI (0), eI (0), eI (0), eI (0), eI (0), eI (0), eI (0), eR (68), eR (69), eI (0), eI (0), eR (70), eR (71), eI (0), eI (0)])) (ha : w[65]? = some (cI 0 5768 A)) (hz : ∀ k, k < 6 → A k = 0) {a b c d f g : Int32} : Ct G l yX7_off cX7_off 7 (some .int) 4 0 0 [eR (64), eI (a), eI (b), eI (c), eI (d), eI (f), eI (g)] w (fun r w2 => r = some (eI (-1)) ∧ w2 = w) := by
  refine Ct_of (by decide +kernel) (Nat.le_of_ble_eq_true rfl) ?_
  intro p_ e_ s_ m_ a_ b_ t_ c_ K0 hr hin
  have K : wc_C p_ s_ m_ a_ t_ c_ G RX7 cX7_off 7 (w).length := K0
  clear K0
  refine WW_ls (ls2 := [some (eR (64)), some (eI (a)), some (eI (b)), some (eI (c)), some (eI (d)), some (eI (f)), some (eI (g))]) rfl ?_
  refine ww_aload_n K dX7_off_0 rfl ?_
  refine ww_iload_n K dX7_off_1 rfl ?_
  refine ww_iload_n K dX7_off_2 rfl ?_
  refine ww_iload_n K dX7_off_3 rfl ?_
  refine ww_iload K dX7_off_4 rfl ?_
  refine ww_iload K dX7_off_6 rfl ?_
  refine ww_iload K dX7_off_8 rfl ?_
  refine ww_cV K dX7_off_10 lc_X7_241 hm ⟨_, rfl, rfl⟩ (ct_X7_isMotion0 G l hm ha hz (a := a) (b := b) (c := c) (d := d) (f := f) (g := g)) rfl ⟨Nat.le_of_ble_eq_true rfl, Nat.le_of_ble_eq_true rfl⟩ (Nat.le_of_ble_eq_true rfl) ?_
  refine ww_if_eq (tgt := 24) K dX7_off_13 rfl (fun _ => ?_) (fun cc_ => absurd cc_ (by decide))
  refine ww_iconst (v := (-1)) K dX7_off_24 rfl ?_
  exact ww_iret K dX7_off_25 hr ⟨rfl, rfl⟩
set_option maxRecDepth 100000 in
set_option maxHeartbeats 4000000 in
theorem ct_X7_vote0 (G : EG) (l : Launch) {w : EW} {A : Nat → Int32} (hm : w[64]? = some (cO 7 [eR (65), eR (66), eI (0), eI (0), eI (0), eI (0), eI (0), eI (0), eI (0), eI (0), eR (67), eI (0), eI (0), eI (0), eI (0), eI (0), eI (0), eI (0), eI (0), eI (0), eI (0), eI (0), eI (0), eI (0), eI (0), eI (0), eI (0), eR (68), eR (69), eI (0), eI (0), eR (70), eR (71), eI (0), eI (0)])) (ha : w[65]? = some (cI 0 5768 A)) (hz : ∀ k, k < 6 → A k = 0) {a b c d f g h : Int32} : Ct G l yX7_vote cX7_vote 8 (some .int) 4 0 0 [eR (64), eI (a), eI (b), eI (c), eI (d), eI (f), eI (g), eI (h)] w (fun r w2 => r = some (eI (-1)) ∧ w2 = w) := by
  refine Ct_of (by decide +kernel) (Nat.le_of_ble_eq_true rfl) ?_
  intro p_ e_ s_ m_ a_ b_ t_ c_ K0 hr hin
  have K : wc_C p_ s_ m_ a_ t_ c_ G RX7 cX7_vote 8 (w).length := K0
  clear K0
  refine WW_ls (ls2 := [some (eR (64)), some (eI (a)), some (eI (b)), some (eI (c)), some (eI (d)), some (eI (f)), some (eI (g)), some (eI (h))]) rfl ?_
  refine ww_aload_n K dX7_vote_0 rfl ?_
  refine ww_iload_n K dX7_vote_1 rfl ?_
  refine ww_iload_n K dX7_vote_2 rfl ?_
  refine ww_iload_n K dX7_vote_3 rfl ?_
  refine ww_iload K dX7_vote_4 rfl ?_
  refine ww_iload K dX7_vote_6 rfl ?_
  refine ww_iload K dX7_vote_8 rfl ?_
  refine ww_cV K dX7_vote_10 lc_X7_241 hm ⟨_, rfl, rfl⟩ (ct_X7_isMotion0 G l hm ha hz (a := a) (b := b) (c := c) (d := d) (f := f) (g := g)) rfl ⟨Nat.le_of_ble_eq_true rfl, Nat.le_of_ble_eq_true rfl⟩ (Nat.le_of_ble_eq_true rfl) ?_
  refine ww_if_ne (tgt := 18) K dX7_vote_13 rfl (fun cc_ => absurd cc_ (by decide)) (fun _ => ?_)
  refine ww_iconst (v := (-1)) K dX7_vote_16 rfl ?_
  exact ww_iret K dX7_vote_17 hr ⟨rfl, rfl⟩
set_option maxRecDepth 100000 in
set_option maxHeartbeats 4000000 in
theorem ct_X7_order0 (G : EG) (l : Launch) {w : EW} {A : Nat → Int32} (hm : w[64]? = some (cO 7 [eR (65), eR (66), eI (0), eI (0), eI (0), eI (0), eI (0), eI (0), eI (0), eI (0), eR (67), eI (0), eI (0), eI (0), eI (0), eI (0), eI (0), eI (0), eI (0), eI (0), eI (0), eI (0), eI (0), eI (0), eI (0), eI (0), eI (0), eR (68), eR (69), eI (0), eI (0), eR (70), eR (71), eI (0), eI (0)])) (ha : w[65]? = some (cI 0 5768 A)) (hz : ∀ k, k < 6 → A k = 0) {a b c : Int32} : Ct G l yX7_order cX7_order 4 (some .int) 4 0 0 [eR (64), eI (a), eI (b), eI (c)] w (fun r w2 => r = some (eI (-2)) ∧ w2 = w) := by
  refine Ct_of (by decide +kernel) (Nat.le_of_ble_eq_true rfl) ?_
  intro p_ e_ s_ m_ a_ b_ t_ c_ K0 hr hin
  have K : wc_C p_ s_ m_ a_ t_ c_ G RX7 cX7_order 4 (w).length := K0
  clear K0
  refine WW_ls (ls2 := [some (eR (64)), some (eI (a)), some (eI (b)), some (eI (c))]) rfl ?_
  refine ww_aload_n K dX7_order_0 rfl ?_
  refine ww_iload_n K dX7_order_1 rfl ?_
  refine ww_cV K dX7_order_2 lc_X7_254 hm ⟨_, rfl, rfl⟩ (ct_X7_areOrders0 G l hm ha hz (a := a)) rfl ⟨Nat.le_of_ble_eq_true rfl, Nat.le_of_ble_eq_true rfl⟩ (Nat.le_of_ble_eq_true rfl) ?_
  refine ww_if_ne (tgt := 11) K dX7_order_5 rfl (fun cc_ => absurd cc_ (by decide)) (fun _ => ?_)
  refine ww_bipush (v := (-2)) K dX7_order_8 rfl ?_
  exact ww_iret K dX7_order_10 hr ⟨rfl, rfl⟩
set_option maxRecDepth 100000 in
set_option maxHeartbeats 4000000 in
theorem ct_X7_broken0 (G : EG) (l : Launch) {w : EW} {A : Nat → Int32} (hm : w[64]? = some (cO 7 [eR (65), eR (66), eI (0), eI (0), eI (0), eI (0), eI (0), eI (0), eI (0), eI (0), eR (67), eI (0), eI (0), eI (0), eI (0), eI (0), eI (0), eI (0), eI (0), eI (0), eI (0), eI (0), eI (0), eI (0), eI (0), eI (0), eI (0), eR (68), eR (69), eI (0), eI (0), eR (70), eR (71), eI (0), eI (0)])) (ha : w[65]? = some (cI 0 5768 A)) (hz : ∀ k, k < 6 → A k = 0) {a b c d f g : Int32} : Ct G l yX7_broken cX7_broken 7 (some .int) 4 0 0 [eR (64), eI (a), eI (b), eI (c), eI (d), eI (f), eI (g)] w (fun r w2 => r = some (eI (-1)) ∧ w2 = w) := by
  refine Ct_of (by decide +kernel) (Nat.le_of_ble_eq_true rfl) ?_
  intro p_ e_ s_ m_ a_ b_ t_ c_ K0 hr hin
  have K : wc_C p_ s_ m_ a_ t_ c_ G RX7 cX7_broken 7 (w).length := K0
  clear K0
  refine WW_ls (ls2 := [some (eR (64)), some (eI (a)), some (eI (b)), some (eI (c)), some (eI (d)), some (eI (f)), some (eI (g))]) rfl ?_
  refine ww_aload_n K dX7_broken_0 rfl ?_
  refine ww_iload_n K dX7_broken_1 rfl ?_
  refine ww_cV K dX7_broken_2 lc_X7_254 hm ⟨_, rfl, rfl⟩ (ct_X7_areOrders0 G l hm ha hz (a := a)) rfl ⟨Nat.le_of_ble_eq_true rfl, Nat.le_of_ble_eq_true rfl⟩ (Nat.le_of_ble_eq_true rfl) ?_
  refine ww_if_eq (tgt := 40) K dX7_broken_5 rfl (fun _ => ?_) (fun cc_ => absurd cc_ (by decide))
  refine ww_iconst (v := (-1)) K dX7_broken_40 rfl ?_
  exact ww_iret K dX7_broken_41 hr ⟨rfl, rfl⟩
set_option maxRecDepth 100000 in
set_option maxHeartbeats 4000000 in
theorem ct_X7_deed0 (G : EG) (l : Launch) {w : EW} {A : Nat → Int32} (hm : w[64]? = some (cO 7 [eR (65), eR (66), eI (0), eI (0), eI (0), eI (0), eI (0), eI (0), eI (0), eI (0), eR (67), eI (0), eI (0), eI (0), eI (0), eI (0), eI (0), eI (0), eI (0), eI (0), eI (0), eI (0), eI (0), eI (0), eI (0), eI (0), eI (0), eR (68), eR (69), eI (0), eI (0), eR (70), eR (71), eI (0), eI (0)])) (ha : w[65]? = some (cI 0 5768 A)) (hz : ∀ k, k < 6 → A k = 0) {a b c : Int32} : Ct G l yX7_deed cX7_deed 4 (some .int) 4 0 0 [eR (64), eI (a), eI (b), eI (c)] w (fun r w2 => r = some (eI (-2)) ∧ w2 = w) := by
  refine Ct_of (by decide +kernel) (Nat.le_of_ble_eq_true rfl) ?_
  intro p_ e_ s_ m_ a_ b_ t_ c_ K0 hr hin
  have K : wc_C p_ s_ m_ a_ t_ c_ G RX7 cX7_deed 4 (w).length := K0
  clear K0
  refine WW_ls (ls2 := [some (eR (64)), some (eI (a)), some (eI (b)), some (eI (c))]) rfl ?_
  refine ww_aload_n K dX7_deed_0 rfl ?_
  refine ww_iconst (v := 2) K dX7_deed_1 rfl ?_
  refine ww_iload_n K dX7_deed_2 rfl ?_
  refine ww_cV K dX7_deed_3 lc_X7_144 hm ⟨_, rfl, rfl⟩ (ct_X7_isOf0 G l hm ha hz (j := 2) (a := a) (wc_vin (by decide))) rfl ⟨Nat.le_of_ble_eq_true rfl, Nat.le_of_ble_eq_true rfl⟩ (Nat.le_of_ble_eq_true rfl) ?_
  refine ww_if_ne (tgt := 12) K dX7_deed_6 rfl (fun cc_ => absurd cc_ (by decide)) (fun _ => ?_)
  refine ww_bipush (v := (-2)) K dX7_deed_9 rfl ?_
  exact ww_iret K dX7_deed_11 hr ⟨rfl, rfl⟩
set_option maxRecDepth 100000 in
set_option maxHeartbeats 4000000 in
theorem ct_X7_stop0 (G : EG) (l : Launch) {w : EW} {A : Nat → Int32} (hm : w[64]? = some (cO 7 [eR (65), eR (66), eI (0), eI (0), eI (0), eI (0), eI (0), eI (0), eI (0), eI (0), eR (67), eI (0), eI (0), eI (0), eI (0), eI (0), eI (0), eI (0), eI (0), eI (0), eI (0), eI (0), eI (0), eI (0), eI (0), eI (0), eI (0), eR (68), eR (69), eI (0), eI (0), eR (70), eR (71), eI (0), eI (0)])) (ha : w[65]? = some (cI 0 5768 A)) (hz : ∀ k, k < 6 → A k = 0) {a b c : Int32} : Ct G l yX7_stop cX7_stop 4 (some .int) 4 0 0 [eR (64), eI (a), eI (b), eI (c)] w (fun r w2 => r = some (eI (-1)) ∧ w2 = w) := by
  refine Ct_of (by decide +kernel) (Nat.le_of_ble_eq_true rfl) ?_
  intro p_ e_ s_ m_ a_ b_ t_ c_ K0 hr hin
  have K : wc_C p_ s_ m_ a_ t_ c_ G RX7 cX7_stop 4 (w).length := K0
  clear K0
  refine WW_ls (ls2 := [some (eR (64)), some (eI (a)), some (eI (b)), some (eI (c))]) rfl ?_
  refine ww_aload_n K dX7_stop_0 rfl ?_
  refine ww_iload_n K dX7_stop_1 rfl ?_
  refine ww_iload_n K dX7_stop_2 rfl ?_
  refine ww_iload_n K dX7_stop_3 rfl ?_
  refine ww_cV K dX7_stop_4 lc_X7_330 hm ⟨_, rfl, rfl⟩ (ct_X7_areTold0 G l hm ha hz (a := a) (b := b) (c := c)) rfl ⟨Nat.le_of_ble_eq_true rfl, Nat.le_of_ble_eq_true rfl⟩ (Nat.le_of_ble_eq_true rfl) ?_
  refine ww_if_ne (tgt := 12) K dX7_stop_7 rfl (fun cc_ => absurd cc_ (by decide)) (fun _ => ?_)
  refine ww_iconst (v := (-1)) K dX7_stop_10 rfl ?_
  exact ww_iret K dX7_stop_11 hr ⟨rfl, rfl⟩
set_option maxRecDepth 100000 in
set_option maxHeartbeats 4000000 in
theorem ct_X7_state0 (G : EG) (l : Launch) {w : EW} {A : Nat → Int32} (hm : w[64]? = some (cO 7 [eR (65), eR (66), eI (0), eI (0), eI (0), eI (0), eI (0), eI (0), eI (0), eI (0), eR (67), eI (0), eI (0), eI (0), eI (0), eI (0), eI (0), eI (0), eI (0), eI (0), eI (0), eI (0), eI (0), eI (0), eI (0), eI (0), eI (0), eR (68), eR (69), eI (0), eI (0), eR (70), eR (71), eI (0), eI (0)])) (ha : w[65]? = some (cI 0 5768 A)) (hz : ∀ k, k < 6 → A k = 0) {a b c d f : Int32} : Ct G l yX7_state cX7_state 6 (some .int) 4 0 0 [eR (64), eI (a), eI (b), eI (c), eI (d), eI (f)] w (fun r w2 => r = some (eI (-2)) ∧ w2 = w) := by
  refine Ct_of (by decide +kernel) (Nat.le_of_ble_eq_true rfl) ?_
  intro p_ e_ s_ m_ a_ b_ t_ c_ K0 hr hin
  have K : wc_C p_ s_ m_ a_ t_ c_ G RX7 cX7_state 6 (w).length := K0
  clear K0
  refine WW_ls (ls2 := [some (eR (64)), some (eI (a)), some (eI (b)), some (eI (c)), some (eI (d)), some (eI (f))]) rfl ?_
  refine ww_aload_n K dX7_state_0 rfl ?_
  refine ww_iload_n K dX7_state_1 rfl ?_
  refine ww_iload_n K dX7_state_2 rfl ?_
  refine ww_iload_n K dX7_state_3 rfl ?_
  refine ww_cV K dX7_state_4 lc_X7_330 hm ⟨_, rfl, rfl⟩ (ct_X7_areTold0 G l hm ha hz (a := a) (b := b) (c := c)) rfl ⟨Nat.le_of_ble_eq_true rfl, Nat.le_of_ble_eq_true rfl⟩ (Nat.le_of_ble_eq_true rfl) ?_
  refine ww_if_eq (tgt := 15) K dX7_state_7 rfl (fun _ => ?_) (fun cc_ => absurd cc_ (by decide))
  refine ww_bipush (v := (-2)) K dX7_state_15 rfl ?_
  exact ww_iret K dX7_state_17 hr ⟨rfl, rfl⟩
set_option maxRecDepth 100000 in
set_option maxHeartbeats 4000000 in
theorem ct_X7_agreed0 (G : EG) (l : Launch) {w : EW} {A : Nat → Int32} (hm : w[64]? = some (cO 7 [eR (65), eR (66), eI (0), eI (0), eI (0), eI (0), eI (0), eI (0), eI (0), eI (0), eR (67), eI (0), eI (0), eI (0), eI (0), eI (0), eI (0), eI (0), eI (0), eI (0), eI (0), eI (0), eI (0), eI (0), eI (0), eI (0), eI (0), eR (68), eR (69), eI (0), eI (0), eR (70), eR (71), eI (0), eI (0)])) (ha : w[65]? = some (cI 0 5768 A)) (hz : ∀ k, k < 6 → A k = 0) {a b c d f : Int32} : Ct G l yX7_agreed cX7_agreed 9 (some .int) 4 0 0 [eR (64), eI (a), eI (b), eI (c), eI (d), eI (f)] w (fun r w2 => r = some (eI (-2)) ∧ w2 = w) := by
  refine Ct_of (by decide +kernel) (Nat.le_of_ble_eq_true rfl) ?_
  intro p_ e_ s_ m_ a_ b_ t_ c_ K0 hr hin
  have K : wc_C p_ s_ m_ a_ t_ c_ G RX7 cX7_agreed 9 (w).length := K0
  clear K0
  refine WW_ls (ls2 := [some (eR (64)), some (eI (a)), some (eI (b)), some (eI (c)), some (eI (d)), some (eI (f)), none, none, none]) rfl ?_
  refine ww_aload_n K dX7_agreed_0 rfl ?_
  refine ww_iload_n K dX7_agreed_1 rfl ?_
  refine ww_iload_n K dX7_agreed_2 rfl ?_
  refine ww_iload K dX7_agreed_3 rfl ?_
  refine ww_iconst (v := 0) K dX7_agreed_5 rfl ?_
  refine ww_iconst (v := 0) K dX7_agreed_6 rfl ?_
  refine ww_iconst (v := 0) K dX7_agreed_7 rfl ?_
  refine ww_cV K dX7_agreed_8 lc_X7_241 hm ⟨_, rfl, rfl⟩ (ct_X7_isMotion0 G l hm ha hz (a := a) (b := c) (c := d) (d := 0) (f := 0) (g := 0)) rfl ⟨Nat.le_of_ble_eq_true rfl, Nat.le_of_ble_eq_true rfl⟩ (Nat.le_of_ble_eq_true rfl) ?_
  refine ww_if_eq (tgt := 37) K dX7_agreed_11 rfl (fun _ => ?_) (fun cc_ => absurd cc_ (by decide))
  refine ww_bipush (v := (-2)) K dX7_agreed_37 rfl ?_
  exact ww_iret K dX7_agreed_39 hr ⟨rfl, rfl⟩
set_option maxRecDepth 100000 in
set_option maxHeartbeats 4000000 in
theorem ct_X7_power0 (G : EG) (l : Launch) {w : EW} {A : Nat → Int32} (hm : w[64]? = some (cO 7 [eR (65), eR (66), eI (0), eI (0), eI (0), eI (0), eI (0), eI (0), eI (0), eI (0), eR (67), eI (0), eI (0), eI (0), eI (0), eI (0), eI (0), eI (0), eI (0), eI (0), eI (0), eI (0), eI (0), eI (0), eI (0), eI (0), eI (0), eR (68), eR (69), eI (0), eI (0), eR (70), eR (71), eI (0), eI (0)])) (ha : w[65]? = some (cI 0 5768 A)) (hz : ∀ k, k < 6 → A k = 0) {a b c : Int32} : Ct G l yX7_power cX7_power 7 (some .int) 4 0 0 [eR (64), eI (a), eI (b), eI (c)] w (fun r w2 => r = some (eI (-1)) ∧ w2 = w) := by
  refine Ct_of (by decide +kernel) (Nat.le_of_ble_eq_true rfl) ?_
  intro p_ e_ s_ m_ a_ b_ t_ c_ K0 hr hin
  have K : wc_C p_ s_ m_ a_ t_ c_ G RX7 cX7_power 7 (w).length := K0
  clear K0
  refine WW_ls (ls2 := [some (eR (64)), some (eI (a)), some (eI (b)), some (eI (c)), none, none, none]) rfl ?_
  refine ww_aload_n K dX7_power_0 rfl ?_
  refine ww_iload_n K dX7_power_1 rfl ?_
  refine ww_cV K dX7_power_2 lc_X7_190 hm ⟨_, rfl, rfl⟩ (ct_X7_isRepublic0 G l hm ha hz (a := a)) rfl ⟨Nat.le_of_ble_eq_true rfl, Nat.le_of_ble_eq_true rfl⟩ (Nat.le_of_ble_eq_true rfl) ?_
  refine ww_if_eq (tgt := 16) K dX7_power_5 rfl (fun _ => ?_) (fun cc_ => absurd cc_ (by decide))
  refine ww_iconst (v := (-1)) K dX7_power_16 rfl ?_
  exact ww_iret K dX7_power_17 hr ⟨rfl, rfl⟩
set_option maxRecDepth 100000 in
set_option maxHeartbeats 4000000 in
theorem ct_X7_coalition0 (G : EG) (l : Launch) {w : EW} {A : Nat → Int32} (hm : w[64]? = some (cO 7 [eR (65), eR (66), eI (0), eI (0), eI (0), eI (0), eI (0), eI (0), eI (0), eI (0), eR (67), eI (0), eI (0), eI (0), eI (0), eI (0), eI (0), eI (0), eI (0), eI (0), eI (0), eI (0), eI (0), eI (0), eI (0), eI (0), eI (0), eR (68), eR (69), eI (0), eI (0), eR (70), eR (71), eI (0), eI (0)])) (ha : w[65]? = some (cI 0 5768 A)) (hz : ∀ k, k < 6 → A k = 0) {a b : Int32} : Ct G l yX7_coalition cX7_coalition 5 (some .int) 4 0 0 [eR (64), eI (a), eI (b)] w (fun r w2 => r = some (eI (-3)) ∧ w2 = w) := by
  refine Ct_of (by decide +kernel) (Nat.le_of_ble_eq_true rfl) ?_
  intro p_ e_ s_ m_ a_ b_ t_ c_ K0 hr hin
  have K : wc_C p_ s_ m_ a_ t_ c_ G RX7 cX7_coalition 5 (w).length := K0
  clear K0
  refine WW_ls (ls2 := [some (eR (64)), some (eI (a)), some (eI (b)), none, none]) rfl ?_
  refine ww_aload_n K dX7_coalition_0 rfl ?_
  refine ww_iload_n K dX7_coalition_1 rfl ?_
  refine ww_cV K dX7_coalition_2 lc_X7_190 hm ⟨_, rfl, rfl⟩ (ct_X7_isRepublic0 G l hm ha hz (a := a)) rfl ⟨Nat.le_of_ble_eq_true rfl, Nat.le_of_ble_eq_true rfl⟩ (Nat.le_of_ble_eq_true rfl) ?_
  refine ww_if_eq (tgt := 14) K dX7_coalition_5 rfl (fun _ => ?_) (fun cc_ => absurd cc_ (by decide))
  refine ww_bipush (v := (-3)) K dX7_coalition_14 rfl ?_
  exact ww_iret K dX7_coalition_16 hr ⟨rfl, rfl⟩
set_option maxRecDepth 100000 in
set_option maxHeartbeats 4000000 in
theorem ct_X7_bribe0 (G : EG) (l : Launch) {w : EW} {A : Nat → Int32} (hm : w[64]? = some (cO 7 [eR (65), eR (66), eI (0), eI (0), eI (0), eI (0), eI (0), eI (0), eI (0), eI (0), eR (67), eI (0), eI (0), eI (0), eI (0), eI (0), eI (0), eI (0), eI (0), eI (0), eI (0), eI (0), eI (0), eI (0), eI (0), eI (0), eI (0), eR (68), eR (69), eI (0), eI (0), eR (70), eR (71), eI (0), eI (0)])) (ha : w[65]? = some (cI 0 5768 A)) (hz : ∀ k, k < 6 → A k = 0) {a b c d f g h : Int32} : Ct G l yX7_bribe cX7_bribe 13 (some .int) 4 0 0 [eR (64), eI (a), eI (b), eI (c), eI (d), eI (f), eI (g), eI (h)] w (fun r w2 => r = some (eI (-1)) ∧ w2 = w) := by
  refine Ct_of (by decide +kernel) (Nat.le_of_ble_eq_true rfl) ?_
  intro p_ e_ s_ m_ a_ b_ t_ c_ K0 hr hin
  have K : wc_C p_ s_ m_ a_ t_ c_ G RX7 cX7_bribe 13 (w).length := K0
  clear K0
  refine WW_ls (ls2 := [some (eR (64)), some (eI (a)), some (eI (b)), some (eI (c)), some (eI (d)), some (eI (f)), some (eI (g)), some (eI (h)), none, none, none, none, none]) rfl ?_
  refine ww_aload_n K dX7_bribe_0 rfl ?_
  refine ww_iload_n K dX7_bribe_1 rfl ?_
  refine ww_iload_n K dX7_bribe_2 rfl ?_
  refine ww_iload_n K dX7_bribe_3 rfl ?_
  refine ww_iload K dX7_bribe_4 rfl ?_
  refine ww_iload K dX7_bribe_6 rfl ?_
  refine ww_iload K dX7_bribe_8 rfl ?_
  refine ww_cV K dX7_bribe_10 lc_X7_241 hm ⟨_, rfl, rfl⟩ (ct_X7_isMotion0 G l hm ha hz (a := a) (b := b) (c := c) (d := d) (f := f) (g := g)) rfl ⟨Nat.le_of_ble_eq_true rfl, Nat.le_of_ble_eq_true rfl⟩ (Nat.le_of_ble_eq_true rfl) ?_
  refine ww_if_ne (tgt := 18) K dX7_bribe_13 rfl (fun cc_ => absurd cc_ (by decide)) (fun _ => ?_)
  refine ww_iconst (v := (-1)) K dX7_bribe_16 rfl ?_
  exact ww_iret K dX7_bribe_17 hr ⟨rfl, rfl⟩
set_option maxRecDepth 100000 in
set_option maxHeartbeats 4000000 in
theorem ct_X7_lobby0 (G : EG) (l : Launch) {w : EW} {A : Nat → Int32} (hm : w[64]? = some (cO 7 [eR (65), eR (66), eI (0), eI (0), eI (0), eI (0), eI (0), eI (0), eI (0), eI (0), eR (67), eI (0), eI (0), eI (0), eI (0), eI (0), eI (0), eI (0), eI (0), eI (0), eI (0), eI (0), eI (0), eI (0), eI (0), eI (0), eI (0), eR (68), eR (69), eI (0), eI (0), eR (70), eR (71), eI (0), eI (0)])) (ha : w[65]? = some (cI 0 5768 A)) (hz : ∀ k, k < 6 → A k = 0) {a b c d f g h : Int32} : Ct G l yX7_lobby cX7_lobby 11 (some .int) 4 0 0 [eR (64), eI (a), eI (b), eI (c), eI (d), eI (f), eI (g), eI (h)] w (fun r w2 => r = some (eI (-1)) ∧ w2 = w) := by
  refine Ct_of (by decide +kernel) (Nat.le_of_ble_eq_true rfl) ?_
  intro p_ e_ s_ m_ a_ b_ t_ c_ K0 hr hin
  have K : wc_C p_ s_ m_ a_ t_ c_ G RX7 cX7_lobby 11 (w).length := K0
  clear K0
  refine WW_ls (ls2 := [some (eR (64)), some (eI (a)), some (eI (b)), some (eI (c)), some (eI (d)), some (eI (f)), some (eI (g)), some (eI (h)), none, none, none]) rfl ?_
  refine ww_aload_n K dX7_lobby_0 rfl ?_
  refine ww_iload_n K dX7_lobby_1 rfl ?_
  refine ww_iload_n K dX7_lobby_2 rfl ?_
  refine ww_iload_n K dX7_lobby_3 rfl ?_
  refine ww_iload K dX7_lobby_4 rfl ?_
  refine ww_iload K dX7_lobby_6 rfl ?_
  refine ww_iload K dX7_lobby_8 rfl ?_
  refine ww_cV K dX7_lobby_10 lc_X7_241 hm ⟨_, rfl, rfl⟩ (ct_X7_isMotion0 G l hm ha hz (a := a) (b := b) (c := c) (d := d) (f := f) (g := g)) rfl ⟨Nat.le_of_ble_eq_true rfl, Nat.le_of_ble_eq_true rfl⟩ (Nat.le_of_ble_eq_true rfl) ?_
  refine ww_if_eq (tgt := 22) K dX7_lobby_13 rfl (fun _ => ?_) (fun cc_ => absurd cc_ (by decide))
  refine ww_iconst (v := (-1)) K dX7_lobby_22 rfl ?_
  exact ww_iret K dX7_lobby_23 hr ⟨rfl, rfl⟩
set_option maxRecDepth 100000 in
set_option maxHeartbeats 4000000 in
theorem ct_X7_bargain0 (G : EG) (l : Launch) {w : EW} {A : Nat → Int32} (hm : w[64]? = some (cO 7 [eR (65), eR (66), eI (0), eI (0), eI (0), eI (0), eI (0), eI (0), eI (0), eI (0), eR (67), eI (0), eI (0), eI (0), eI (0), eI (0), eI (0), eI (0), eI (0), eI (0), eI (0), eI (0), eI (0), eI (0), eI (0), eI (0), eI (0), eR (68), eR (69), eI (0), eI (0), eR (70), eR (71), eI (0), eI (0)])) (ha : w[65]? = some (cI 0 5768 A)) (hz : ∀ k, k < 6 → A k = 0) {a b c : Int32} : Ct G l yX7_bargain cX7_bargain 10 (some .int) 4 0 0 [eR (64), eI (a), eI (b), eI (c)] w (fun r w2 => r = some (eI (-2)) ∧ w2 = w) := by
  refine Ct_of (by decide +kernel) (Nat.le_of_ble_eq_true rfl) ?_
  intro p_ e_ s_ m_ a_ b_ t_ c_ K0 hr hin
  have K : wc_C p_ s_ m_ a_ t_ c_ G RX7 cX7_bargain 10 (w).length := K0
  clear K0
  refine WW_ls (ls2 := [some (eR (64)), some (eI (a)), some (eI (b)), some (eI (c)), none, none, none, none, none, none]) rfl ?_
  refine ww_aload_n K dX7_bargain_0 rfl ?_
  refine ww_iconst (v := 5) K dX7_bargain_1 rfl ?_
  refine ww_iload_n K dX7_bargain_2 rfl ?_
  refine ww_cV K dX7_bargain_3 lc_X7_144 hm ⟨_, rfl, rfl⟩ (ct_X7_isOf0 G l hm ha hz (j := 5) (a := b) (wc_vin (by decide))) rfl ⟨Nat.le_of_ble_eq_true rfl, Nat.le_of_ble_eq_true rfl⟩ (Nat.le_of_ble_eq_true rfl) ?_
  refine ww_if_eq (tgt := 17) K dX7_bargain_6 rfl (fun _ => ?_) (fun cc_ => absurd cc_ (by decide))
  refine ww_bipush (v := (-2)) K dX7_bargain_17 rfl ?_
  exact ww_iret K dX7_bargain_19 hr ⟨rfl, rfl⟩
set_option maxRecDepth 100000 in
set_option maxHeartbeats 4000000 in
theorem ct_X7_was0 (G : EG) (l : Launch) {w : EW} {A : Nat → Int32} (hm : w[64]? = some (cO 7 [eR (65), eR (66), eI (0), eI (0), eI (0), eI (0), eI (0), eI (0), eI (0), eI (0), eR (67), eI (0), eI (0), eI (0), eI (0), eI (0), eI (0), eI (0), eI (0), eI (0), eI (0), eI (0), eI (0), eI (0), eI (0), eI (0), eI (0), eR (68), eR (69), eI (0), eI (0), eR (70), eR (71), eI (0), eI (0)])) (ha : w[65]? = some (cI 0 5768 A)) (hz : ∀ k, k < 6 → A k = 0) {a b c : Int32} : Ct G l yX7_was cX7_was 4 (some .int) 4 0 0 [eR (64), eI (a), eI (b), eI (c)] w (fun r w2 => r = some (eI (-2)) ∧ w2 = w) := by
  refine Ct_of (by decide +kernel) (Nat.le_of_ble_eq_true rfl) ?_
  intro p_ e_ s_ m_ a_ b_ t_ c_ K0 hr hin
  have K : wc_C p_ s_ m_ a_ t_ c_ G RX7 cX7_was 4 (w).length := K0
  clear K0
  refine WW_ls (ls2 := [some (eR (64)), some (eI (a)), some (eI (b)), some (eI (c))]) rfl ?_
  refine ww_aload_n K dX7_was_0 rfl ?_
  refine ww_iload_n K dX7_was_1 rfl ?_
  refine ww_cV K dX7_was_2 lc_X7_387 hm ⟨_, rfl, rfl⟩ (ct_X7_isSummer0 G l hm ha hz (a := a)) rfl ⟨Nat.le_of_ble_eq_true rfl, Nat.le_of_ble_eq_true rfl⟩ (Nat.le_of_ble_eq_true rfl) ?_
  refine ww_if_ne (tgt := 11) K dX7_was_5 rfl (fun cc_ => absurd cc_ (by decide)) (fun _ => ?_)
  refine ww_bipush (v := (-2)) K dX7_was_8 rfl ?_
  exact ww_iret K dX7_was_10 hr ⟨rfl, rfl⟩
set_option maxRecDepth 100000 in
set_option maxHeartbeats 4000000 in
theorem ct_X7_nature0 (G : EG) (l : Launch) {w : EW} {A : Nat → Int32} (hm : w[64]? = some (cO 7 [eR (65), eR (66), eI (0), eI (0), eI (0), eI (0), eI (0), eI (0), eI (0), eI (0), eR (67), eI (0), eI (0), eI (0), eI (0), eI (0), eI (0), eI (0), eI (0), eI (0), eI (0), eI (0), eI (0), eI (0), eI (0), eI (0), eI (0), eR (68), eR (69), eI (0), eI (0), eR (70), eR (71), eI (0), eI (0)])) (ha : w[65]? = some (cI 0 5768 A)) (hz : ∀ k, k < 6 → A k = 0) {a b c : Int32} : Ct G l yX7_nature cX7_nature 5 (some .int) 4 0 0 [eR (64), eI (a), eI (b), eI (c)] w (fun r w2 => r = some (eI (-2)) ∧ w2 = w) := by
  refine Ct_of (by decide +kernel) (Nat.le_of_ble_eq_true rfl) ?_
  intro p_ e_ s_ m_ a_ b_ t_ c_ K0 hr hin
  have K : wc_C p_ s_ m_ a_ t_ c_ G RX7 cX7_nature 5 (w).length := K0
  clear K0
  refine WW_ls (ls2 := [some (eR (64)), some (eI (a)), some (eI (b)), some (eI (c)), none]) rfl ?_
  refine ww_aload_n K dX7_nature_0 rfl ?_
  refine ww_iload_n K dX7_nature_1 rfl ?_
  refine ww_cV K dX7_nature_2 lc_X7_190 hm ⟨_, rfl, rfl⟩ (ct_X7_isRepublic0 G l hm ha hz (a := a)) rfl ⟨Nat.le_of_ble_eq_true rfl, Nat.le_of_ble_eq_true rfl⟩ (Nat.le_of_ble_eq_true rfl) ?_
  refine ww_if_eq (tgt := 16) K dX7_nature_5 rfl (fun _ => ?_) (fun cc_ => absurd cc_ (by decide))
  refine ww_bipush (v := (-2)) K dX7_nature_16 rfl ?_
  exact ww_iret K dX7_nature_18 hr ⟨rfl, rfl⟩
set_option maxRecDepth 100000 in
set_option maxHeartbeats 4000000 in
theorem ct_X7_seats0 (G : EG) (l : Launch) {w : EW} {A : Nat → Int32} (hm : w[64]? = some (cO 7 [eR (65), eR (66), eI (0), eI (0), eI (0), eI (0), eI (0), eI (0), eI (0), eI (0), eR (67), eI (0), eI (0), eI (0), eI (0), eI (0), eI (0), eI (0), eI (0), eI (0), eI (0), eI (0), eI (0), eI (0), eI (0), eI (0), eI (0), eR (68), eR (69), eI (0), eI (0), eR (70), eR (71), eI (0), eI (0)])) (ha : w[65]? = some (cI 0 5768 A)) (hz : ∀ k, k < 6 → A k = 0) {a b c : Int32} : Ct G l yX7_seats cX7_seats 6 (some .int) 4 0 0 [eR (64), eI (a), eI (b), eI (c)] w (fun r w2 => r = some (eI (-4)) ∧ w2 = w) := by
  refine Ct_of (by decide +kernel) (Nat.le_of_ble_eq_true rfl) ?_
  intro p_ e_ s_ m_ a_ b_ t_ c_ K0 hr hin
  have K : wc_C p_ s_ m_ a_ t_ c_ G RX7 cX7_seats 6 (w).length := K0
  clear K0
  refine WW_ls (ls2 := [some (eR (64)), some (eI (a)), some (eI (b)), some (eI (c)), none, none]) rfl ?_
  refine ww_aload_n K dX7_seats_0 rfl ?_
  refine ww_iload_n K dX7_seats_1 rfl ?_
  refine ww_cV K dX7_seats_2 lc_X7_190 hm ⟨_, rfl, rfl⟩ (ct_X7_isRepublic0 G l hm ha hz (a := a)) rfl ⟨Nat.le_of_ble_eq_true rfl, Nat.le_of_ble_eq_true rfl⟩ (Nat.le_of_ble_eq_true rfl) ?_
  refine ww_if_eq (tgt := 22) K dX7_seats_5 rfl (fun _ => ?_) (fun cc_ => absurd cc_ (by decide))
  refine ww_bipush (v := (-4)) K dX7_seats_22 rfl ?_
  exact ww_iret K dX7_seats_24 hr ⟨rfl, rfl⟩
set_option maxRecDepth 100000 in
set_option maxHeartbeats 4000000 in
theorem ct_X7_reshuffle0 (G : EG) (l : Launch) {w : EW} {A : Nat → Int32} (hm : w[64]? = some (cO 7 [eR (65), eR (66), eI (0), eI (0), eI (0), eI (0), eI (0), eI (0), eI (0), eI (0), eR (67), eI (0), eI (0), eI (0), eI (0), eI (0), eI (0), eI (0), eI (0), eI (0), eI (0), eI (0), eI (0), eI (0), eI (0), eI (0), eI (0), eR (68), eR (69), eI (0), eI (0), eR (70), eR (71), eI (0), eI (0)])) (ha : w[65]? = some (cI 0 5768 A)) (hz : ∀ k, k < 6 → A k = 0) {a b : Int32} : Ct G l yX7_reshuffle cX7_reshuffle 7 (some .int) 4 0 0 [eR (64), eI (a), eI (b)] w (fun r w2 => r = some (eI (-1)) ∧ w2 = w) := by
  refine Ct_of (by decide +kernel) (Nat.le_of_ble_eq_true rfl) ?_
  intro p_ e_ s_ m_ a_ b_ t_ c_ K0 hr hin
  have K : wc_C p_ s_ m_ a_ t_ c_ G RX7 cX7_reshuffle 7 (w).length := K0
  clear K0
  refine WW_ls (ls2 := [some (eR (64)), some (eI (a)), some (eI (b)), none, none, none, none]) rfl ?_
  refine ww_aload_n K dX7_reshuffle_0 rfl ?_
  refine ww_iload_n K dX7_reshuffle_1 rfl ?_
  refine ww_cV K dX7_reshuffle_2 lc_X7_190 hm ⟨_, rfl, rfl⟩ (ct_X7_isRepublic0 G l hm ha hz (a := a)) rfl ⟨Nat.le_of_ble_eq_true rfl, Nat.le_of_ble_eq_true rfl⟩ (Nat.le_of_ble_eq_true rfl) ?_
  refine ww_if_ne (tgt := 10) K dX7_reshuffle_5 rfl (fun cc_ => absurd cc_ (by decide)) (fun _ => ?_)
  refine ww_iconst (v := (-1)) K dX7_reshuffle_8 rfl ?_
  exact ww_iret K dX7_reshuffle_9 hr ⟨rfl, rfl⟩
set_option maxRecDepth 100000 in
set_option maxHeartbeats 4000000 in
theorem ct_X7_leak0 (G : EG) (l : Launch) {w : EW} {A : Nat → Int32} (hm : w[64]? = some (cO 7 [eR (65), eR (66), eI (0), eI (0), eI (0), eI (0), eI (0), eI (0), eI (0), eI (0), eR (67), eI (0), eI (0), eI (0), eI (0), eI (0), eI (0), eI (0), eI (0), eI (0), eI (0), eI (0), eI (0), eI (0), eI (0), eI (0), eI (0), eR (68), eR (69), eI (0), eI (0), eR (70), eR (71), eI (0), eI (0)])) (ha : w[65]? = some (cI 0 5768 A)) (hz : ∀ k, k < 6 → A k = 0) {a b c : Int32} : Ct G l yX7_leak cX7_leak 4 (some .int) 4 0 0 [eR (64), eI (a), eI (b), eI (c)] w (fun r w2 => r = some (eI (-2)) ∧ w2 = w) := by
  refine Ct_of (by decide +kernel) (Nat.le_of_ble_eq_true rfl) ?_
  intro p_ e_ s_ m_ a_ b_ t_ c_ K0 hr hin
  have K : wc_C p_ s_ m_ a_ t_ c_ G RX7 cX7_leak 4 (w).length := K0
  clear K0
  refine WW_ls (ls2 := [some (eR (64)), some (eI (a)), some (eI (b)), some (eI (c))]) rfl ?_
  refine ww_aload_n K dX7_leak_0 rfl ?_
  refine ww_iconst (v := 3) K dX7_leak_1 rfl ?_
  refine ww_iload_n K dX7_leak_2 rfl ?_
  refine ww_cV K dX7_leak_3 lc_X7_144 hm ⟨_, rfl, rfl⟩ (ct_X7_isOf0 G l hm ha hz (j := 3) (a := a) (wc_vin (by decide))) rfl ⟨Nat.le_of_ble_eq_true rfl, Nat.le_of_ble_eq_true rfl⟩ (Nat.le_of_ble_eq_true rfl) ?_
  refine ww_if_ne (tgt := 12) K dX7_leak_6 rfl (fun cc_ => absurd cc_ (by decide)) (fun _ => ?_)
  refine ww_bipush (v := (-2)) K dX7_leak_9 rfl ?_
  exact ww_iret K dX7_leak_11 hr ⟨rfl, rfl⟩
set_option maxRecDepth 100000 in
set_option maxHeartbeats 4000000 in
theorem ct_X7_fits0 (G : EG) (l : Launch) {w : EW} {A : Nat → Int32} (hm : w[64]? = some (cO 7 [eR (65), eR (66), eI (0), eI (0), eI (0), eI (0), eI (0), eI (0), eI (0), eI (0), eR (67), eI (0), eI (0), eI (0), eI (0), eI (0), eI (0), eI (0), eI (0), eI (0), eI (0), eI (0), eI (0), eI (0), eI (0), eI (0), eI (0), eR (68), eR (69), eI (0), eI (0), eR (70), eR (71), eI (0), eI (0)])) (ha : w[65]? = some (cI 0 5768 A)) (hz : ∀ k, k < 6 → A k = 0) {a b c d f : Int32} : Ct G l yX7_fits cX7_fits 9 (some .int) 4 0 0 [eR (64), eI (a), eI (b), eI (c), eI (d), eI (f)] w (fun r w2 => r = some (eI (-2)) ∧ w2 = w) := by
  refine Ct_of (by decide +kernel) (Nat.le_of_ble_eq_true rfl) ?_
  intro p_ e_ s_ m_ a_ b_ t_ c_ K0 hr hin
  have K : wc_C p_ s_ m_ a_ t_ c_ G RX7 cX7_fits 9 (w).length := K0
  clear K0
  refine WW_ls (ls2 := [some (eR (64)), some (eI (a)), some (eI (b)), some (eI (c)), some (eI (d)), some (eI (f)), none, none, none]) rfl ?_
  refine ww_aload_n K dX7_fits_0 rfl ?_
  refine ww_iload_n K dX7_fits_1 rfl ?_
  refine ww_iload_n K dX7_fits_2 rfl ?_
  refine ww_iload K dX7_fits_3 rfl ?_
  refine ww_iconst (v := 0) K dX7_fits_5 rfl ?_
  refine ww_iconst (v := 0) K dX7_fits_6 rfl ?_
  refine ww_iconst (v := 0) K dX7_fits_7 rfl ?_
  refine ww_cV K dX7_fits_8 lc_X7_241 hm ⟨_, rfl, rfl⟩ (ct_X7_isMotion0 G l hm ha hz (a := a) (b := c) (c := d) (d := 0) (f := 0) (g := 0)) rfl ⟨Nat.le_of_ble_eq_true rfl, Nat.le_of_ble_eq_true rfl⟩ (Nat.le_of_ble_eq_true rfl) ?_
  refine ww_if_eq (tgt := 23) K dX7_fits_11 rfl (fun _ => ?_) (fun cc_ => absurd cc_ (by decide))
  refine ww_bipush (v := (-2)) K dX7_fits_23 rfl ?_
  exact ww_iret K dX7_fits_25 hr ⟨rfl, rfl⟩
set_option maxRecDepth 100000 in
set_option maxHeartbeats 4000000 in
theorem ct_X7_drawn0 (G : EG) (l : Launch) {w : EW} {A : Nat → Int32} (hm : w[64]? = some (cO 7 [eR (65), eR (66), eI (0), eI (0), eI (0), eI (0), eI (0), eI (0), eI (0), eI (0), eR (67), eI (0), eI (0), eI (0), eI (0), eI (0), eI (0), eI (0), eI (0), eI (0), eI (0), eI (0), eI (0), eI (0), eI (0), eI (0), eI (0), eR (68), eR (69), eI (0), eI (0), eR (70), eR (71), eI (0), eI (0)])) (ha : w[65]? = some (cI 0 5768 A)) (hz : ∀ k, k < 6 → A k = 0) {a b c d : Int32} : Ct G l yX7_drawn cX7_drawn 12 (some .int) 4 0 0 [eR (64), eI (a), eI (b), eI (c), eI (d)] w (fun r w2 => r = some (eI (-2)) ∧ w2 = w) := by
  refine Ct_of (by decide +kernel) (Nat.le_of_ble_eq_true rfl) ?_
  intro p_ e_ s_ m_ a_ b_ t_ c_ K0 hr hin
  have K : wc_C p_ s_ m_ a_ t_ c_ G RX7 cX7_drawn 12 (w).length := K0
  clear K0
  refine WW_ls (ls2 := [some (eR (64)), some (eI (a)), some (eI (b)), some (eI (c)), some (eI (d)), none, none, none, none, none, none, none]) rfl ?_
  refine ww_aload_n K dX7_drawn_0 rfl ?_
  refine ww_iload_n K dX7_drawn_1 rfl ?_
  refine ww_cV K dX7_drawn_2 lc_X7_190 hm ⟨_, rfl, rfl⟩ (ct_X7_isRepublic0 G l hm ha hz (a := a)) rfl ⟨Nat.le_of_ble_eq_true rfl, Nat.le_of_ble_eq_true rfl⟩ (Nat.le_of_ble_eq_true rfl) ?_
  refine ww_if_eq (tgt := 29) K dX7_drawn_5 rfl (fun _ => ?_) (fun cc_ => absurd cc_ (by decide))
  refine ww_bipush (v := (-2)) K dX7_drawn_29 rfl ?_
  exact ww_iret K dX7_drawn_31 hr ⟨rfl, rfl⟩
end
section
theorem WW_w {p : Program} {l : Launch} {e : Env} {R : Room} {s : State} {m : MethodId} {args : Array Value} {below : List Frame} {meth : Method} {c : Code} {Q : State → Prop} {G : EG} {nL n0 s0 rc rs pc : Nat} {ls : List (Option EV)} {st : List EV} {w w2 : EW} (h : w = w2) (k : WW p l e R s m args below meth c Q G nL n0 s0 rc rs pc ls st w2) : WW p l e R s m args below meth c Q G nL n0 s0 rc rs pc ls st w := h ▸ k
section WFA
variable {p : Program} {l : Launch} {e : Env} {R : Room} {s : State} {m : MethodId} {args : Array Value} {below : List Frame} {meth : Method} {c : Code} {Q : State → Prop} {G : EG} {own : String} {cc : ByteArray} {nL n0 s0 rc rs pc : Nat} {ls : List (Option EV)} {st : List EV} {w : EW}
theorem ww_iastA (K : wc_C p s m args meth c G own cc nL n0) {w0 L L2 : EW} {o n : Nat} {f : Nat → Int32} {i x : Int32} (hd : decode cc pc = .ok (.iastore, 1)) (hk : L[o]? = some (cI 0 n f)) (hin : vp_in i n) (hL : L.set o (cI 0 n (upd f i.toNatClampNeg x)) = L2) (kk : WW p l e R s m args below meth c Q G nL n0 s0 rc rs (pc + 1) (ls) (st) (w0 ++ L2)) : WW p l e R s m args below meth c Q G nL n0 s0 rc rs (pc) (ls) (eI x :: eI i :: eR (w0.length + o) :: st) (w0 ++ L) := ww_iast K hd (wc_aget hk) hin (by rw [wc_aset, hL]; exact kk)
end WFA
theorem wc_assoc (a b c : EW) : (a ++ b) ++ c = a ++ (b ++ c) := List.append_assoc a b c
set_option maxRecDepth 100000 in
set_option maxHeartbeats 4000000 in
theorem ct_X4_init (G : EG) (l : Launch) {w0 : EW} {n : Nat} (hn : w0.length = n) : Ct G l yX4_init cX4_init 1 none 1 0 0 [eR n] (w0 ++ [cO 4 [eI 0, eI 0, eI 0]]) (fun r w2 => r = none ∧ w2 = w0 ++ [cO 4 [eI 0, eI 0, eI 0]]) := by
  subst hn
  refine Ct_of (by decide +kernel) (Nat.le_of_ble_eq_true rfl) ?_
  intro p_ e_ s_ m_ a_ b_ t_ c_ K0 hr hin
  have K : wc_C p_ s_ m_ a_ t_ c_ G RX4 cX4_init 1 (w0 ++ [cO 4 [eI 0, eI 0, eI 0]]).length := K0
  clear K0
  refine WW_ls (ls2 := [some (eR ((w0.length + 0)))]) rfl ?_
  refine ww_aload_n K dX4_init_0 rfl ?_
  refine ww_objInit K dX4_init_1 lo_X4_3 ⟨Nat.le_of_ble_eq_true rfl, Nat.le_of_ble_eq_true rfl⟩ ?_
  exact ww_vret K dX4_init_4 hr ⟨rfl, rfl⟩
set_option maxRecDepth 100000 in
set_option maxHeartbeats 4000000 in
theorem ct_X3_init (G : EG) (l : Launch) {w0 : EW} {n : Nat} (hn : w0.length = n) : Ct G l yX3_init cX3_init 1 none 1 1 200 [eR n] (w0 ++ [cO 3 [eI 0, eN]]) (fun r w2 => r = none ∧ w2 = w0 ++ [cO 3 [eI 0, eR ((n + 1))], cI 0 200 (fun _ => 0)]) := by
  subst hn
  refine Ct_of (by decide +kernel) (Nat.le_of_ble_eq_true rfl) ?_
  intro p_ e_ s_ m_ a_ b_ t_ c_ K0 hr hin
  have K : wc_C p_ s_ m_ a_ t_ c_ G RX3 cX3_init 1 (w0 ++ [cO 3 [eI 0, eN]]).length := K0
  clear K0
  refine WW_ls (ls2 := [some (eR ((w0.length + 0)))]) rfl ?_
  refine ww_aload_n K dX3_init_0 rfl ?_
  refine ww_objInit K dX3_init_1 lo_X3_3 ⟨Nat.le_of_ble_eq_true rfl, Nat.le_of_ble_eq_true rfl⟩ ?_
  refine ww_aload_n K dX3_init_4 rfl ?_
  refine ww_sipush (v := 200) K dX3_init_5 rfl ?_
  refine ww_newIA (N := 200) (rc := 0) (rs := 0) (L2 := [cO 3 [eI 0, eN], cI 0 200 (fun _ => 0)]) K dX3_init_8 la_int (by decide) rfl (by decide) rfl rfl ?_
  refine ww_putFA (L2 := [cO 3 [eI 0, eR ((w0.length + 1))], cI 0 200 (fun _ => 0)]) K hin dX3_init_10 lp_X3_9 (fun q h => by cases h; rfl) rfl (Nat.le_of_ble_eq_true rfl) rfl rfl rfl ?_
  exact ww_vret K dX3_init_13 hr ⟨rfl, rfl⟩
set_option maxRecDepth 100000 in
set_option maxHeartbeats 4000000 in
theorem ct_X2_init (G : EG) (l : Launch) {w0 : EW} {n : Nat} (hn : w0.length = n) : Ct G l yX2_init cX2_init 1 none 1 7 105 [eR n] (w0 ++ [cO 2 [eI 0, eN, eN, eN, eN, eN, eN, eN, eI 0, eI 0, eI 0, eI 0, eI 0, eI 0]]) (fun r w2 => r = none ∧ w2 = w0 ++ [cO 2 [eI 0, eR ((n + 1)), eR ((n + 2)), eR ((n + 3)), eR ((n + 4)), eR ((n + 5)), eR ((n + 6)), eR ((n + 7)), eI 0, eI 0, eI 0, eI 0, eI 0, eI 0], cI 0 6 (fun _ => 0), cI 0 6 (fun _ => 0), cI 0 6 (fun _ => 0), cI 0 6 (fun _ => 0), cI 0 72 (fun _ => 0), cI 0 6 (fun _ => 0), cI 0 3 (fun _ => 0)]) := by
  subst hn
  refine Ct_of (by decide +kernel) (Nat.le_of_ble_eq_true rfl) ?_
  intro p_ e_ s_ m_ a_ b_ t_ c_ K0 hr hin
  have K : wc_C p_ s_ m_ a_ t_ c_ G RX2 cX2_init 1 (w0 ++ [cO 2 [eI 0, eN, eN, eN, eN, eN, eN, eN, eI 0, eI 0, eI 0, eI 0, eI 0, eI 0]]).length := K0
  clear K0
  refine WW_ls (ls2 := [some (eR ((w0.length + 0)))]) rfl ?_
  refine ww_aload_n K dX2_init_0 rfl ?_
  refine ww_objInit K dX2_init_1 lo_X2_3 ⟨Nat.le_of_ble_eq_true rfl, Nat.le_of_ble_eq_true rfl⟩ ?_
  refine ww_aload_n K dX2_init_4 rfl ?_
  refine ww_bipush (v := 6) K dX2_init_5 rfl ?_
  refine ww_newIA (N := 6) (rc := 6) (rs := 99) (L2 := [cO 2 [eI 0, eN, eN, eN, eN, eN, eN, eN, eI 0, eI 0, eI 0, eI 0, eI 0, eI 0], cI 0 6 (fun _ => 0)]) K dX2_init_7 la_int (by decide) rfl (by decide) rfl rfl ?_
  refine ww_putFA (L2 := [cO 2 [eI 0, eR ((w0.length + 1)), eN, eN, eN, eN, eN, eN, eI 0, eI 0, eI 0, eI 0, eI 0, eI 0], cI 0 6 (fun _ => 0)]) K hin dX2_init_9 lp_X2_9 (fun q h => by cases h; rfl) rfl (Nat.le_of_ble_eq_true rfl) rfl rfl rfl ?_
  refine ww_aload_n K dX2_init_12 rfl ?_
  refine ww_bipush (v := 6) K dX2_init_13 rfl ?_
  refine ww_newIA (N := 6) (rc := 5) (rs := 93) (L2 := [cO 2 [eI 0, eR ((w0.length + 1)), eN, eN, eN, eN, eN, eN, eI 0, eI 0, eI 0, eI 0, eI 0, eI 0], cI 0 6 (fun _ => 0), cI 0 6 (fun _ => 0)]) K dX2_init_15 la_int (by decide) rfl (by decide) rfl rfl ?_
  refine ww_putFA (L2 := [cO 2 [eI 0, eR ((w0.length + 1)), eR ((w0.length + 2)), eN, eN, eN, eN, eN, eI 0, eI 0, eI 0, eI 0, eI 0, eI 0], cI 0 6 (fun _ => 0), cI 0 6 (fun _ => 0)]) K hin dX2_init_17 lp_X2_15 (fun q h => by cases h; rfl) rfl (Nat.le_of_ble_eq_true rfl) rfl rfl rfl ?_
  refine ww_aload_n K dX2_init_20 rfl ?_
  refine ww_bipush (v := 6) K dX2_init_21 rfl ?_
  refine ww_newIA (N := 6) (rc := 4) (rs := 87) (L2 := [cO 2 [eI 0, eR ((w0.length + 1)), eR ((w0.length + 2)), eN, eN, eN, eN, eN, eI 0, eI 0, eI 0, eI 0, eI 0, eI 0], cI 0 6 (fun _ => 0), cI 0 6 (fun _ => 0), cI 0 6 (fun _ => 0)]) K dX2_init_23 la_int (by decide) rfl (by decide) rfl rfl ?_
  refine ww_putFA (L2 := [cO 2 [eI 0, eR ((w0.length + 1)), eR ((w0.length + 2)), eR ((w0.length + 3)), eN, eN, eN, eN, eI 0, eI 0, eI 0, eI 0, eI 0, eI 0], cI 0 6 (fun _ => 0), cI 0 6 (fun _ => 0), cI 0 6 (fun _ => 0)]) K hin dX2_init_25 lp_X2_18 (fun q h => by cases h; rfl) rfl (Nat.le_of_ble_eq_true rfl) rfl rfl rfl ?_
  refine ww_aload_n K dX2_init_28 rfl ?_
  refine ww_bipush (v := 6) K dX2_init_29 rfl ?_
  refine ww_newIA (N := 6) (rc := 3) (rs := 81) (L2 := [cO 2 [eI 0, eR ((w0.length + 1)), eR ((w0.length + 2)), eR ((w0.length + 3)), eN, eN, eN, eN, eI 0, eI 0, eI 0, eI 0, eI 0, eI 0], cI 0 6 (fun _ => 0), cI 0 6 (fun _ => 0), cI 0 6 (fun _ => 0), cI 0 6 (fun _ => 0)]) K dX2_init_31 la_int (by decide) rfl (by decide) rfl rfl ?_
  refine ww_putFA (L2 := [cO 2 [eI 0, eR ((w0.length + 1)), eR ((w0.length + 2)), eR ((w0.length + 3)), eR ((w0.length + 4)), eN, eN, eN, eI 0, eI 0, eI 0, eI 0, eI 0, eI 0], cI 0 6 (fun _ => 0), cI 0 6 (fun _ => 0), cI 0 6 (fun _ => 0), cI 0 6 (fun _ => 0)]) K hin dX2_init_33 lp_X2_21 (fun q h => by cases h; rfl) rfl (Nat.le_of_ble_eq_true rfl) rfl rfl rfl ?_
  refine ww_aload_n K dX2_init_36 rfl ?_
  refine ww_bipush (v := 72) K dX2_init_37 rfl ?_
  refine ww_newIA (N := 72) (rc := 2) (rs := 9) (L2 := [cO 2 [eI 0, eR ((w0.length + 1)), eR ((w0.length + 2)), eR ((w0.length + 3)), eR ((w0.length + 4)), eN, eN, eN, eI 0, eI 0, eI 0, eI 0, eI 0, eI 0], cI 0 6 (fun _ => 0), cI 0 6 (fun _ => 0), cI 0 6 (fun _ => 0), cI 0 6 (fun _ => 0), cI 0 72 (fun _ => 0)]) K dX2_init_39 la_int (by decide) rfl (by decide) rfl rfl ?_
  refine ww_putFA (L2 := [cO 2 [eI 0, eR ((w0.length + 1)), eR ((w0.length + 2)), eR ((w0.length + 3)), eR ((w0.length + 4)), eR ((w0.length + 5)), eN, eN, eI 0, eI 0, eI 0, eI 0, eI 0, eI 0], cI 0 6 (fun _ => 0), cI 0 6 (fun _ => 0), cI 0 6 (fun _ => 0), cI 0 6 (fun _ => 0), cI 0 72 (fun _ => 0)]) K hin dX2_init_41 lp_X2_24 (fun q h => by cases h; rfl) rfl (Nat.le_of_ble_eq_true rfl) rfl rfl rfl ?_
  refine ww_aload_n K dX2_init_44 rfl ?_
  refine ww_bipush (v := 6) K dX2_init_45 rfl ?_
  refine ww_newIA (N := 6) (rc := 1) (rs := 3) (L2 := [cO 2 [eI 0, eR ((w0.length + 1)), eR ((w0.length + 2)), eR ((w0.length + 3)), eR ((w0.length + 4)), eR ((w0.length + 5)), eN, eN, eI 0, eI 0, eI 0, eI 0, eI 0, eI 0], cI 0 6 (fun _ => 0), cI 0 6 (fun _ => 0), cI 0 6 (fun _ => 0), cI 0 6 (fun _ => 0), cI 0 72 (fun _ => 0), cI 0 6 (fun _ => 0)]) K dX2_init_47 la_int (by decide) rfl (by decide) rfl rfl ?_
  refine ww_putFA (L2 := [cO 2 [eI 0, eR ((w0.length + 1)), eR ((w0.length + 2)), eR ((w0.length + 3)), eR ((w0.length + 4)), eR ((w0.length + 5)), eR ((w0.length + 6)), eN, eI 0, eI 0, eI 0, eI 0, eI 0, eI 0], cI 0 6 (fun _ => 0), cI 0 6 (fun _ => 0), cI 0 6 (fun _ => 0), cI 0 6 (fun _ => 0), cI 0 72 (fun _ => 0), cI 0 6 (fun _ => 0)]) K hin dX2_init_49 lp_X2_27 (fun q h => by cases h; rfl) rfl (Nat.le_of_ble_eq_true rfl) rfl rfl rfl ?_
  refine ww_aload_n K dX2_init_52 rfl ?_
  refine ww_iconst (v := 3) K dX2_init_53 rfl ?_
  refine ww_newIA (N := 3) (rc := 0) (rs := 0) (L2 := [cO 2 [eI 0, eR ((w0.length + 1)), eR ((w0.length + 2)), eR ((w0.length + 3)), eR ((w0.length + 4)), eR ((w0.length + 5)), eR ((w0.length + 6)), eN, eI 0, eI 0, eI 0, eI 0, eI 0, eI 0], cI 0 6 (fun _ => 0), cI 0 6 (fun _ => 0), cI 0 6 (fun _ => 0), cI 0 6 (fun _ => 0), cI 0 72 (fun _ => 0), cI 0 6 (fun _ => 0), cI 0 3 (fun _ => 0)]) K dX2_init_54 la_int (by decide) rfl (by decide) rfl rfl ?_
  refine ww_putFA (L2 := [cO 2 [eI 0, eR ((w0.length + 1)), eR ((w0.length + 2)), eR ((w0.length + 3)), eR ((w0.length + 4)), eR ((w0.length + 5)), eR ((w0.length + 6)), eR ((w0.length + 7)), eI 0, eI 0, eI 0, eI 0, eI 0, eI 0], cI 0 6 (fun _ => 0), cI 0 6 (fun _ => 0), cI 0 6 (fun _ => 0), cI 0 6 (fun _ => 0), cI 0 72 (fun _ => 0), cI 0 6 (fun _ => 0), cI 0 3 (fun _ => 0)]) K hin dX2_init_56 lp_X2_30 (fun q h => by cases h; rfl) rfl (Nat.le_of_ble_eq_true rfl) rfl rfl rfl ?_
  exact ww_vret K dX2_init_59 hr ⟨rfl, rfl⟩
set_option maxRecDepth 100000 in
set_option maxHeartbeats 4000000 in
theorem ct_X0_init (G : EG) (l : Launch) {w0 : EW} {n : Nat} (hn : w0.length = n) : Ct G l yX0_init cX0_init 1 none 2 3 12 [eR n] (w0 ++ [cO 0 [eN, eI 0, eI 0, eI 0, eN, eN, eI 0, eI 0, eI 0, eI 0, eI 0, eI 0, eI 0]]) (fun r w2 => r = none ∧ w2 = w0 ++ [cO 0 [eR ((n + 1)), eI 0, eI 0, eI 0, eR ((n + 2)), eR ((n + 3)), eI 0, eI 0, eI 0, eI 0, eI 0, eI 0, eI 0], cO 4 [eI 0, eI 0, eI 0], cI 0 6 (fun _ => 0), cI 0 3 (fun _ => 0)]) := by
  subst hn
  refine Ct_of (by decide +kernel) (Nat.le_of_ble_eq_true rfl) ?_
  intro p_ e_ s_ m_ a_ b_ t_ c_ K0 hr hin
  have K : wc_C p_ s_ m_ a_ t_ c_ G RX0 cX0_init 1 (w0 ++ [cO 0 [eN, eI 0, eI 0, eI 0, eN, eN, eI 0, eI 0, eI 0, eI 0, eI 0, eI 0, eI 0]]).length := K0
  clear K0
  refine WW_ls (ls2 := [some (eR ((w0.length + 0)))]) rfl ?_
  refine ww_aload_n K dX0_init_0 rfl ?_
  refine ww_objInit K dX0_init_1 lo_X0_3 ⟨Nat.le_of_ble_eq_true rfl, Nat.le_of_ble_eq_true rfl⟩ ?_
  refine ww_aload_n K dX0_init_4 rfl ?_
  refine ww_newA (rc := 2) (rs := 9) (L2 := [cO 0 [eN, eI 0, eI 0, eI 0, eN, eN, eI 0, eI 0, eI 0, eI 0, eI 0, eI 0, eI 0], cO 4 [eI 0, eI 0, eI 0]]) K dX0_init_5 ln_X0_9 rfl rfl ?_
  refine ww_dup K dX0_init_8 trivial ?_
  refine WW_w (w2 := (w0 ++ [cO 0 [eN, eI 0, eI 0, eI 0, eN, eN, eI 0, eI 0, eI 0, eI 0, eI 0, eI 0, eI 0]]) ++ [cO 4 [eI 0, eI 0, eI 0]]) ((wc_assoc w0 [cO 0 [eN, eI 0, eI 0, eI 0, eN, eN, eI 0, eI 0, eI 0, eI 0, eI 0, eI 0, eI 0]] [cO 4 [eI 0, eI 0, eI 0]]).symm) ?_
  refine ww_callIN (rc := 2) (rs := 9) K dX0_init_9 lc_X0_11 (ct_X4_init G l (w0 := w0 ++ [cO 0 [eN, eI 0, eI 0, eI 0, eN, eN, eI 0, eI 0, eI 0, eI 0, eI 0, eI 0, eI 0]]) (n := w0.length + 1) (List.length_append)) rfl ⟨Nat.le_of_ble_eq_true rfl, Nat.le_of_ble_eq_true rfl⟩ (Nat.le_of_ble_eq_true rfl) (fun r w2 hq _ _ => ?_)
  obtain ⟨rfl, rfl⟩ := hq
  refine WW_w (w2 := w0 ++ [cO 0 [eN, eI 0, eI 0, eI 0, eN, eN, eI 0, eI 0, eI 0, eI 0, eI 0, eI 0, eI 0], cO 4 [eI 0, eI 0, eI 0]]) (wc_assoc w0 [cO 0 [eN, eI 0, eI 0, eI 0, eN, eN, eI 0, eI 0, eI 0, eI 0, eI 0, eI 0, eI 0]] [cO 4 [eI 0, eI 0, eI 0]]) ?_
  refine ww_putFA (L2 := [cO 0 [eR ((w0.length + 1)), eI 0, eI 0, eI 0, eN, eN, eI 0, eI 0, eI 0, eI 0, eI 0, eI 0, eI 0], cO 4 [eI 0, eI 0, eI 0]]) K hin dX0_init_12 lp_X0_12 (fun q h => by cases h; rfl) rfl (Nat.le_of_ble_eq_true rfl) rfl rfl rfl ?_
  refine ww_aload_n K dX0_init_15 rfl ?_
  refine ww_bipush (v := 6) K dX0_init_16 rfl ?_
  refine ww_newIA (N := 6) (rc := 1) (rs := 3) (L2 := [cO 0 [eR ((w0.length + 1)), eI 0, eI 0, eI 0, eN, eN, eI 0, eI 0, eI 0, eI 0, eI 0, eI 0, eI 0], cO 4 [eI 0, eI 0, eI 0], cI 0 6 (fun _ => 0)]) K dX0_init_18 la_int (by decide) rfl (by decide) rfl rfl ?_
  refine ww_putFA (L2 := [cO 0 [eR ((w0.length + 1)), eI 0, eI 0, eI 0, eR ((w0.length + 2)), eN, eI 0, eI 0, eI 0, eI 0, eI 0, eI 0, eI 0], cO 4 [eI 0, eI 0, eI 0], cI 0 6 (fun _ => 0)]) K hin dX0_init_20 lp_X0_18 (fun q h => by cases h; rfl) rfl (Nat.le_of_ble_eq_true rfl) rfl rfl rfl ?_
  refine ww_aload_n K dX0_init_23 rfl ?_
  refine ww_iconst (v := 3) K dX0_init_24 rfl ?_
  refine ww_newIA (N := 3) (rc := 0) (rs := 0) (L2 := [cO 0 [eR ((w0.length + 1)), eI 0, eI 0, eI 0, eR ((w0.length + 2)), eN, eI 0, eI 0, eI 0, eI 0, eI 0, eI 0, eI 0], cO 4 [eI 0, eI 0, eI 0], cI 0 6 (fun _ => 0), cI 0 3 (fun _ => 0)]) K dX0_init_25 la_int (by decide) rfl (by decide) rfl rfl ?_
  refine ww_putFA (L2 := [cO 0 [eR ((w0.length + 1)), eI 0, eI 0, eI 0, eR ((w0.length + 2)), eR ((w0.length + 3)), eI 0, eI 0, eI 0, eI 0, eI 0, eI 0, eI 0], cO 4 [eI 0, eI 0, eI 0], cI 0 6 (fun _ => 0), cI 0 3 (fun _ => 0)]) K hin dX0_init_27 lp_X0_22 (fun q h => by cases h; rfl) rfl (Nat.le_of_ble_eq_true rfl) rfl rfl rfl ?_
  exact ww_vret K dX0_init_30 hr ⟨rfl, rfl⟩
set_option maxRecDepth 100000 in
set_option maxHeartbeats 4000000 in
theorem ct_X1_init (G : EG) (l : Launch) {w0 : EW} {n : Nat} (hn : w0.length = n) : Ct G l yX1_init cX1_init 1 none 2 12 926 [eR n] (w0 ++ [cO 1 [eN, eN, eI 0, eI 0, eN, eN, eI 0, eI 0, eI 0, eI 0, eI 0, eI 0]]) (fun r w2 => r = none ∧ w2 = w0 ++ [cO 1 [eR ((n + 1)), eR ((n + 9)), eI 0, eI 0, eR ((n + 11)), eR ((n + 12)), eI 0, eI 0, eI 0, eI 0, eI 0, eI 0], cO 2 [eI 0, eR ((n + 2)), eR ((n + 3)), eR ((n + 4)), eR ((n + 5)), eR ((n + 6)), eR ((n + 7)), eR ((n + 8)), eI 0, eI 0, eI 0, eI 0, eI 0, eI 0], cI 0 6 (fun _ => 0), cI 0 6 (fun _ => 0), cI 0 6 (fun _ => 0), cI 0 6 (fun _ => 0), cI 0 72 (fun _ => 0), cI 0 6 (fun _ => 0), cI 0 3 (fun _ => 0), cO 3 [eI 0, eR ((n + 10))], cI 0 200 (fun _ => 0), cI 0 600 (fun _ => 0), cI 0 5 (fun _ => 0)]) := by
  subst hn
  refine Ct_of (by decide +kernel) (Nat.le_of_ble_eq_true rfl) ?_
  intro p_ e_ s_ m_ a_ b_ t_ c_ K0 hr hin
  have K : wc_C p_ s_ m_ a_ t_ c_ G RX1 cX1_init 1 (w0 ++ [cO 1 [eN, eN, eI 0, eI 0, eN, eN, eI 0, eI 0, eI 0, eI 0, eI 0, eI 0]]).length := K0
  clear K0
  refine WW_ls (ls2 := [some (eR ((w0.length + 0)))]) rfl ?_
  refine ww_aload_n K dX1_init_0 rfl ?_
  refine ww_objInit K dX1_init_1 lo_X1_3 ⟨Nat.le_of_ble_eq_true rfl, Nat.le_of_ble_eq_true rfl⟩ ?_
  refine ww_aload_n K dX1_init_4 rfl ?_
  refine ww_newA (rc := 11) (rs := 912) (L2 := [cO 1 [eN, eN, eI 0, eI 0, eN, eN, eI 0, eI 0, eI 0, eI 0, eI 0, eI 0], cO 2 [eI 0, eN, eN, eN, eN, eN, eN, eN, eI 0, eI 0, eI 0, eI 0, eI 0, eI 0]]) K dX1_init_5 ln_X1_9 rfl rfl ?_
  refine ww_dup K dX1_init_8 trivial ?_
  refine WW_w (w2 := (w0 ++ [cO 1 [eN, eN, eI 0, eI 0, eN, eN, eI 0, eI 0, eI 0, eI 0, eI 0, eI 0]]) ++ [cO 2 [eI 0, eN, eN, eN, eN, eN, eN, eN, eI 0, eI 0, eI 0, eI 0, eI 0, eI 0]]) ((wc_assoc w0 [cO 1 [eN, eN, eI 0, eI 0, eN, eN, eI 0, eI 0, eI 0, eI 0, eI 0, eI 0]] [cO 2 [eI 0, eN, eN, eN, eN, eN, eN, eN, eI 0, eI 0, eI 0, eI 0, eI 0, eI 0]]).symm) ?_
  refine ww_callIN (rc := 4) (rs := 807) K dX1_init_9 lc_X1_11 (ct_X2_init G l (w0 := w0 ++ [cO 1 [eN, eN, eI 0, eI 0, eN, eN, eI 0, eI 0, eI 0, eI 0, eI 0, eI 0]]) (n := w0.length + 1) (List.length_append)) rfl ⟨Nat.le_of_ble_eq_true rfl, Nat.le_of_ble_eq_true rfl⟩ (Nat.le_of_ble_eq_true rfl) (fun r w2 hq _ _ => ?_)
  obtain ⟨rfl, rfl⟩ := hq
  refine WW_w (w2 := w0 ++ [cO 1 [eN, eN, eI 0, eI 0, eN, eN, eI 0, eI 0, eI 0, eI 0, eI 0, eI 0], cO 2 [eI 0, eR ((w0.length + 2)), eR ((w0.length + 3)), eR ((w0.length + 4)), eR ((w0.length + 5)), eR ((w0.length + 6)), eR ((w0.length + 7)), eR ((w0.length + 8)), eI 0, eI 0, eI 0, eI 0, eI 0, eI 0], cI 0 6 (fun _ => 0), cI 0 6 (fun _ => 0), cI 0 6 (fun _ => 0), cI 0 6 (fun _ => 0), cI 0 72 (fun _ => 0), cI 0 6 (fun _ => 0), cI 0 3 (fun _ => 0)]) (wc_assoc w0 [cO 1 [eN, eN, eI 0, eI 0, eN, eN, eI 0, eI 0, eI 0, eI 0, eI 0, eI 0]] [cO 2 [eI 0, eR ((w0.length + 2)), eR ((w0.length + 3)), eR ((w0.length + 4)), eR ((w0.length + 5)), eR ((w0.length + 6)), eR ((w0.length + 7)), eR ((w0.length + 8)), eI 0, eI 0, eI 0, eI 0, eI 0, eI 0], cI 0 6 (fun _ => 0), cI 0 6 (fun _ => 0), cI 0 6 (fun _ => 0), cI 0 6 (fun _ => 0), cI 0 72 (fun _ => 0), cI 0 6 (fun _ => 0), cI 0 3 (fun _ => 0)]) ?_
  refine ww_putFA (L2 := [cO 1 [eR ((w0.length + 1)), eN, eI 0, eI 0, eN, eN, eI 0, eI 0, eI 0, eI 0, eI 0, eI 0], cO 2 [eI 0, eR ((w0.length + 2)), eR ((w0.length + 3)), eR ((w0.length + 4)), eR ((w0.length + 5)), eR ((w0.length + 6)), eR ((w0.length + 7)), eR ((w0.length + 8)), eI 0, eI 0, eI 0, eI 0, eI 0, eI 0], cI 0 6 (fun _ => 0), cI 0 6 (fun _ => 0), cI 0 6 (fun _ => 0), cI 0 6 (fun _ => 0), cI 0 72 (fun _ => 0), cI 0 6 (fun _ => 0), cI 0 3 (fun _ => 0)]) K hin dX1_init_12 lp_X1_12 (fun q h => by cases h; rfl) rfl (Nat.le_of_ble_eq_true rfl) rfl rfl rfl ?_
  refine ww_aload_n K dX1_init_15 rfl ?_
  refine ww_newA (rc := 3) (rs := 805) (L2 := [cO 1 [eR ((w0.length + 1)), eN, eI 0, eI 0, eN, eN, eI 0, eI 0, eI 0, eI 0, eI 0, eI 0], cO 2 [eI 0, eR ((w0.length + 2)), eR ((w0.length + 3)), eR ((w0.length + 4)), eR ((w0.length + 5)), eR ((w0.length + 6)), eR ((w0.length + 7)), eR ((w0.length + 8)), eI 0, eI 0, eI 0, eI 0, eI 0, eI 0], cI 0 6 (fun _ => 0), cI 0 6 (fun _ => 0), cI 0 6 (fun _ => 0), cI 0 6 (fun _ => 0), cI 0 72 (fun _ => 0), cI 0 6 (fun _ => 0), cI 0 3 (fun _ => 0), cO 3 [eI 0, eN]]) K dX1_init_16 ln_X1_18 rfl rfl ?_
  refine ww_dup K dX1_init_19 trivial ?_
  refine WW_w (w2 := (w0 ++ [cO 1 [eR ((w0.length + 1)), eN, eI 0, eI 0, eN, eN, eI 0, eI 0, eI 0, eI 0, eI 0, eI 0], cO 2 [eI 0, eR ((w0.length + 2)), eR ((w0.length + 3)), eR ((w0.length + 4)), eR ((w0.length + 5)), eR ((w0.length + 6)), eR ((w0.length + 7)), eR ((w0.length + 8)), eI 0, eI 0, eI 0, eI 0, eI 0, eI 0], cI 0 6 (fun _ => 0), cI 0 6 (fun _ => 0), cI 0 6 (fun _ => 0), cI 0 6 (fun _ => 0), cI 0 72 (fun _ => 0), cI 0 6 (fun _ => 0), cI 0 3 (fun _ => 0)]) ++ [cO 3 [eI 0, eN]]) ((wc_assoc w0 [cO 1 [eR ((w0.length + 1)), eN, eI 0, eI 0, eN, eN, eI 0, eI 0, eI 0, eI 0, eI 0, eI 0], cO 2 [eI 0, eR ((w0.length + 2)), eR ((w0.length + 3)), eR ((w0.length + 4)), eR ((w0.length + 5)), eR ((w0.length + 6)), eR ((w0.length + 7)), eR ((w0.length + 8)), eI 0, eI 0, eI 0, eI 0, eI 0, eI 0], cI 0 6 (fun _ => 0), cI 0 6 (fun _ => 0), cI 0 6 (fun _ => 0), cI 0 6 (fun _ => 0), cI 0 72 (fun _ => 0), cI 0 6 (fun _ => 0), cI 0 3 (fun _ => 0)] [cO 3 [eI 0, eN]]).symm) ?_
  refine ww_callIN (rc := 2) (rs := 605) K dX1_init_20 lc_X1_20 (ct_X3_init G l (w0 := w0 ++ [cO 1 [eR ((w0.length + 1)), eN, eI 0, eI 0, eN, eN, eI 0, eI 0, eI 0, eI 0, eI 0, eI 0], cO 2 [eI 0, eR ((w0.length + 2)), eR ((w0.length + 3)), eR ((w0.length + 4)), eR ((w0.length + 5)), eR ((w0.length + 6)), eR ((w0.length + 7)), eR ((w0.length + 8)), eI 0, eI 0, eI 0, eI 0, eI 0, eI 0], cI 0 6 (fun _ => 0), cI 0 6 (fun _ => 0), cI 0 6 (fun _ => 0), cI 0 6 (fun _ => 0), cI 0 72 (fun _ => 0), cI 0 6 (fun _ => 0), cI 0 3 (fun _ => 0)]) (n := w0.length + 9) (List.length_append)) rfl ⟨Nat.le_of_ble_eq_true rfl, Nat.le_of_ble_eq_true rfl⟩ (Nat.le_of_ble_eq_true rfl) (fun r w2 hq _ _ => ?_)
  obtain ⟨rfl, rfl⟩ := hq
  refine WW_w (w2 := w0 ++ [cO 1 [eR ((w0.length + 1)), eN, eI 0, eI 0, eN, eN, eI 0, eI 0, eI 0, eI 0, eI 0, eI 0], cO 2 [eI 0, eR ((w0.length + 2)), eR ((w0.length + 3)), eR ((w0.length + 4)), eR ((w0.length + 5)), eR ((w0.length + 6)), eR ((w0.length + 7)), eR ((w0.length + 8)), eI 0, eI 0, eI 0, eI 0, eI 0, eI 0], cI 0 6 (fun _ => 0), cI 0 6 (fun _ => 0), cI 0 6 (fun _ => 0), cI 0 6 (fun _ => 0), cI 0 72 (fun _ => 0), cI 0 6 (fun _ => 0), cI 0 3 (fun _ => 0), cO 3 [eI 0, eR ((w0.length + 10))], cI 0 200 (fun _ => 0)]) (wc_assoc w0 [cO 1 [eR ((w0.length + 1)), eN, eI 0, eI 0, eN, eN, eI 0, eI 0, eI 0, eI 0, eI 0, eI 0], cO 2 [eI 0, eR ((w0.length + 2)), eR ((w0.length + 3)), eR ((w0.length + 4)), eR ((w0.length + 5)), eR ((w0.length + 6)), eR ((w0.length + 7)), eR ((w0.length + 8)), eI 0, eI 0, eI 0, eI 0, eI 0, eI 0], cI 0 6 (fun _ => 0), cI 0 6 (fun _ => 0), cI 0 6 (fun _ => 0), cI 0 6 (fun _ => 0), cI 0 72 (fun _ => 0), cI 0 6 (fun _ => 0), cI 0 3 (fun _ => 0)] [cO 3 [eI 0, eR ((w0.length + 10))], cI 0 200 (fun _ => 0)]) ?_
  refine ww_putFA (L2 := [cO 1 [eR ((w0.length + 1)), eR ((w0.length + 9)), eI 0, eI 0, eN, eN, eI 0, eI 0, eI 0, eI 0, eI 0, eI 0], cO 2 [eI 0, eR ((w0.length + 2)), eR ((w0.length + 3)), eR ((w0.length + 4)), eR ((w0.length + 5)), eR ((w0.length + 6)), eR ((w0.length + 7)), eR ((w0.length + 8)), eI 0, eI 0, eI 0, eI 0, eI 0, eI 0], cI 0 6 (fun _ => 0), cI 0 6 (fun _ => 0), cI 0 6 (fun _ => 0), cI 0 6 (fun _ => 0), cI 0 72 (fun _ => 0), cI 0 6 (fun _ => 0), cI 0 3 (fun _ => 0), cO 3 [eI 0, eR ((w0.length + 10))], cI 0 200 (fun _ => 0)]) K hin dX1_init_23 lp_X1_21 (fun q h => by cases h; rfl) rfl (Nat.le_of_ble_eq_true rfl) rfl rfl rfl ?_
  refine ww_aload_n K dX1_init_26 rfl ?_
  refine ww_sipush (v := 600) K dX1_init_27 rfl ?_
  refine ww_newIA (N := 600) (rc := 1) (rs := 5) (L2 := [cO 1 [eR ((w0.length + 1)), eR ((w0.length + 9)), eI 0, eI 0, eN, eN, eI 0, eI 0, eI 0, eI 0, eI 0, eI 0], cO 2 [eI 0, eR ((w0.length + 2)), eR ((w0.length + 3)), eR ((w0.length + 4)), eR ((w0.length + 5)), eR ((w0.length + 6)), eR ((w0.length + 7)), eR ((w0.length + 8)), eI 0, eI 0, eI 0, eI 0, eI 0, eI 0], cI 0 6 (fun _ => 0), cI 0 6 (fun _ => 0), cI 0 6 (fun _ => 0), cI 0 6 (fun _ => 0), cI 0 72 (fun _ => 0), cI 0 6 (fun _ => 0), cI 0 3 (fun _ => 0), cO 3 [eI 0, eR ((w0.length + 10))], cI 0 200 (fun _ => 0), cI 0 600 (fun _ => 0)]) K dX1_init_30 la_int (by decide) rfl (by decide) rfl rfl ?_
  refine ww_putFA (L2 := [cO 1 [eR ((w0.length + 1)), eR ((w0.length + 9)), eI 0, eI 0, eR ((w0.length + 11)), eN, eI 0, eI 0, eI 0, eI 0, eI 0, eI 0], cO 2 [eI 0, eR ((w0.length + 2)), eR ((w0.length + 3)), eR ((w0.length + 4)), eR ((w0.length + 5)), eR ((w0.length + 6)), eR ((w0.length + 7)), eR ((w0.length + 8)), eI 0, eI 0, eI 0, eI 0, eI 0, eI 0], cI 0 6 (fun _ => 0), cI 0 6 (fun _ => 0), cI 0 6 (fun _ => 0), cI 0 6 (fun _ => 0), cI 0 72 (fun _ => 0), cI 0 6 (fun _ => 0), cI 0 3 (fun _ => 0), cO 3 [eI 0, eR ((w0.length + 10))], cI 0 200 (fun _ => 0), cI 0 600 (fun _ => 0)]) K hin dX1_init_32 lp_X1_25 (fun q h => by cases h; rfl) rfl (Nat.le_of_ble_eq_true rfl) rfl rfl rfl ?_
  refine ww_aload_n K dX1_init_35 rfl ?_
  refine ww_iconst (v := 5) K dX1_init_36 rfl ?_
  refine ww_newIA (N := 5) (rc := 0) (rs := 0) (L2 := [cO 1 [eR ((w0.length + 1)), eR ((w0.length + 9)), eI 0, eI 0, eR ((w0.length + 11)), eN, eI 0, eI 0, eI 0, eI 0, eI 0, eI 0], cO 2 [eI 0, eR ((w0.length + 2)), eR ((w0.length + 3)), eR ((w0.length + 4)), eR ((w0.length + 5)), eR ((w0.length + 6)), eR ((w0.length + 7)), eR ((w0.length + 8)), eI 0, eI 0, eI 0, eI 0, eI 0, eI 0], cI 0 6 (fun _ => 0), cI 0 6 (fun _ => 0), cI 0 6 (fun _ => 0), cI 0 6 (fun _ => 0), cI 0 72 (fun _ => 0), cI 0 6 (fun _ => 0), cI 0 3 (fun _ => 0), cO 3 [eI 0, eR ((w0.length + 10))], cI 0 200 (fun _ => 0), cI 0 600 (fun _ => 0), cI 0 5 (fun _ => 0)]) K dX1_init_37 la_int (by decide) rfl (by decide) rfl rfl ?_
  refine ww_putFA (L2 := [cO 1 [eR ((w0.length + 1)), eR ((w0.length + 9)), eI 0, eI 0, eR ((w0.length + 11)), eR ((w0.length + 12)), eI 0, eI 0, eI 0, eI 0, eI 0, eI 0], cO 2 [eI 0, eR ((w0.length + 2)), eR ((w0.length + 3)), eR ((w0.length + 4)), eR ((w0.length + 5)), eR ((w0.length + 6)), eR ((w0.length + 7)), eR ((w0.length + 8)), eI 0, eI 0, eI 0, eI 0, eI 0, eI 0], cI 0 6 (fun _ => 0), cI 0 6 (fun _ => 0), cI 0 6 (fun _ => 0), cI 0 6 (fun _ => 0), cI 0 72 (fun _ => 0), cI 0 6 (fun _ => 0), cI 0 3 (fun _ => 0), cO 3 [eI 0, eR ((w0.length + 10))], cI 0 200 (fun _ => 0), cI 0 600 (fun _ => 0), cI 0 5 (fun _ => 0)]) K hin dX1_init_39 lp_X1_29 (fun q h => by cases h; rfl) rfl (Nat.le_of_ble_eq_true rfl) rfl rfl rfl ?_
  exact ww_vret K dX1_init_42 hr ⟨rfl, rfl⟩
set_option maxRecDepth 100000 in
set_option maxHeartbeats 4000000 in
theorem ct_X5_init (G : EG) (l : Launch) {w0 : EW} {n : Nat} (hn : w0.length = n) : Ct G l yX5_init cX5_init 2 none 2 40 2876 [eR n] (w0 ++ [cO 5 [eN, eI 0, eI 0, eI 0, eN, eN, eN]]) (fun r w2 => r = none ∧ w2 = w0 ++ [cO 5 [eR ((n + 1)), eI 0, eI 0, eI ((-1)), eR ((n + 2)), eR ((n + 3)), eR ((n + 4))], cI 0 600 (fun _ => 0), cI 0 6 (fun _ => 0), cQ 2 2 (va_up (va_up (fun _ => none) 0 (some (n + 5))) 1 (some (n + 13))), cQ 3 10 (va_up (va_up (va_up (va_up (va_up (va_up (va_up (va_up (va_up (va_up (fun _ => none) 0 (some (n + 21))) 1 (some (n + 23))) 2 (some (n + 25))) 3 (some (n + 27))) 4 (some (n + 29))) 5 (some (n + 31))) 6 (some (n + 33))) 7 (some (n + 35))) 8 (some (n + 37))) 9 (some (n + 39))), cO 2 [eI 0, eR ((n + 6)), eR ((n + 7)), eR ((n + 8)), eR ((n + 9)), eR ((n + 10)), eR ((n + 11)), eR ((n + 12)), eI 0, eI 0, eI 0, eI 0, eI 0, eI 0], cI 0 6 (fun _ => 0), cI 0 6 (fun _ => 0), cI 0 6 (fun _ => 0), cI 0 6 (fun _ => 0), cI 0 72 (fun _ => 0), cI 0 6 (fun _ => 0), cI 0 3 (fun _ => 0), cO 2 [eI 0, eR ((n + 14)), eR ((n + 15)), eR ((n + 16)), eR ((n + 17)), eR ((n + 18)), eR ((n + 19)), eR ((n + 20)), eI 0, eI 0, eI 0, eI 0, eI 0, eI 0], cI 0 6 (fun _ => 0), cI 0 6 (fun _ => 0), cI 0 6 (fun _ => 0), cI 0 6 (fun _ => 0), cI 0 72 (fun _ => 0), cI 0 6 (fun _ => 0), cI 0 3 (fun _ => 0), cO 3 [eI 0, eR ((n + 22))], cI 0 200 (fun _ => 0), cO 3 [eI 0, eR ((n + 24))], cI 0 200 (fun _ => 0), cO 3 [eI 0, eR ((n + 26))], cI 0 200 (fun _ => 0), cO 3 [eI 0, eR ((n + 28))], cI 0 200 (fun _ => 0), cO 3 [eI 0, eR ((n + 30))], cI 0 200 (fun _ => 0), cO 3 [eI 0, eR ((n + 32))], cI 0 200 (fun _ => 0), cO 3 [eI 0, eR ((n + 34))], cI 0 200 (fun _ => 0), cO 3 [eI 0, eR ((n + 36))], cI 0 200 (fun _ => 0), cO 3 [eI 0, eR ((n + 38))], cI 0 200 (fun _ => 0), cO 3 [eI 0, eR ((n + 40))], cI 0 200 (fun _ => 0)]) := by
  subst hn
  refine Ct_of (by decide +kernel) (Nat.le_of_ble_eq_true rfl) ?_
  intro p_ e_ s_ m_ a_ b_ t_ c_ K0 hr hin
  have K : wc_C p_ s_ m_ a_ t_ c_ G RX5 cX5_init 2 (w0 ++ [cO 5 [eN, eI 0, eI 0, eI 0, eN, eN, eN]]).length := K0
  clear K0
  refine WW_ls (ls2 := [some (eR ((w0.length + 0))), none]) rfl ?_
  refine ww_aload_n K dX5_init_0 rfl ?_
  refine ww_objInit K dX5_init_1 lo_X5_3 ⟨Nat.le_of_ble_eq_true rfl, Nat.le_of_ble_eq_true rfl⟩ ?_
  refine ww_aload_n K dX5_init_4 rfl ?_
  refine ww_sipush (v := 600) K dX5_init_5 rfl ?_
  refine ww_newIA (N := 600) (rc := 39) (rs := 2276) (L2 := [cO 5 [eN, eI 0, eI 0, eI 0, eN, eN, eN], cI 0 600 (fun _ => 0)]) K dX5_init_8 la_int (by decide) rfl (by decide) rfl rfl ?_
  refine ww_putFA (L2 := [cO 5 [eR ((w0.length + 1)), eI 0, eI 0, eI 0, eN, eN, eN], cI 0 600 (fun _ => 0)]) K hin dX5_init_10 lp_X5_9 (fun q h => by cases h; rfl) rfl (Nat.le_of_ble_eq_true rfl) rfl rfl rfl ?_
  refine ww_aload_n K dX5_init_13 rfl ?_
  refine ww_iconst (v := (-1)) K dX5_init_14 rfl ?_
  refine ww_putA (L2 := [cO 5 [eR ((w0.length + 1)), eI 0, eI 0, eI ((-1)), eN, eN, eN], cI 0 600 (fun _ => 0)]) K dX5_init_15 lp_X5_15 rfl (Nat.le_of_ble_eq_true rfl) rfl rfl rfl ?_
  refine ww_aload_n K dX5_init_18 rfl ?_
  refine ww_bipush (v := 6) K dX5_init_19 rfl ?_
  refine ww_newIA (N := 6) (rc := 38) (rs := 2270) (L2 := [cO 5 [eR ((w0.length + 1)), eI 0, eI 0, eI ((-1)), eN, eN, eN], cI 0 600 (fun _ => 0), cI 0 6 (fun _ => 0)]) K dX5_init_21 la_int (by decide) rfl (by decide) rfl rfl ?_
  refine ww_putFA (L2 := [cO 5 [eR ((w0.length + 1)), eI 0, eI 0, eI ((-1)), eR ((w0.length + 2)), eN, eN], cI 0 600 (fun _ => 0), cI 0 6 (fun _ => 0)]) K hin dX5_init_23 lp_X5_19 (fun q h => by cases h; rfl) rfl (Nat.le_of_ble_eq_true rfl) rfl rfl rfl ?_
  refine ww_aload_n K dX5_init_26 rfl ?_
  refine ww_iconst (v := 2) K dX5_init_27 rfl ?_
  refine ww_newq2A (N := 2) (rc := 37) (rs := 2268) (L2 := [cO 5 [eR ((w0.length + 1)), eI 0, eI 0, eI ((-1)), eR ((w0.length + 2)), eN, eN], cI 0 600 (fun _ => 0), cI 0 6 (fun _ => 0), cQ 2 2 (fun _ => none)]) K dX5_init_28 lq_X5_22 (by decide) rfl (by decide) rfl rfl ?_
  refine ww_putFA (L2 := [cO 5 [eR ((w0.length + 1)), eI 0, eI 0, eI ((-1)), eR ((w0.length + 2)), eR ((w0.length + 3)), eN], cI 0 600 (fun _ => 0), cI 0 6 (fun _ => 0), cQ 2 2 (fun _ => none)]) K hin dX5_init_31 lp_X5_24 (fun q h => by cases h; rfl) rfl (Nat.le_of_ble_eq_true rfl) rfl rfl rfl ?_
  refine ww_aload_n K dX5_init_34 rfl ?_
  refine ww_bipush (v := 10) K dX5_init_35 rfl ?_
  refine ww_newq3A (N := 10) (rc := 36) (rs := 2258) (L2 := [cO 5 [eR ((w0.length + 1)), eI 0, eI 0, eI ((-1)), eR ((w0.length + 2)), eR ((w0.length + 3)), eN], cI 0 600 (fun _ => 0), cI 0 6 (fun _ => 0), cQ 2 2 (fun _ => none), cQ 3 10 (fun _ => none)]) K dX5_init_37 lq_X5_28 (by decide) rfl (by decide) rfl rfl ?_
  refine ww_putFA (L2 := [cO 5 [eR ((w0.length + 1)), eI 0, eI 0, eI ((-1)), eR ((w0.length + 2)), eR ((w0.length + 3)), eR ((w0.length + 4))], cI 0 600 (fun _ => 0), cI 0 6 (fun _ => 0), cQ 2 2 (fun _ => none), cQ 3 10 (fun _ => none)]) K hin dX5_init_40 lp_X5_30 (fun q h => by cases h; rfl) rfl (Nat.le_of_ble_eq_true rfl) rfl rfl rfl ?_
  refine ww_iconst (v := 0) K dX5_init_43 rfl ?_
  refine ww_istore_n (ls2 := [some (eR ((w0.length + 0))), some (eI (0))]) K dX5_init_44 (by decide) rfl ?_
  refine ww_iload_n K dX5_init_45 rfl ?_
  refine ww_aload_n K dX5_init_46 rfl ?_
  refine ww_getA K dX5_init_47 lf_X5_24 rfl rfl ?_
  refine ww_alenq2A K dX5_init_50 rfl ?_
  rw [show Int32.ofNat 2 = 2 from rfl]
  refine ww_icmp_ge (tgt := 73) K dX5_init_51 rfl (fun cc_ => absurd cc_ (by decide)) (fun _ => ?_)
  refine ww_aload_n K dX5_init_54 rfl ?_
  refine ww_getA K dX5_init_55 lf_X5_24 rfl rfl ?_
  refine ww_iload_n K dX5_init_58 rfl ?_
  refine ww_newA (rc := 35) (rs := 2244) (L2 := [cO 5 [eR ((w0.length + 1)), eI 0, eI 0, eI ((-1)), eR ((w0.length + 2)), eR ((w0.length + 3)), eR ((w0.length + 4))], cI 0 600 (fun _ => 0), cI 0 6 (fun _ => 0), cQ 2 2 (fun _ => none), cQ 3 10 (fun _ => none), cO 2 [eI 0, eN, eN, eN, eN, eN, eN, eN, eI 0, eI 0, eI 0, eI 0, eI 0, eI 0]]) K dX5_init_59 ln_X5_22 rfl rfl ?_
  refine ww_dup K dX5_init_62 trivial ?_
  refine WW_w (w2 := (w0 ++ [cO 5 [eR ((w0.length + 1)), eI 0, eI 0, eI ((-1)), eR ((w0.length + 2)), eR ((w0.length + 3)), eR ((w0.length + 4))], cI 0 600 (fun _ => 0), cI 0 6 (fun _ => 0), cQ 2 2 (fun _ => none), cQ 3 10 (fun _ => none)]) ++ [cO 2 [eI 0, eN, eN, eN, eN, eN, eN, eN, eI 0, eI 0, eI 0, eI 0, eI 0, eI 0]]) ((wc_assoc w0 [cO 5 [eR ((w0.length + 1)), eI 0, eI 0, eI ((-1)), eR ((w0.length + 2)), eR ((w0.length + 3)), eR ((w0.length + 4))], cI 0 600 (fun _ => 0), cI 0 6 (fun _ => 0), cQ 2 2 (fun _ => none), cQ 3 10 (fun _ => none)] [cO 2 [eI 0, eN, eN, eN, eN, eN, eN, eN, eI 0, eI 0, eI 0, eI 0, eI 0, eI 0]]).symm) ?_
  refine ww_callIN (rc := 28) (rs := 2139) K dX5_init_63 lc_X5_34 (ct_X2_init G l (w0 := w0 ++ [cO 5 [eR ((w0.length + 1)), eI 0, eI 0, eI ((-1)), eR ((w0.length + 2)), eR ((w0.length + 3)), eR ((w0.length + 4))], cI 0 600 (fun _ => 0), cI 0 6 (fun _ => 0), cQ 2 2 (fun _ => none), cQ 3 10 (fun _ => none)]) (n := w0.length + 5) (List.length_append)) rfl ⟨Nat.le_of_ble_eq_true rfl, Nat.le_of_ble_eq_true rfl⟩ (Nat.le_of_ble_eq_true rfl) (fun r w2 hq _ _ => ?_)
  obtain ⟨rfl, rfl⟩ := hq
  refine WW_w (w2 := w0 ++ [cO 5 [eR ((w0.length + 1)), eI 0, eI 0, eI ((-1)), eR ((w0.length + 2)), eR ((w0.length + 3)), eR ((w0.length + 4))], cI 0 600 (fun _ => 0), cI 0 6 (fun _ => 0), cQ 2 2 (fun _ => none), cQ 3 10 (fun _ => none), cO 2 [eI 0, eR ((w0.length + 6)), eR ((w0.length + 7)), eR ((w0.length + 8)), eR ((w0.length + 9)), eR ((w0.length + 10)), eR ((w0.length + 11)), eR ((w0.length + 12)), eI 0, eI 0, eI 0, eI 0, eI 0, eI 0], cI 0 6 (fun _ => 0), cI 0 6 (fun _ => 0), cI 0 6 (fun _ => 0), cI 0 6 (fun _ => 0), cI 0 72 (fun _ => 0), cI 0 6 (fun _ => 0), cI 0 3 (fun _ => 0)]) (wc_assoc w0 [cO 5 [eR ((w0.length + 1)), eI 0, eI 0, eI ((-1)), eR ((w0.length + 2)), eR ((w0.length + 3)), eR ((w0.length + 4))], cI 0 600 (fun _ => 0), cI 0 6 (fun _ => 0), cQ 2 2 (fun _ => none), cQ 3 10 (fun _ => none)] [cO 2 [eI 0, eR ((w0.length + 6)), eR ((w0.length + 7)), eR ((w0.length + 8)), eR ((w0.length + 9)), eR ((w0.length + 10)), eR ((w0.length + 11)), eR ((w0.length + 12)), eI 0, eI 0, eI 0, eI 0, eI 0, eI 0], cI 0 6 (fun _ => 0), cI 0 6 (fun _ => 0), cI 0 6 (fun _ => 0), cI 0 6 (fun _ => 0), cI 0 72 (fun _ => 0), cI 0 6 (fun _ => 0), cI 0 3 (fun _ => 0)]) ?_
  refine ww_aast2A (L2 := [cO 5 [eR ((w0.length + 1)), eI 0, eI 0, eI ((-1)), eR ((w0.length + 2)), eR ((w0.length + 3)), eR ((w0.length + 4))], cI 0 600 (fun _ => 0), cI 0 6 (fun _ => 0), cQ 2 2 (va_up (fun _ => none) 0 (some (w0.length + 5))), cQ 3 10 (fun _ => none), cO 2 [eI 0, eR ((w0.length + 6)), eR ((w0.length + 7)), eR ((w0.length + 8)), eR ((w0.length + 9)), eR ((w0.length + 10)), eR ((w0.length + 11)), eR ((w0.length + 12)), eI 0, eI 0, eI 0, eI 0, eI 0, eI 0], cI 0 6 (fun _ => 0), cI 0 6 (fun _ => 0), cI 0 6 (fun _ => 0), cI 0 6 (fun _ => 0), cI 0 72 (fun _ => 0), cI 0 6 (fun _ => 0), cI 0 3 (fun _ => 0)]) K dX5_init_66 rfl rfl (wc_vin (by decide)) rfl ?_
  refine ww_iinc (ls2 := [some (eR ((w0.length + 0))), some (eI (1))]) K dX5_init_67 (by decide) rfl rfl ?_
  refine ww_goto (tgt := 45) K dX5_init_70 rfl ?_
  refine ww_iload_n K dX5_init_45 rfl ?_
  refine ww_aload_n K dX5_init_46 rfl ?_
  refine ww_getA K dX5_init_47 lf_X5_24 rfl rfl ?_
  refine ww_alenq2A K dX5_init_50 rfl ?_
  rw [show Int32.ofNat 2 = 2 from rfl]
  refine ww_icmp_ge (tgt := 73) K dX5_init_51 rfl (fun cc_ => absurd cc_ (by decide)) (fun _ => ?_)
  refine ww_aload_n K dX5_init_54 rfl ?_
  refine ww_getA K dX5_init_55 lf_X5_24 rfl rfl ?_
  refine ww_iload_n K dX5_init_58 rfl ?_
  refine ww_newA (rc := 27) (rs := 2125) (L2 := [cO 5 [eR ((w0.length + 1)), eI 0, eI 0, eI ((-1)), eR ((w0.length + 2)), eR ((w0.length + 3)), eR ((w0.length + 4))], cI 0 600 (fun _ => 0), cI 0 6 (fun _ => 0), cQ 2 2 (va_up (fun _ => none) 0 (some (w0.length + 5))), cQ 3 10 (fun _ => none), cO 2 [eI 0, eR ((w0.length + 6)), eR ((w0.length + 7)), eR ((w0.length + 8)), eR ((w0.length + 9)), eR ((w0.length + 10)), eR ((w0.length + 11)), eR ((w0.length + 12)), eI 0, eI 0, eI 0, eI 0, eI 0, eI 0], cI 0 6 (fun _ => 0), cI 0 6 (fun _ => 0), cI 0 6 (fun _ => 0), cI 0 6 (fun _ => 0), cI 0 72 (fun _ => 0), cI 0 6 (fun _ => 0), cI 0 3 (fun _ => 0), cO 2 [eI 0, eN, eN, eN, eN, eN, eN, eN, eI 0, eI 0, eI 0, eI 0, eI 0, eI 0]]) K dX5_init_59 ln_X5_22 rfl rfl ?_
  refine ww_dup K dX5_init_62 trivial ?_
  refine WW_w (w2 := (w0 ++ [cO 5 [eR ((w0.length + 1)), eI 0, eI 0, eI ((-1)), eR ((w0.length + 2)), eR ((w0.length + 3)), eR ((w0.length + 4))], cI 0 600 (fun _ => 0), cI 0 6 (fun _ => 0), cQ 2 2 (va_up (fun _ => none) 0 (some (w0.length + 5))), cQ 3 10 (fun _ => none), cO 2 [eI 0, eR ((w0.length + 6)), eR ((w0.length + 7)), eR ((w0.length + 8)), eR ((w0.length + 9)), eR ((w0.length + 10)), eR ((w0.length + 11)), eR ((w0.length + 12)), eI 0, eI 0, eI 0, eI 0, eI 0, eI 0], cI 0 6 (fun _ => 0), cI 0 6 (fun _ => 0), cI 0 6 (fun _ => 0), cI 0 6 (fun _ => 0), cI 0 72 (fun _ => 0), cI 0 6 (fun _ => 0), cI 0 3 (fun _ => 0)]) ++ [cO 2 [eI 0, eN, eN, eN, eN, eN, eN, eN, eI 0, eI 0, eI 0, eI 0, eI 0, eI 0]]) ((wc_assoc w0 [cO 5 [eR ((w0.length + 1)), eI 0, eI 0, eI ((-1)), eR ((w0.length + 2)), eR ((w0.length + 3)), eR ((w0.length + 4))], cI 0 600 (fun _ => 0), cI 0 6 (fun _ => 0), cQ 2 2 (va_up (fun _ => none) 0 (some (w0.length + 5))), cQ 3 10 (fun _ => none), cO 2 [eI 0, eR ((w0.length + 6)), eR ((w0.length + 7)), eR ((w0.length + 8)), eR ((w0.length + 9)), eR ((w0.length + 10)), eR ((w0.length + 11)), eR ((w0.length + 12)), eI 0, eI 0, eI 0, eI 0, eI 0, eI 0], cI 0 6 (fun _ => 0), cI 0 6 (fun _ => 0), cI 0 6 (fun _ => 0), cI 0 6 (fun _ => 0), cI 0 72 (fun _ => 0), cI 0 6 (fun _ => 0), cI 0 3 (fun _ => 0)] [cO 2 [eI 0, eN, eN, eN, eN, eN, eN, eN, eI 0, eI 0, eI 0, eI 0, eI 0, eI 0]]).symm) ?_
  refine ww_callIN (rc := 20) (rs := 2020) K dX5_init_63 lc_X5_34 (ct_X2_init G l (w0 := w0 ++ [cO 5 [eR ((w0.length + 1)), eI 0, eI 0, eI ((-1)), eR ((w0.length + 2)), eR ((w0.length + 3)), eR ((w0.length + 4))], cI 0 600 (fun _ => 0), cI 0 6 (fun _ => 0), cQ 2 2 (va_up (fun _ => none) 0 (some (w0.length + 5))), cQ 3 10 (fun _ => none), cO 2 [eI 0, eR ((w0.length + 6)), eR ((w0.length + 7)), eR ((w0.length + 8)), eR ((w0.length + 9)), eR ((w0.length + 10)), eR ((w0.length + 11)), eR ((w0.length + 12)), eI 0, eI 0, eI 0, eI 0, eI 0, eI 0], cI 0 6 (fun _ => 0), cI 0 6 (fun _ => 0), cI 0 6 (fun _ => 0), cI 0 6 (fun _ => 0), cI 0 72 (fun _ => 0), cI 0 6 (fun _ => 0), cI 0 3 (fun _ => 0)]) (n := w0.length + 13) (List.length_append)) rfl ⟨Nat.le_of_ble_eq_true rfl, Nat.le_of_ble_eq_true rfl⟩ (Nat.le_of_ble_eq_true rfl) (fun r w2 hq _ _ => ?_)
  obtain ⟨rfl, rfl⟩ := hq
  refine WW_w (w2 := w0 ++ [cO 5 [eR ((w0.length + 1)), eI 0, eI 0, eI ((-1)), eR ((w0.length + 2)), eR ((w0.length + 3)), eR ((w0.length + 4))], cI 0 600 (fun _ => 0), cI 0 6 (fun _ => 0), cQ 2 2 (va_up (fun _ => none) 0 (some (w0.length + 5))), cQ 3 10 (fun _ => none), cO 2 [eI 0, eR ((w0.length + 6)), eR ((w0.length + 7)), eR ((w0.length + 8)), eR ((w0.length + 9)), eR ((w0.length + 10)), eR ((w0.length + 11)), eR ((w0.length + 12)), eI 0, eI 0, eI 0, eI 0, eI 0, eI 0], cI 0 6 (fun _ => 0), cI 0 6 (fun _ => 0), cI 0 6 (fun _ => 0), cI 0 6 (fun _ => 0), cI 0 72 (fun _ => 0), cI 0 6 (fun _ => 0), cI 0 3 (fun _ => 0), cO 2 [eI 0, eR ((w0.length + 14)), eR ((w0.length + 15)), eR ((w0.length + 16)), eR ((w0.length + 17)), eR ((w0.length + 18)), eR ((w0.length + 19)), eR ((w0.length + 20)), eI 0, eI 0, eI 0, eI 0, eI 0, eI 0], cI 0 6 (fun _ => 0), cI 0 6 (fun _ => 0), cI 0 6 (fun _ => 0), cI 0 6 (fun _ => 0), cI 0 72 (fun _ => 0), cI 0 6 (fun _ => 0), cI 0 3 (fun _ => 0)]) (wc_assoc w0 [cO 5 [eR ((w0.length + 1)), eI 0, eI 0, eI ((-1)), eR ((w0.length + 2)), eR ((w0.length + 3)), eR ((w0.length + 4))], cI 0 600 (fun _ => 0), cI 0 6 (fun _ => 0), cQ 2 2 (va_up (fun _ => none) 0 (some (w0.length + 5))), cQ 3 10 (fun _ => none), cO 2 [eI 0, eR ((w0.length + 6)), eR ((w0.length + 7)), eR ((w0.length + 8)), eR ((w0.length + 9)), eR ((w0.length + 10)), eR ((w0.length + 11)), eR ((w0.length + 12)), eI 0, eI 0, eI 0, eI 0, eI 0, eI 0], cI 0 6 (fun _ => 0), cI 0 6 (fun _ => 0), cI 0 6 (fun _ => 0), cI 0 6 (fun _ => 0), cI 0 72 (fun _ => 0), cI 0 6 (fun _ => 0), cI 0 3 (fun _ => 0)] [cO 2 [eI 0, eR ((w0.length + 14)), eR ((w0.length + 15)), eR ((w0.length + 16)), eR ((w0.length + 17)), eR ((w0.length + 18)), eR ((w0.length + 19)), eR ((w0.length + 20)), eI 0, eI 0, eI 0, eI 0, eI 0, eI 0], cI 0 6 (fun _ => 0), cI 0 6 (fun _ => 0), cI 0 6 (fun _ => 0), cI 0 6 (fun _ => 0), cI 0 72 (fun _ => 0), cI 0 6 (fun _ => 0), cI 0 3 (fun _ => 0)]) ?_
  refine ww_aast2A (L2 := [cO 5 [eR ((w0.length + 1)), eI 0, eI 0, eI ((-1)), eR ((w0.length + 2)), eR ((w0.length + 3)), eR ((w0.length + 4))], cI 0 600 (fun _ => 0), cI 0 6 (fun _ => 0), cQ 2 2 (va_up (va_up (fun _ => none) 0 (some (w0.length + 5))) 1 (some (w0.length + 13))), cQ 3 10 (fun _ => none), cO 2 [eI 0, eR ((w0.length + 6)), eR ((w0.length + 7)), eR ((w0.length + 8)), eR ((w0.length + 9)), eR ((w0.length + 10)), eR ((w0.length + 11)), eR ((w0.length + 12)), eI 0, eI 0, eI 0, eI 0, eI 0, eI 0], cI 0 6 (fun _ => 0), cI 0 6 (fun _ => 0), cI 0 6 (fun _ => 0), cI 0 6 (fun _ => 0), cI 0 72 (fun _ => 0), cI 0 6 (fun _ => 0), cI 0 3 (fun _ => 0), cO 2 [eI 0, eR ((w0.length + 14)), eR ((w0.length + 15)), eR ((w0.length + 16)), eR ((w0.length + 17)), eR ((w0.length + 18)), eR ((w0.length + 19)), eR ((w0.length + 20)), eI 0, eI 0, eI 0, eI 0, eI 0, eI 0], cI 0 6 (fun _ => 0), cI 0 6 (fun _ => 0), cI 0 6 (fun _ => 0), cI 0 6 (fun _ => 0), cI 0 72 (fun _ => 0), cI 0 6 (fun _ => 0), cI 0 3 (fun _ => 0)]) K dX5_init_66 rfl rfl (wc_vin (by decide)) rfl ?_
  refine ww_iinc (ls2 := [some (eR ((w0.length + 0))), some (eI (2))]) K dX5_init_67 (by decide) rfl rfl ?_
  refine ww_goto (tgt := 45) K dX5_init_70 rfl ?_
  refine ww_iload_n K dX5_init_45 rfl ?_
  refine ww_aload_n K dX5_init_46 rfl ?_
  refine ww_getA K dX5_init_47 lf_X5_24 rfl rfl ?_
  refine ww_alenq2A K dX5_init_50 rfl ?_
  rw [show Int32.ofNat 2 = 2 from rfl]
  refine ww_icmp_ge (tgt := 73) K dX5_init_51 rfl (fun _ => ?_) (fun cc_ => absurd cc_ (by decide))
  refine ww_iconst (v := 0) K dX5_init_73 rfl ?_
  refine ww_istore_n (ls2 := [some (eR ((w0.length + 0))), some (eI (0))]) K dX5_init_74 (by decide) rfl ?_
  refine ww_iload_n K dX5_init_75 rfl ?_
  refine ww_aload_n K dX5_init_76 rfl ?_
  refine ww_getA K dX5_init_77 lf_X5_30 rfl rfl ?_
  refine ww_alenq3A K dX5_init_80 rfl ?_
  rw [show Int32.ofNat 10 = 10 from rfl]
  refine ww_icmp_ge (tgt := 103) K dX5_init_81 rfl (fun cc_ => absurd cc_ (by decide)) (fun _ => ?_)
  refine ww_aload_n K dX5_init_84 rfl ?_
  refine ww_getA K dX5_init_85 lf_X5_30 rfl rfl ?_
  refine ww_iload_n K dX5_init_88 rfl ?_
  refine ww_newA (rc := 19) (rs := 2018) (L2 := [cO 5 [eR ((w0.length + 1)), eI 0, eI 0, eI ((-1)), eR ((w0.length + 2)), eR ((w0.length + 3)), eR ((w0.length + 4))], cI 0 600 (fun _ => 0), cI 0 6 (fun _ => 0), cQ 2 2 (va_up (va_up (fun _ => none) 0 (some (w0.length + 5))) 1 (some (w0.length + 13))), cQ 3 10 (fun _ => none), cO 2 [eI 0, eR ((w0.length + 6)), eR ((w0.length + 7)), eR ((w0.length + 8)), eR ((w0.length + 9)), eR ((w0.length + 10)), eR ((w0.length + 11)), eR ((w0.length + 12)), eI 0, eI 0, eI 0, eI 0, eI 0, eI 0], cI 0 6 (fun _ => 0), cI 0 6 (fun _ => 0), cI 0 6 (fun _ => 0), cI 0 6 (fun _ => 0), cI 0 72 (fun _ => 0), cI 0 6 (fun _ => 0), cI 0 3 (fun _ => 0), cO 2 [eI 0, eR ((w0.length + 14)), eR ((w0.length + 15)), eR ((w0.length + 16)), eR ((w0.length + 17)), eR ((w0.length + 18)), eR ((w0.length + 19)), eR ((w0.length + 20)), eI 0, eI 0, eI 0, eI 0, eI 0, eI 0], cI 0 6 (fun _ => 0), cI 0 6 (fun _ => 0), cI 0 6 (fun _ => 0), cI 0 6 (fun _ => 0), cI 0 72 (fun _ => 0), cI 0 6 (fun _ => 0), cI 0 3 (fun _ => 0), cO 3 [eI 0, eN]]) K dX5_init_89 ln_X5_28 rfl rfl ?_
  refine ww_dup K dX5_init_92 trivial ?_
  refine WW_w (w2 := (w0 ++ [cO 5 [eR ((w0.length + 1)), eI 0, eI 0, eI ((-1)), eR ((w0.length + 2)), eR ((w0.length + 3)), eR ((w0.length + 4))], cI 0 600 (fun _ => 0), cI 0 6 (fun _ => 0), cQ 2 2 (va_up (va_up (fun _ => none) 0 (some (w0.length + 5))) 1 (some (w0.length + 13))), cQ 3 10 (fun _ => none), cO 2 [eI 0, eR ((w0.length + 6)), eR ((w0.length + 7)), eR ((w0.length + 8)), eR ((w0.length + 9)), eR ((w0.length + 10)), eR ((w0.length + 11)), eR ((w0.length + 12)), eI 0, eI 0, eI 0, eI 0, eI 0, eI 0], cI 0 6 (fun _ => 0), cI 0 6 (fun _ => 0), cI 0 6 (fun _ => 0), cI 0 6 (fun _ => 0), cI 0 72 (fun _ => 0), cI 0 6 (fun _ => 0), cI 0 3 (fun _ => 0), cO 2 [eI 0, eR ((w0.length + 14)), eR ((w0.length + 15)), eR ((w0.length + 16)), eR ((w0.length + 17)), eR ((w0.length + 18)), eR ((w0.length + 19)), eR ((w0.length + 20)), eI 0, eI 0, eI 0, eI 0, eI 0, eI 0], cI 0 6 (fun _ => 0), cI 0 6 (fun _ => 0), cI 0 6 (fun _ => 0), cI 0 6 (fun _ => 0), cI 0 72 (fun _ => 0), cI 0 6 (fun _ => 0), cI 0 3 (fun _ => 0)]) ++ [cO 3 [eI 0, eN]]) ((wc_assoc w0 [cO 5 [eR ((w0.length + 1)), eI 0, eI 0, eI ((-1)), eR ((w0.length + 2)), eR ((w0.length + 3)), eR ((w0.length + 4))], cI 0 600 (fun _ => 0), cI 0 6 (fun _ => 0), cQ 2 2 (va_up (va_up (fun _ => none) 0 (some (w0.length + 5))) 1 (some (w0.length + 13))), cQ 3 10 (fun _ => none), cO 2 [eI 0, eR ((w0.length + 6)), eR ((w0.length + 7)), eR ((w0.length + 8)), eR ((w0.length + 9)), eR ((w0.length + 10)), eR ((w0.length + 11)), eR ((w0.length + 12)), eI 0, eI 0, eI 0, eI 0, eI 0, eI 0], cI 0 6 (fun _ => 0), cI 0 6 (fun _ => 0), cI 0 6 (fun _ => 0), cI 0 6 (fun _ => 0), cI 0 72 (fun _ => 0), cI 0 6 (fun _ => 0), cI 0 3 (fun _ => 0), cO 2 [eI 0, eR ((w0.length + 14)), eR ((w0.length + 15)), eR ((w0.length + 16)), eR ((w0.length + 17)), eR ((w0.length + 18)), eR ((w0.length + 19)), eR ((w0.length + 20)), eI 0, eI 0, eI 0, eI 0, eI 0, eI 0], cI 0 6 (fun _ => 0), cI 0 6 (fun _ => 0), cI 0 6 (fun _ => 0), cI 0 6 (fun _ => 0), cI 0 72 (fun _ => 0), cI 0 6 (fun _ => 0), cI 0 3 (fun _ => 0)] [cO 3 [eI 0, eN]]).symm) ?_
  refine ww_callIN (rc := 18) (rs := 1818) K dX5_init_93 lc_X5_35 (ct_X3_init G l (w0 := w0 ++ [cO 5 [eR ((w0.length + 1)), eI 0, eI 0, eI ((-1)), eR ((w0.length + 2)), eR ((w0.length + 3)), eR ((w0.length + 4))], cI 0 600 (fun _ => 0), cI 0 6 (fun _ => 0), cQ 2 2 (va_up (va_up (fun _ => none) 0 (some (w0.length + 5))) 1 (some (w0.length + 13))), cQ 3 10 (fun _ => none), cO 2 [eI 0, eR ((w0.length + 6)), eR ((w0.length + 7)), eR ((w0.length + 8)), eR ((w0.length + 9)), eR ((w0.length + 10)), eR ((w0.length + 11)), eR ((w0.length + 12)), eI 0, eI 0, eI 0, eI 0, eI 0, eI 0], cI 0 6 (fun _ => 0), cI 0 6 (fun _ => 0), cI 0 6 (fun _ => 0), cI 0 6 (fun _ => 0), cI 0 72 (fun _ => 0), cI 0 6 (fun _ => 0), cI 0 3 (fun _ => 0), cO 2 [eI 0, eR ((w0.length + 14)), eR ((w0.length + 15)), eR ((w0.length + 16)), eR ((w0.length + 17)), eR ((w0.length + 18)), eR ((w0.length + 19)), eR ((w0.length + 20)), eI 0, eI 0, eI 0, eI 0, eI 0, eI 0], cI 0 6 (fun _ => 0), cI 0 6 (fun _ => 0), cI 0 6 (fun _ => 0), cI 0 6 (fun _ => 0), cI 0 72 (fun _ => 0), cI 0 6 (fun _ => 0), cI 0 3 (fun _ => 0)]) (n := w0.length + 21) (List.length_append)) rfl ⟨Nat.le_of_ble_eq_true rfl, Nat.le_of_ble_eq_true rfl⟩ (Nat.le_of_ble_eq_true rfl) (fun r w2 hq _ _ => ?_)
  obtain ⟨rfl, rfl⟩ := hq
  refine WW_w (w2 := w0 ++ [cO 5 [eR ((w0.length + 1)), eI 0, eI 0, eI ((-1)), eR ((w0.length + 2)), eR ((w0.length + 3)), eR ((w0.length + 4))], cI 0 600 (fun _ => 0), cI 0 6 (fun _ => 0), cQ 2 2 (va_up (va_up (fun _ => none) 0 (some (w0.length + 5))) 1 (some (w0.length + 13))), cQ 3 10 (fun _ => none), cO 2 [eI 0, eR ((w0.length + 6)), eR ((w0.length + 7)), eR ((w0.length + 8)), eR ((w0.length + 9)), eR ((w0.length + 10)), eR ((w0.length + 11)), eR ((w0.length + 12)), eI 0, eI 0, eI 0, eI 0, eI 0, eI 0], cI 0 6 (fun _ => 0), cI 0 6 (fun _ => 0), cI 0 6 (fun _ => 0), cI 0 6 (fun _ => 0), cI 0 72 (fun _ => 0), cI 0 6 (fun _ => 0), cI 0 3 (fun _ => 0), cO 2 [eI 0, eR ((w0.length + 14)), eR ((w0.length + 15)), eR ((w0.length + 16)), eR ((w0.length + 17)), eR ((w0.length + 18)), eR ((w0.length + 19)), eR ((w0.length + 20)), eI 0, eI 0, eI 0, eI 0, eI 0, eI 0], cI 0 6 (fun _ => 0), cI 0 6 (fun _ => 0), cI 0 6 (fun _ => 0), cI 0 6 (fun _ => 0), cI 0 72 (fun _ => 0), cI 0 6 (fun _ => 0), cI 0 3 (fun _ => 0), cO 3 [eI 0, eR ((w0.length + 22))], cI 0 200 (fun _ => 0)]) (wc_assoc w0 [cO 5 [eR ((w0.length + 1)), eI 0, eI 0, eI ((-1)), eR ((w0.length + 2)), eR ((w0.length + 3)), eR ((w0.length + 4))], cI 0 600 (fun _ => 0), cI 0 6 (fun _ => 0), cQ 2 2 (va_up (va_up (fun _ => none) 0 (some (w0.length + 5))) 1 (some (w0.length + 13))), cQ 3 10 (fun _ => none), cO 2 [eI 0, eR ((w0.length + 6)), eR ((w0.length + 7)), eR ((w0.length + 8)), eR ((w0.length + 9)), eR ((w0.length + 10)), eR ((w0.length + 11)), eR ((w0.length + 12)), eI 0, eI 0, eI 0, eI 0, eI 0, eI 0], cI 0 6 (fun _ => 0), cI 0 6 (fun _ => 0), cI 0 6 (fun _ => 0), cI 0 6 (fun _ => 0), cI 0 72 (fun _ => 0), cI 0 6 (fun _ => 0), cI 0 3 (fun _ => 0), cO 2 [eI 0, eR ((w0.length + 14)), eR ((w0.length + 15)), eR ((w0.length + 16)), eR ((w0.length + 17)), eR ((w0.length + 18)), eR ((w0.length + 19)), eR ((w0.length + 20)), eI 0, eI 0, eI 0, eI 0, eI 0, eI 0], cI 0 6 (fun _ => 0), cI 0 6 (fun _ => 0), cI 0 6 (fun _ => 0), cI 0 6 (fun _ => 0), cI 0 72 (fun _ => 0), cI 0 6 (fun _ => 0), cI 0 3 (fun _ => 0)] [cO 3 [eI 0, eR ((w0.length + 22))], cI 0 200 (fun _ => 0)]) ?_
  refine ww_aast3A (L2 := [cO 5 [eR ((w0.length + 1)), eI 0, eI 0, eI ((-1)), eR ((w0.length + 2)), eR ((w0.length + 3)), eR ((w0.length + 4))], cI 0 600 (fun _ => 0), cI 0 6 (fun _ => 0), cQ 2 2 (va_up (va_up (fun _ => none) 0 (some (w0.length + 5))) 1 (some (w0.length + 13))), cQ 3 10 (va_up (fun _ => none) 0 (some (w0.length + 21))), cO 2 [eI 0, eR ((w0.length + 6)), eR ((w0.length + 7)), eR ((w0.length + 8)), eR ((w0.length + 9)), eR ((w0.length + 10)), eR ((w0.length + 11)), eR ((w0.length + 12)), eI 0, eI 0, eI 0, eI 0, eI 0, eI 0], cI 0 6 (fun _ => 0), cI 0 6 (fun _ => 0), cI 0 6 (fun _ => 0), cI 0 6 (fun _ => 0), cI 0 72 (fun _ => 0), cI 0 6 (fun _ => 0), cI 0 3 (fun _ => 0), cO 2 [eI 0, eR ((w0.length + 14)), eR ((w0.length + 15)), eR ((w0.length + 16)), eR ((w0.length + 17)), eR ((w0.length + 18)), eR ((w0.length + 19)), eR ((w0.length + 20)), eI 0, eI 0, eI 0, eI 0, eI 0, eI 0], cI 0 6 (fun _ => 0), cI 0 6 (fun _ => 0), cI 0 6 (fun _ => 0), cI 0 6 (fun _ => 0), cI 0 72 (fun _ => 0), cI 0 6 (fun _ => 0), cI 0 3 (fun _ => 0), cO 3 [eI 0, eR ((w0.length + 22))], cI 0 200 (fun _ => 0)]) K dX5_init_96 rfl rfl (wc_vin (by decide)) rfl ?_
  refine ww_iinc (ls2 := [some (eR ((w0.length + 0))), some (eI (1))]) K dX5_init_97 (by decide) rfl rfl ?_
  refine ww_goto (tgt := 75) K dX5_init_100 rfl ?_
  refine ww_iload_n K dX5_init_75 rfl ?_
  refine ww_aload_n K dX5_init_76 rfl ?_
  refine ww_getA K dX5_init_77 lf_X5_30 rfl rfl ?_
  refine ww_alenq3A K dX5_init_80 rfl ?_
  rw [show Int32.ofNat 10 = 10 from rfl]
  refine ww_icmp_ge (tgt := 103) K dX5_init_81 rfl (fun cc_ => absurd cc_ (by decide)) (fun _ => ?_)
  refine ww_aload_n K dX5_init_84 rfl ?_
  refine ww_getA K dX5_init_85 lf_X5_30 rfl rfl ?_
  refine ww_iload_n K dX5_init_88 rfl ?_
  refine ww_newA (rc := 17) (rs := 1816) (L2 := [cO 5 [eR ((w0.length + 1)), eI 0, eI 0, eI ((-1)), eR ((w0.length + 2)), eR ((w0.length + 3)), eR ((w0.length + 4))], cI 0 600 (fun _ => 0), cI 0 6 (fun _ => 0), cQ 2 2 (va_up (va_up (fun _ => none) 0 (some (w0.length + 5))) 1 (some (w0.length + 13))), cQ 3 10 (va_up (fun _ => none) 0 (some (w0.length + 21))), cO 2 [eI 0, eR ((w0.length + 6)), eR ((w0.length + 7)), eR ((w0.length + 8)), eR ((w0.length + 9)), eR ((w0.length + 10)), eR ((w0.length + 11)), eR ((w0.length + 12)), eI 0, eI 0, eI 0, eI 0, eI 0, eI 0], cI 0 6 (fun _ => 0), cI 0 6 (fun _ => 0), cI 0 6 (fun _ => 0), cI 0 6 (fun _ => 0), cI 0 72 (fun _ => 0), cI 0 6 (fun _ => 0), cI 0 3 (fun _ => 0), cO 2 [eI 0, eR ((w0.length + 14)), eR ((w0.length + 15)), eR ((w0.length + 16)), eR ((w0.length + 17)), eR ((w0.length + 18)), eR ((w0.length + 19)), eR ((w0.length + 20)), eI 0, eI 0, eI 0, eI 0, eI 0, eI 0], cI 0 6 (fun _ => 0), cI 0 6 (fun _ => 0), cI 0 6 (fun _ => 0), cI 0 6 (fun _ => 0), cI 0 72 (fun _ => 0), cI 0 6 (fun _ => 0), cI 0 3 (fun _ => 0), cO 3 [eI 0, eR ((w0.length + 22))], cI 0 200 (fun _ => 0), cO 3 [eI 0, eN]]) K dX5_init_89 ln_X5_28 rfl rfl ?_
  refine ww_dup K dX5_init_92 trivial ?_
  refine WW_w (w2 := (w0 ++ [cO 5 [eR ((w0.length + 1)), eI 0, eI 0, eI ((-1)), eR ((w0.length + 2)), eR ((w0.length + 3)), eR ((w0.length + 4))], cI 0 600 (fun _ => 0), cI 0 6 (fun _ => 0), cQ 2 2 (va_up (va_up (fun _ => none) 0 (some (w0.length + 5))) 1 (some (w0.length + 13))), cQ 3 10 (va_up (fun _ => none) 0 (some (w0.length + 21))), cO 2 [eI 0, eR ((w0.length + 6)), eR ((w0.length + 7)), eR ((w0.length + 8)), eR ((w0.length + 9)), eR ((w0.length + 10)), eR ((w0.length + 11)), eR ((w0.length + 12)), eI 0, eI 0, eI 0, eI 0, eI 0, eI 0], cI 0 6 (fun _ => 0), cI 0 6 (fun _ => 0), cI 0 6 (fun _ => 0), cI 0 6 (fun _ => 0), cI 0 72 (fun _ => 0), cI 0 6 (fun _ => 0), cI 0 3 (fun _ => 0), cO 2 [eI 0, eR ((w0.length + 14)), eR ((w0.length + 15)), eR ((w0.length + 16)), eR ((w0.length + 17)), eR ((w0.length + 18)), eR ((w0.length + 19)), eR ((w0.length + 20)), eI 0, eI 0, eI 0, eI 0, eI 0, eI 0], cI 0 6 (fun _ => 0), cI 0 6 (fun _ => 0), cI 0 6 (fun _ => 0), cI 0 6 (fun _ => 0), cI 0 72 (fun _ => 0), cI 0 6 (fun _ => 0), cI 0 3 (fun _ => 0), cO 3 [eI 0, eR ((w0.length + 22))], cI 0 200 (fun _ => 0)]) ++ [cO 3 [eI 0, eN]]) ((wc_assoc w0 [cO 5 [eR ((w0.length + 1)), eI 0, eI 0, eI ((-1)), eR ((w0.length + 2)), eR ((w0.length + 3)), eR ((w0.length + 4))], cI 0 600 (fun _ => 0), cI 0 6 (fun _ => 0), cQ 2 2 (va_up (va_up (fun _ => none) 0 (some (w0.length + 5))) 1 (some (w0.length + 13))), cQ 3 10 (va_up (fun _ => none) 0 (some (w0.length + 21))), cO 2 [eI 0, eR ((w0.length + 6)), eR ((w0.length + 7)), eR ((w0.length + 8)), eR ((w0.length + 9)), eR ((w0.length + 10)), eR ((w0.length + 11)), eR ((w0.length + 12)), eI 0, eI 0, eI 0, eI 0, eI 0, eI 0], cI 0 6 (fun _ => 0), cI 0 6 (fun _ => 0), cI 0 6 (fun _ => 0), cI 0 6 (fun _ => 0), cI 0 72 (fun _ => 0), cI 0 6 (fun _ => 0), cI 0 3 (fun _ => 0), cO 2 [eI 0, eR ((w0.length + 14)), eR ((w0.length + 15)), eR ((w0.length + 16)), eR ((w0.length + 17)), eR ((w0.length + 18)), eR ((w0.length + 19)), eR ((w0.length + 20)), eI 0, eI 0, eI 0, eI 0, eI 0, eI 0], cI 0 6 (fun _ => 0), cI 0 6 (fun _ => 0), cI 0 6 (fun _ => 0), cI 0 6 (fun _ => 0), cI 0 72 (fun _ => 0), cI 0 6 (fun _ => 0), cI 0 3 (fun _ => 0), cO 3 [eI 0, eR ((w0.length + 22))], cI 0 200 (fun _ => 0)] [cO 3 [eI 0, eN]]).symm) ?_
  refine ww_callIN (rc := 16) (rs := 1616) K dX5_init_93 lc_X5_35 (ct_X3_init G l (w0 := w0 ++ [cO 5 [eR ((w0.length + 1)), eI 0, eI 0, eI ((-1)), eR ((w0.length + 2)), eR ((w0.length + 3)), eR ((w0.length + 4))], cI 0 600 (fun _ => 0), cI 0 6 (fun _ => 0), cQ 2 2 (va_up (va_up (fun _ => none) 0 (some (w0.length + 5))) 1 (some (w0.length + 13))), cQ 3 10 (va_up (fun _ => none) 0 (some (w0.length + 21))), cO 2 [eI 0, eR ((w0.length + 6)), eR ((w0.length + 7)), eR ((w0.length + 8)), eR ((w0.length + 9)), eR ((w0.length + 10)), eR ((w0.length + 11)), eR ((w0.length + 12)), eI 0, eI 0, eI 0, eI 0, eI 0, eI 0], cI 0 6 (fun _ => 0), cI 0 6 (fun _ => 0), cI 0 6 (fun _ => 0), cI 0 6 (fun _ => 0), cI 0 72 (fun _ => 0), cI 0 6 (fun _ => 0), cI 0 3 (fun _ => 0), cO 2 [eI 0, eR ((w0.length + 14)), eR ((w0.length + 15)), eR ((w0.length + 16)), eR ((w0.length + 17)), eR ((w0.length + 18)), eR ((w0.length + 19)), eR ((w0.length + 20)), eI 0, eI 0, eI 0, eI 0, eI 0, eI 0], cI 0 6 (fun _ => 0), cI 0 6 (fun _ => 0), cI 0 6 (fun _ => 0), cI 0 6 (fun _ => 0), cI 0 72 (fun _ => 0), cI 0 6 (fun _ => 0), cI 0 3 (fun _ => 0), cO 3 [eI 0, eR ((w0.length + 22))], cI 0 200 (fun _ => 0)]) (n := w0.length + 23) (List.length_append)) rfl ⟨Nat.le_of_ble_eq_true rfl, Nat.le_of_ble_eq_true rfl⟩ (Nat.le_of_ble_eq_true rfl) (fun r w2 hq _ _ => ?_)
  obtain ⟨rfl, rfl⟩ := hq
  refine WW_w (w2 := w0 ++ [cO 5 [eR ((w0.length + 1)), eI 0, eI 0, eI ((-1)), eR ((w0.length + 2)), eR ((w0.length + 3)), eR ((w0.length + 4))], cI 0 600 (fun _ => 0), cI 0 6 (fun _ => 0), cQ 2 2 (va_up (va_up (fun _ => none) 0 (some (w0.length + 5))) 1 (some (w0.length + 13))), cQ 3 10 (va_up (fun _ => none) 0 (some (w0.length + 21))), cO 2 [eI 0, eR ((w0.length + 6)), eR ((w0.length + 7)), eR ((w0.length + 8)), eR ((w0.length + 9)), eR ((w0.length + 10)), eR ((w0.length + 11)), eR ((w0.length + 12)), eI 0, eI 0, eI 0, eI 0, eI 0, eI 0], cI 0 6 (fun _ => 0), cI 0 6 (fun _ => 0), cI 0 6 (fun _ => 0), cI 0 6 (fun _ => 0), cI 0 72 (fun _ => 0), cI 0 6 (fun _ => 0), cI 0 3 (fun _ => 0), cO 2 [eI 0, eR ((w0.length + 14)), eR ((w0.length + 15)), eR ((w0.length + 16)), eR ((w0.length + 17)), eR ((w0.length + 18)), eR ((w0.length + 19)), eR ((w0.length + 20)), eI 0, eI 0, eI 0, eI 0, eI 0, eI 0], cI 0 6 (fun _ => 0), cI 0 6 (fun _ => 0), cI 0 6 (fun _ => 0), cI 0 6 (fun _ => 0), cI 0 72 (fun _ => 0), cI 0 6 (fun _ => 0), cI 0 3 (fun _ => 0), cO 3 [eI 0, eR ((w0.length + 22))], cI 0 200 (fun _ => 0), cO 3 [eI 0, eR ((w0.length + 24))], cI 0 200 (fun _ => 0)]) (wc_assoc w0 [cO 5 [eR ((w0.length + 1)), eI 0, eI 0, eI ((-1)), eR ((w0.length + 2)), eR ((w0.length + 3)), eR ((w0.length + 4))], cI 0 600 (fun _ => 0), cI 0 6 (fun _ => 0), cQ 2 2 (va_up (va_up (fun _ => none) 0 (some (w0.length + 5))) 1 (some (w0.length + 13))), cQ 3 10 (va_up (fun _ => none) 0 (some (w0.length + 21))), cO 2 [eI 0, eR ((w0.length + 6)), eR ((w0.length + 7)), eR ((w0.length + 8)), eR ((w0.length + 9)), eR ((w0.length + 10)), eR ((w0.length + 11)), eR ((w0.length + 12)), eI 0, eI 0, eI 0, eI 0, eI 0, eI 0], cI 0 6 (fun _ => 0), cI 0 6 (fun _ => 0), cI 0 6 (fun _ => 0), cI 0 6 (fun _ => 0), cI 0 72 (fun _ => 0), cI 0 6 (fun _ => 0), cI 0 3 (fun _ => 0), cO 2 [eI 0, eR ((w0.length + 14)), eR ((w0.length + 15)), eR ((w0.length + 16)), eR ((w0.length + 17)), eR ((w0.length + 18)), eR ((w0.length + 19)), eR ((w0.length + 20)), eI 0, eI 0, eI 0, eI 0, eI 0, eI 0], cI 0 6 (fun _ => 0), cI 0 6 (fun _ => 0), cI 0 6 (fun _ => 0), cI 0 6 (fun _ => 0), cI 0 72 (fun _ => 0), cI 0 6 (fun _ => 0), cI 0 3 (fun _ => 0), cO 3 [eI 0, eR ((w0.length + 22))], cI 0 200 (fun _ => 0)] [cO 3 [eI 0, eR ((w0.length + 24))], cI 0 200 (fun _ => 0)]) ?_
  refine ww_aast3A (L2 := [cO 5 [eR ((w0.length + 1)), eI 0, eI 0, eI ((-1)), eR ((w0.length + 2)), eR ((w0.length + 3)), eR ((w0.length + 4))], cI 0 600 (fun _ => 0), cI 0 6 (fun _ => 0), cQ 2 2 (va_up (va_up (fun _ => none) 0 (some (w0.length + 5))) 1 (some (w0.length + 13))), cQ 3 10 (va_up (va_up (fun _ => none) 0 (some (w0.length + 21))) 1 (some (w0.length + 23))), cO 2 [eI 0, eR ((w0.length + 6)), eR ((w0.length + 7)), eR ((w0.length + 8)), eR ((w0.length + 9)), eR ((w0.length + 10)), eR ((w0.length + 11)), eR ((w0.length + 12)), eI 0, eI 0, eI 0, eI 0, eI 0, eI 0], cI 0 6 (fun _ => 0), cI 0 6 (fun _ => 0), cI 0 6 (fun _ => 0), cI 0 6 (fun _ => 0), cI 0 72 (fun _ => 0), cI 0 6 (fun _ => 0), cI 0 3 (fun _ => 0), cO 2 [eI 0, eR ((w0.length + 14)), eR ((w0.length + 15)), eR ((w0.length + 16)), eR ((w0.length + 17)), eR ((w0.length + 18)), eR ((w0.length + 19)), eR ((w0.length + 20)), eI 0, eI 0, eI 0, eI 0, eI 0, eI 0], cI 0 6 (fun _ => 0), cI 0 6 (fun _ => 0), cI 0 6 (fun _ => 0), cI 0 6 (fun _ => 0), cI 0 72 (fun _ => 0), cI 0 6 (fun _ => 0), cI 0 3 (fun _ => 0), cO 3 [eI 0, eR ((w0.length + 22))], cI 0 200 (fun _ => 0), cO 3 [eI 0, eR ((w0.length + 24))], cI 0 200 (fun _ => 0)]) K dX5_init_96 rfl rfl (wc_vin (by decide)) rfl ?_
  refine ww_iinc (ls2 := [some (eR ((w0.length + 0))), some (eI (2))]) K dX5_init_97 (by decide) rfl rfl ?_
  refine ww_goto (tgt := 75) K dX5_init_100 rfl ?_
  refine ww_iload_n K dX5_init_75 rfl ?_
  refine ww_aload_n K dX5_init_76 rfl ?_
  refine ww_getA K dX5_init_77 lf_X5_30 rfl rfl ?_
  refine ww_alenq3A K dX5_init_80 rfl ?_
  rw [show Int32.ofNat 10 = 10 from rfl]
  refine ww_icmp_ge (tgt := 103) K dX5_init_81 rfl (fun cc_ => absurd cc_ (by decide)) (fun _ => ?_)
  refine ww_aload_n K dX5_init_84 rfl ?_
  refine ww_getA K dX5_init_85 lf_X5_30 rfl rfl ?_
  refine ww_iload_n K dX5_init_88 rfl ?_
  refine ww_newA (rc := 15) (rs := 1614) (L2 := [cO 5 [eR ((w0.length + 1)), eI 0, eI 0, eI ((-1)), eR ((w0.length + 2)), eR ((w0.length + 3)), eR ((w0.length + 4))], cI 0 600 (fun _ => 0), cI 0 6 (fun _ => 0), cQ 2 2 (va_up (va_up (fun _ => none) 0 (some (w0.length + 5))) 1 (some (w0.length + 13))), cQ 3 10 (va_up (va_up (fun _ => none) 0 (some (w0.length + 21))) 1 (some (w0.length + 23))), cO 2 [eI 0, eR ((w0.length + 6)), eR ((w0.length + 7)), eR ((w0.length + 8)), eR ((w0.length + 9)), eR ((w0.length + 10)), eR ((w0.length + 11)), eR ((w0.length + 12)), eI 0, eI 0, eI 0, eI 0, eI 0, eI 0], cI 0 6 (fun _ => 0), cI 0 6 (fun _ => 0), cI 0 6 (fun _ => 0), cI 0 6 (fun _ => 0), cI 0 72 (fun _ => 0), cI 0 6 (fun _ => 0), cI 0 3 (fun _ => 0), cO 2 [eI 0, eR ((w0.length + 14)), eR ((w0.length + 15)), eR ((w0.length + 16)), eR ((w0.length + 17)), eR ((w0.length + 18)), eR ((w0.length + 19)), eR ((w0.length + 20)), eI 0, eI 0, eI 0, eI 0, eI 0, eI 0], cI 0 6 (fun _ => 0), cI 0 6 (fun _ => 0), cI 0 6 (fun _ => 0), cI 0 6 (fun _ => 0), cI 0 72 (fun _ => 0), cI 0 6 (fun _ => 0), cI 0 3 (fun _ => 0), cO 3 [eI 0, eR ((w0.length + 22))], cI 0 200 (fun _ => 0), cO 3 [eI 0, eR ((w0.length + 24))], cI 0 200 (fun _ => 0), cO 3 [eI 0, eN]]) K dX5_init_89 ln_X5_28 rfl rfl ?_
  refine ww_dup K dX5_init_92 trivial ?_
  refine WW_w (w2 := (w0 ++ [cO 5 [eR ((w0.length + 1)), eI 0, eI 0, eI ((-1)), eR ((w0.length + 2)), eR ((w0.length + 3)), eR ((w0.length + 4))], cI 0 600 (fun _ => 0), cI 0 6 (fun _ => 0), cQ 2 2 (va_up (va_up (fun _ => none) 0 (some (w0.length + 5))) 1 (some (w0.length + 13))), cQ 3 10 (va_up (va_up (fun _ => none) 0 (some (w0.length + 21))) 1 (some (w0.length + 23))), cO 2 [eI 0, eR ((w0.length + 6)), eR ((w0.length + 7)), eR ((w0.length + 8)), eR ((w0.length + 9)), eR ((w0.length + 10)), eR ((w0.length + 11)), eR ((w0.length + 12)), eI 0, eI 0, eI 0, eI 0, eI 0, eI 0], cI 0 6 (fun _ => 0), cI 0 6 (fun _ => 0), cI 0 6 (fun _ => 0), cI 0 6 (fun _ => 0), cI 0 72 (fun _ => 0), cI 0 6 (fun _ => 0), cI 0 3 (fun _ => 0), cO 2 [eI 0, eR ((w0.length + 14)), eR ((w0.length + 15)), eR ((w0.length + 16)), eR ((w0.length + 17)), eR ((w0.length + 18)), eR ((w0.length + 19)), eR ((w0.length + 20)), eI 0, eI 0, eI 0, eI 0, eI 0, eI 0], cI 0 6 (fun _ => 0), cI 0 6 (fun _ => 0), cI 0 6 (fun _ => 0), cI 0 6 (fun _ => 0), cI 0 72 (fun _ => 0), cI 0 6 (fun _ => 0), cI 0 3 (fun _ => 0), cO 3 [eI 0, eR ((w0.length + 22))], cI 0 200 (fun _ => 0), cO 3 [eI 0, eR ((w0.length + 24))], cI 0 200 (fun _ => 0)]) ++ [cO 3 [eI 0, eN]]) ((wc_assoc w0 [cO 5 [eR ((w0.length + 1)), eI 0, eI 0, eI ((-1)), eR ((w0.length + 2)), eR ((w0.length + 3)), eR ((w0.length + 4))], cI 0 600 (fun _ => 0), cI 0 6 (fun _ => 0), cQ 2 2 (va_up (va_up (fun _ => none) 0 (some (w0.length + 5))) 1 (some (w0.length + 13))), cQ 3 10 (va_up (va_up (fun _ => none) 0 (some (w0.length + 21))) 1 (some (w0.length + 23))), cO 2 [eI 0, eR ((w0.length + 6)), eR ((w0.length + 7)), eR ((w0.length + 8)), eR ((w0.length + 9)), eR ((w0.length + 10)), eR ((w0.length + 11)), eR ((w0.length + 12)), eI 0, eI 0, eI 0, eI 0, eI 0, eI 0], cI 0 6 (fun _ => 0), cI 0 6 (fun _ => 0), cI 0 6 (fun _ => 0), cI 0 6 (fun _ => 0), cI 0 72 (fun _ => 0), cI 0 6 (fun _ => 0), cI 0 3 (fun _ => 0), cO 2 [eI 0, eR ((w0.length + 14)), eR ((w0.length + 15)), eR ((w0.length + 16)), eR ((w0.length + 17)), eR ((w0.length + 18)), eR ((w0.length + 19)), eR ((w0.length + 20)), eI 0, eI 0, eI 0, eI 0, eI 0, eI 0], cI 0 6 (fun _ => 0), cI 0 6 (fun _ => 0), cI 0 6 (fun _ => 0), cI 0 6 (fun _ => 0), cI 0 72 (fun _ => 0), cI 0 6 (fun _ => 0), cI 0 3 (fun _ => 0), cO 3 [eI 0, eR ((w0.length + 22))], cI 0 200 (fun _ => 0), cO 3 [eI 0, eR ((w0.length + 24))], cI 0 200 (fun _ => 0)] [cO 3 [eI 0, eN]]).symm) ?_
  refine ww_callIN (rc := 14) (rs := 1414) K dX5_init_93 lc_X5_35 (ct_X3_init G l (w0 := w0 ++ [cO 5 [eR ((w0.length + 1)), eI 0, eI 0, eI ((-1)), eR ((w0.length + 2)), eR ((w0.length + 3)), eR ((w0.length + 4))], cI 0 600 (fun _ => 0), cI 0 6 (fun _ => 0), cQ 2 2 (va_up (va_up (fun _ => none) 0 (some (w0.length + 5))) 1 (some (w0.length + 13))), cQ 3 10 (va_up (va_up (fun _ => none) 0 (some (w0.length + 21))) 1 (some (w0.length + 23))), cO 2 [eI 0, eR ((w0.length + 6)), eR ((w0.length + 7)), eR ((w0.length + 8)), eR ((w0.length + 9)), eR ((w0.length + 10)), eR ((w0.length + 11)), eR ((w0.length + 12)), eI 0, eI 0, eI 0, eI 0, eI 0, eI 0], cI 0 6 (fun _ => 0), cI 0 6 (fun _ => 0), cI 0 6 (fun _ => 0), cI 0 6 (fun _ => 0), cI 0 72 (fun _ => 0), cI 0 6 (fun _ => 0), cI 0 3 (fun _ => 0), cO 2 [eI 0, eR ((w0.length + 14)), eR ((w0.length + 15)), eR ((w0.length + 16)), eR ((w0.length + 17)), eR ((w0.length + 18)), eR ((w0.length + 19)), eR ((w0.length + 20)), eI 0, eI 0, eI 0, eI 0, eI 0, eI 0], cI 0 6 (fun _ => 0), cI 0 6 (fun _ => 0), cI 0 6 (fun _ => 0), cI 0 6 (fun _ => 0), cI 0 72 (fun _ => 0), cI 0 6 (fun _ => 0), cI 0 3 (fun _ => 0), cO 3 [eI 0, eR ((w0.length + 22))], cI 0 200 (fun _ => 0), cO 3 [eI 0, eR ((w0.length + 24))], cI 0 200 (fun _ => 0)]) (n := w0.length + 25) (List.length_append)) rfl ⟨Nat.le_of_ble_eq_true rfl, Nat.le_of_ble_eq_true rfl⟩ (Nat.le_of_ble_eq_true rfl) (fun r w2 hq _ _ => ?_)
  obtain ⟨rfl, rfl⟩ := hq
  refine WW_w (w2 := w0 ++ [cO 5 [eR ((w0.length + 1)), eI 0, eI 0, eI ((-1)), eR ((w0.length + 2)), eR ((w0.length + 3)), eR ((w0.length + 4))], cI 0 600 (fun _ => 0), cI 0 6 (fun _ => 0), cQ 2 2 (va_up (va_up (fun _ => none) 0 (some (w0.length + 5))) 1 (some (w0.length + 13))), cQ 3 10 (va_up (va_up (fun _ => none) 0 (some (w0.length + 21))) 1 (some (w0.length + 23))), cO 2 [eI 0, eR ((w0.length + 6)), eR ((w0.length + 7)), eR ((w0.length + 8)), eR ((w0.length + 9)), eR ((w0.length + 10)), eR ((w0.length + 11)), eR ((w0.length + 12)), eI 0, eI 0, eI 0, eI 0, eI 0, eI 0], cI 0 6 (fun _ => 0), cI 0 6 (fun _ => 0), cI 0 6 (fun _ => 0), cI 0 6 (fun _ => 0), cI 0 72 (fun _ => 0), cI 0 6 (fun _ => 0), cI 0 3 (fun _ => 0), cO 2 [eI 0, eR ((w0.length + 14)), eR ((w0.length + 15)), eR ((w0.length + 16)), eR ((w0.length + 17)), eR ((w0.length + 18)), eR ((w0.length + 19)), eR ((w0.length + 20)), eI 0, eI 0, eI 0, eI 0, eI 0, eI 0], cI 0 6 (fun _ => 0), cI 0 6 (fun _ => 0), cI 0 6 (fun _ => 0), cI 0 6 (fun _ => 0), cI 0 72 (fun _ => 0), cI 0 6 (fun _ => 0), cI 0 3 (fun _ => 0), cO 3 [eI 0, eR ((w0.length + 22))], cI 0 200 (fun _ => 0), cO 3 [eI 0, eR ((w0.length + 24))], cI 0 200 (fun _ => 0), cO 3 [eI 0, eR ((w0.length + 26))], cI 0 200 (fun _ => 0)]) (wc_assoc w0 [cO 5 [eR ((w0.length + 1)), eI 0, eI 0, eI ((-1)), eR ((w0.length + 2)), eR ((w0.length + 3)), eR ((w0.length + 4))], cI 0 600 (fun _ => 0), cI 0 6 (fun _ => 0), cQ 2 2 (va_up (va_up (fun _ => none) 0 (some (w0.length + 5))) 1 (some (w0.length + 13))), cQ 3 10 (va_up (va_up (fun _ => none) 0 (some (w0.length + 21))) 1 (some (w0.length + 23))), cO 2 [eI 0, eR ((w0.length + 6)), eR ((w0.length + 7)), eR ((w0.length + 8)), eR ((w0.length + 9)), eR ((w0.length + 10)), eR ((w0.length + 11)), eR ((w0.length + 12)), eI 0, eI 0, eI 0, eI 0, eI 0, eI 0], cI 0 6 (fun _ => 0), cI 0 6 (fun _ => 0), cI 0 6 (fun _ => 0), cI 0 6 (fun _ => 0), cI 0 72 (fun _ => 0), cI 0 6 (fun _ => 0), cI 0 3 (fun _ => 0), cO 2 [eI 0, eR ((w0.length + 14)), eR ((w0.length + 15)), eR ((w0.length + 16)), eR ((w0.length + 17)), eR ((w0.length + 18)), eR ((w0.length + 19)), eR ((w0.length + 20)), eI 0, eI 0, eI 0, eI 0, eI 0, eI 0], cI 0 6 (fun _ => 0), cI 0 6 (fun _ => 0), cI 0 6 (fun _ => 0), cI 0 6 (fun _ => 0), cI 0 72 (fun _ => 0), cI 0 6 (fun _ => 0), cI 0 3 (fun _ => 0), cO 3 [eI 0, eR ((w0.length + 22))], cI 0 200 (fun _ => 0), cO 3 [eI 0, eR ((w0.length + 24))], cI 0 200 (fun _ => 0)] [cO 3 [eI 0, eR ((w0.length + 26))], cI 0 200 (fun _ => 0)]) ?_
  refine ww_aast3A (L2 := [cO 5 [eR ((w0.length + 1)), eI 0, eI 0, eI ((-1)), eR ((w0.length + 2)), eR ((w0.length + 3)), eR ((w0.length + 4))], cI 0 600 (fun _ => 0), cI 0 6 (fun _ => 0), cQ 2 2 (va_up (va_up (fun _ => none) 0 (some (w0.length + 5))) 1 (some (w0.length + 13))), cQ 3 10 (va_up (va_up (va_up (fun _ => none) 0 (some (w0.length + 21))) 1 (some (w0.length + 23))) 2 (some (w0.length + 25))), cO 2 [eI 0, eR ((w0.length + 6)), eR ((w0.length + 7)), eR ((w0.length + 8)), eR ((w0.length + 9)), eR ((w0.length + 10)), eR ((w0.length + 11)), eR ((w0.length + 12)), eI 0, eI 0, eI 0, eI 0, eI 0, eI 0], cI 0 6 (fun _ => 0), cI 0 6 (fun _ => 0), cI 0 6 (fun _ => 0), cI 0 6 (fun _ => 0), cI 0 72 (fun _ => 0), cI 0 6 (fun _ => 0), cI 0 3 (fun _ => 0), cO 2 [eI 0, eR ((w0.length + 14)), eR ((w0.length + 15)), eR ((w0.length + 16)), eR ((w0.length + 17)), eR ((w0.length + 18)), eR ((w0.length + 19)), eR ((w0.length + 20)), eI 0, eI 0, eI 0, eI 0, eI 0, eI 0], cI 0 6 (fun _ => 0), cI 0 6 (fun _ => 0), cI 0 6 (fun _ => 0), cI 0 6 (fun _ => 0), cI 0 72 (fun _ => 0), cI 0 6 (fun _ => 0), cI 0 3 (fun _ => 0), cO 3 [eI 0, eR ((w0.length + 22))], cI 0 200 (fun _ => 0), cO 3 [eI 0, eR ((w0.length + 24))], cI 0 200 (fun _ => 0), cO 3 [eI 0, eR ((w0.length + 26))], cI 0 200 (fun _ => 0)]) K dX5_init_96 rfl rfl (wc_vin (by decide)) rfl ?_
  refine ww_iinc (ls2 := [some (eR ((w0.length + 0))), some (eI (3))]) K dX5_init_97 (by decide) rfl rfl ?_
  refine ww_goto (tgt := 75) K dX5_init_100 rfl ?_
  refine ww_iload_n K dX5_init_75 rfl ?_
  refine ww_aload_n K dX5_init_76 rfl ?_
  refine ww_getA K dX5_init_77 lf_X5_30 rfl rfl ?_
  refine ww_alenq3A K dX5_init_80 rfl ?_
  rw [show Int32.ofNat 10 = 10 from rfl]
  refine ww_icmp_ge (tgt := 103) K dX5_init_81 rfl (fun cc_ => absurd cc_ (by decide)) (fun _ => ?_)
  refine ww_aload_n K dX5_init_84 rfl ?_
  refine ww_getA K dX5_init_85 lf_X5_30 rfl rfl ?_
  refine ww_iload_n K dX5_init_88 rfl ?_
  refine ww_newA (rc := 13) (rs := 1412) (L2 := [cO 5 [eR ((w0.length + 1)), eI 0, eI 0, eI ((-1)), eR ((w0.length + 2)), eR ((w0.length + 3)), eR ((w0.length + 4))], cI 0 600 (fun _ => 0), cI 0 6 (fun _ => 0), cQ 2 2 (va_up (va_up (fun _ => none) 0 (some (w0.length + 5))) 1 (some (w0.length + 13))), cQ 3 10 (va_up (va_up (va_up (fun _ => none) 0 (some (w0.length + 21))) 1 (some (w0.length + 23))) 2 (some (w0.length + 25))), cO 2 [eI 0, eR ((w0.length + 6)), eR ((w0.length + 7)), eR ((w0.length + 8)), eR ((w0.length + 9)), eR ((w0.length + 10)), eR ((w0.length + 11)), eR ((w0.length + 12)), eI 0, eI 0, eI 0, eI 0, eI 0, eI 0], cI 0 6 (fun _ => 0), cI 0 6 (fun _ => 0), cI 0 6 (fun _ => 0), cI 0 6 (fun _ => 0), cI 0 72 (fun _ => 0), cI 0 6 (fun _ => 0), cI 0 3 (fun _ => 0), cO 2 [eI 0, eR ((w0.length + 14)), eR ((w0.length + 15)), eR ((w0.length + 16)), eR ((w0.length + 17)), eR ((w0.length + 18)), eR ((w0.length + 19)), eR ((w0.length + 20)), eI 0, eI 0, eI 0, eI 0, eI 0, eI 0], cI 0 6 (fun _ => 0), cI 0 6 (fun _ => 0), cI 0 6 (fun _ => 0), cI 0 6 (fun _ => 0), cI 0 72 (fun _ => 0), cI 0 6 (fun _ => 0), cI 0 3 (fun _ => 0), cO 3 [eI 0, eR ((w0.length + 22))], cI 0 200 (fun _ => 0), cO 3 [eI 0, eR ((w0.length + 24))], cI 0 200 (fun _ => 0), cO 3 [eI 0, eR ((w0.length + 26))], cI 0 200 (fun _ => 0), cO 3 [eI 0, eN]]) K dX5_init_89 ln_X5_28 rfl rfl ?_
  refine ww_dup K dX5_init_92 trivial ?_
  refine WW_w (w2 := (w0 ++ [cO 5 [eR ((w0.length + 1)), eI 0, eI 0, eI ((-1)), eR ((w0.length + 2)), eR ((w0.length + 3)), eR ((w0.length + 4))], cI 0 600 (fun _ => 0), cI 0 6 (fun _ => 0), cQ 2 2 (va_up (va_up (fun _ => none) 0 (some (w0.length + 5))) 1 (some (w0.length + 13))), cQ 3 10 (va_up (va_up (va_up (fun _ => none) 0 (some (w0.length + 21))) 1 (some (w0.length + 23))) 2 (some (w0.length + 25))), cO 2 [eI 0, eR ((w0.length + 6)), eR ((w0.length + 7)), eR ((w0.length + 8)), eR ((w0.length + 9)), eR ((w0.length + 10)), eR ((w0.length + 11)), eR ((w0.length + 12)), eI 0, eI 0, eI 0, eI 0, eI 0, eI 0], cI 0 6 (fun _ => 0), cI 0 6 (fun _ => 0), cI 0 6 (fun _ => 0), cI 0 6 (fun _ => 0), cI 0 72 (fun _ => 0), cI 0 6 (fun _ => 0), cI 0 3 (fun _ => 0), cO 2 [eI 0, eR ((w0.length + 14)), eR ((w0.length + 15)), eR ((w0.length + 16)), eR ((w0.length + 17)), eR ((w0.length + 18)), eR ((w0.length + 19)), eR ((w0.length + 20)), eI 0, eI 0, eI 0, eI 0, eI 0, eI 0], cI 0 6 (fun _ => 0), cI 0 6 (fun _ => 0), cI 0 6 (fun _ => 0), cI 0 6 (fun _ => 0), cI 0 72 (fun _ => 0), cI 0 6 (fun _ => 0), cI 0 3 (fun _ => 0), cO 3 [eI 0, eR ((w0.length + 22))], cI 0 200 (fun _ => 0), cO 3 [eI 0, eR ((w0.length + 24))], cI 0 200 (fun _ => 0), cO 3 [eI 0, eR ((w0.length + 26))], cI 0 200 (fun _ => 0)]) ++ [cO 3 [eI 0, eN]]) ((wc_assoc w0 [cO 5 [eR ((w0.length + 1)), eI 0, eI 0, eI ((-1)), eR ((w0.length + 2)), eR ((w0.length + 3)), eR ((w0.length + 4))], cI 0 600 (fun _ => 0), cI 0 6 (fun _ => 0), cQ 2 2 (va_up (va_up (fun _ => none) 0 (some (w0.length + 5))) 1 (some (w0.length + 13))), cQ 3 10 (va_up (va_up (va_up (fun _ => none) 0 (some (w0.length + 21))) 1 (some (w0.length + 23))) 2 (some (w0.length + 25))), cO 2 [eI 0, eR ((w0.length + 6)), eR ((w0.length + 7)), eR ((w0.length + 8)), eR ((w0.length + 9)), eR ((w0.length + 10)), eR ((w0.length + 11)), eR ((w0.length + 12)), eI 0, eI 0, eI 0, eI 0, eI 0, eI 0], cI 0 6 (fun _ => 0), cI 0 6 (fun _ => 0), cI 0 6 (fun _ => 0), cI 0 6 (fun _ => 0), cI 0 72 (fun _ => 0), cI 0 6 (fun _ => 0), cI 0 3 (fun _ => 0), cO 2 [eI 0, eR ((w0.length + 14)), eR ((w0.length + 15)), eR ((w0.length + 16)), eR ((w0.length + 17)), eR ((w0.length + 18)), eR ((w0.length + 19)), eR ((w0.length + 20)), eI 0, eI 0, eI 0, eI 0, eI 0, eI 0], cI 0 6 (fun _ => 0), cI 0 6 (fun _ => 0), cI 0 6 (fun _ => 0), cI 0 6 (fun _ => 0), cI 0 72 (fun _ => 0), cI 0 6 (fun _ => 0), cI 0 3 (fun _ => 0), cO 3 [eI 0, eR ((w0.length + 22))], cI 0 200 (fun _ => 0), cO 3 [eI 0, eR ((w0.length + 24))], cI 0 200 (fun _ => 0), cO 3 [eI 0, eR ((w0.length + 26))], cI 0 200 (fun _ => 0)] [cO 3 [eI 0, eN]]).symm) ?_
  refine ww_callIN (rc := 12) (rs := 1212) K dX5_init_93 lc_X5_35 (ct_X3_init G l (w0 := w0 ++ [cO 5 [eR ((w0.length + 1)), eI 0, eI 0, eI ((-1)), eR ((w0.length + 2)), eR ((w0.length + 3)), eR ((w0.length + 4))], cI 0 600 (fun _ => 0), cI 0 6 (fun _ => 0), cQ 2 2 (va_up (va_up (fun _ => none) 0 (some (w0.length + 5))) 1 (some (w0.length + 13))), cQ 3 10 (va_up (va_up (va_up (fun _ => none) 0 (some (w0.length + 21))) 1 (some (w0.length + 23))) 2 (some (w0.length + 25))), cO 2 [eI 0, eR ((w0.length + 6)), eR ((w0.length + 7)), eR ((w0.length + 8)), eR ((w0.length + 9)), eR ((w0.length + 10)), eR ((w0.length + 11)), eR ((w0.length + 12)), eI 0, eI 0, eI 0, eI 0, eI 0, eI 0], cI 0 6 (fun _ => 0), cI 0 6 (fun _ => 0), cI 0 6 (fun _ => 0), cI 0 6 (fun _ => 0), cI 0 72 (fun _ => 0), cI 0 6 (fun _ => 0), cI 0 3 (fun _ => 0), cO 2 [eI 0, eR ((w0.length + 14)), eR ((w0.length + 15)), eR ((w0.length + 16)), eR ((w0.length + 17)), eR ((w0.length + 18)), eR ((w0.length + 19)), eR ((w0.length + 20)), eI 0, eI 0, eI 0, eI 0, eI 0, eI 0], cI 0 6 (fun _ => 0), cI 0 6 (fun _ => 0), cI 0 6 (fun _ => 0), cI 0 6 (fun _ => 0), cI 0 72 (fun _ => 0), cI 0 6 (fun _ => 0), cI 0 3 (fun _ => 0), cO 3 [eI 0, eR ((w0.length + 22))], cI 0 200 (fun _ => 0), cO 3 [eI 0, eR ((w0.length + 24))], cI 0 200 (fun _ => 0), cO 3 [eI 0, eR ((w0.length + 26))], cI 0 200 (fun _ => 0)]) (n := w0.length + 27) (List.length_append)) rfl ⟨Nat.le_of_ble_eq_true rfl, Nat.le_of_ble_eq_true rfl⟩ (Nat.le_of_ble_eq_true rfl) (fun r w2 hq _ _ => ?_)
  obtain ⟨rfl, rfl⟩ := hq
  refine WW_w (w2 := w0 ++ [cO 5 [eR ((w0.length + 1)), eI 0, eI 0, eI ((-1)), eR ((w0.length + 2)), eR ((w0.length + 3)), eR ((w0.length + 4))], cI 0 600 (fun _ => 0), cI 0 6 (fun _ => 0), cQ 2 2 (va_up (va_up (fun _ => none) 0 (some (w0.length + 5))) 1 (some (w0.length + 13))), cQ 3 10 (va_up (va_up (va_up (fun _ => none) 0 (some (w0.length + 21))) 1 (some (w0.length + 23))) 2 (some (w0.length + 25))), cO 2 [eI 0, eR ((w0.length + 6)), eR ((w0.length + 7)), eR ((w0.length + 8)), eR ((w0.length + 9)), eR ((w0.length + 10)), eR ((w0.length + 11)), eR ((w0.length + 12)), eI 0, eI 0, eI 0, eI 0, eI 0, eI 0], cI 0 6 (fun _ => 0), cI 0 6 (fun _ => 0), cI 0 6 (fun _ => 0), cI 0 6 (fun _ => 0), cI 0 72 (fun _ => 0), cI 0 6 (fun _ => 0), cI 0 3 (fun _ => 0), cO 2 [eI 0, eR ((w0.length + 14)), eR ((w0.length + 15)), eR ((w0.length + 16)), eR ((w0.length + 17)), eR ((w0.length + 18)), eR ((w0.length + 19)), eR ((w0.length + 20)), eI 0, eI 0, eI 0, eI 0, eI 0, eI 0], cI 0 6 (fun _ => 0), cI 0 6 (fun _ => 0), cI 0 6 (fun _ => 0), cI 0 6 (fun _ => 0), cI 0 72 (fun _ => 0), cI 0 6 (fun _ => 0), cI 0 3 (fun _ => 0), cO 3 [eI 0, eR ((w0.length + 22))], cI 0 200 (fun _ => 0), cO 3 [eI 0, eR ((w0.length + 24))], cI 0 200 (fun _ => 0), cO 3 [eI 0, eR ((w0.length + 26))], cI 0 200 (fun _ => 0), cO 3 [eI 0, eR ((w0.length + 28))], cI 0 200 (fun _ => 0)]) (wc_assoc w0 [cO 5 [eR ((w0.length + 1)), eI 0, eI 0, eI ((-1)), eR ((w0.length + 2)), eR ((w0.length + 3)), eR ((w0.length + 4))], cI 0 600 (fun _ => 0), cI 0 6 (fun _ => 0), cQ 2 2 (va_up (va_up (fun _ => none) 0 (some (w0.length + 5))) 1 (some (w0.length + 13))), cQ 3 10 (va_up (va_up (va_up (fun _ => none) 0 (some (w0.length + 21))) 1 (some (w0.length + 23))) 2 (some (w0.length + 25))), cO 2 [eI 0, eR ((w0.length + 6)), eR ((w0.length + 7)), eR ((w0.length + 8)), eR ((w0.length + 9)), eR ((w0.length + 10)), eR ((w0.length + 11)), eR ((w0.length + 12)), eI 0, eI 0, eI 0, eI 0, eI 0, eI 0], cI 0 6 (fun _ => 0), cI 0 6 (fun _ => 0), cI 0 6 (fun _ => 0), cI 0 6 (fun _ => 0), cI 0 72 (fun _ => 0), cI 0 6 (fun _ => 0), cI 0 3 (fun _ => 0), cO 2 [eI 0, eR ((w0.length + 14)), eR ((w0.length + 15)), eR ((w0.length + 16)), eR ((w0.length + 17)), eR ((w0.length + 18)), eR ((w0.length + 19)), eR ((w0.length + 20)), eI 0, eI 0, eI 0, eI 0, eI 0, eI 0], cI 0 6 (fun _ => 0), cI 0 6 (fun _ => 0), cI 0 6 (fun _ => 0), cI 0 6 (fun _ => 0), cI 0 72 (fun _ => 0), cI 0 6 (fun _ => 0), cI 0 3 (fun _ => 0), cO 3 [eI 0, eR ((w0.length + 22))], cI 0 200 (fun _ => 0), cO 3 [eI 0, eR ((w0.length + 24))], cI 0 200 (fun _ => 0), cO 3 [eI 0, eR ((w0.length + 26))], cI 0 200 (fun _ => 0)] [cO 3 [eI 0, eR ((w0.length + 28))], cI 0 200 (fun _ => 0)]) ?_
  refine ww_aast3A (L2 := [cO 5 [eR ((w0.length + 1)), eI 0, eI 0, eI ((-1)), eR ((w0.length + 2)), eR ((w0.length + 3)), eR ((w0.length + 4))], cI 0 600 (fun _ => 0), cI 0 6 (fun _ => 0), cQ 2 2 (va_up (va_up (fun _ => none) 0 (some (w0.length + 5))) 1 (some (w0.length + 13))), cQ 3 10 (va_up (va_up (va_up (va_up (fun _ => none) 0 (some (w0.length + 21))) 1 (some (w0.length + 23))) 2 (some (w0.length + 25))) 3 (some (w0.length + 27))), cO 2 [eI 0, eR ((w0.length + 6)), eR ((w0.length + 7)), eR ((w0.length + 8)), eR ((w0.length + 9)), eR ((w0.length + 10)), eR ((w0.length + 11)), eR ((w0.length + 12)), eI 0, eI 0, eI 0, eI 0, eI 0, eI 0], cI 0 6 (fun _ => 0), cI 0 6 (fun _ => 0), cI 0 6 (fun _ => 0), cI 0 6 (fun _ => 0), cI 0 72 (fun _ => 0), cI 0 6 (fun _ => 0), cI 0 3 (fun _ => 0), cO 2 [eI 0, eR ((w0.length + 14)), eR ((w0.length + 15)), eR ((w0.length + 16)), eR ((w0.length + 17)), eR ((w0.length + 18)), eR ((w0.length + 19)), eR ((w0.length + 20)), eI 0, eI 0, eI 0, eI 0, eI 0, eI 0], cI 0 6 (fun _ => 0), cI 0 6 (fun _ => 0), cI 0 6 (fun _ => 0), cI 0 6 (fun _ => 0), cI 0 72 (fun _ => 0), cI 0 6 (fun _ => 0), cI 0 3 (fun _ => 0), cO 3 [eI 0, eR ((w0.length + 22))], cI 0 200 (fun _ => 0), cO 3 [eI 0, eR ((w0.length + 24))], cI 0 200 (fun _ => 0), cO 3 [eI 0, eR ((w0.length + 26))], cI 0 200 (fun _ => 0), cO 3 [eI 0, eR ((w0.length + 28))], cI 0 200 (fun _ => 0)]) K dX5_init_96 rfl rfl (wc_vin (by decide)) rfl ?_
  refine ww_iinc (ls2 := [some (eR ((w0.length + 0))), some (eI (4))]) K dX5_init_97 (by decide) rfl rfl ?_
  refine ww_goto (tgt := 75) K dX5_init_100 rfl ?_
  refine ww_iload_n K dX5_init_75 rfl ?_
  refine ww_aload_n K dX5_init_76 rfl ?_
  refine ww_getA K dX5_init_77 lf_X5_30 rfl rfl ?_
  refine ww_alenq3A K dX5_init_80 rfl ?_
  rw [show Int32.ofNat 10 = 10 from rfl]
  refine ww_icmp_ge (tgt := 103) K dX5_init_81 rfl (fun cc_ => absurd cc_ (by decide)) (fun _ => ?_)
  refine ww_aload_n K dX5_init_84 rfl ?_
  refine ww_getA K dX5_init_85 lf_X5_30 rfl rfl ?_
  refine ww_iload_n K dX5_init_88 rfl ?_
  refine ww_newA (rc := 11) (rs := 1210) (L2 := [cO 5 [eR ((w0.length + 1)), eI 0, eI 0, eI ((-1)), eR ((w0.length + 2)), eR ((w0.length + 3)), eR ((w0.length + 4))], cI 0 600 (fun _ => 0), cI 0 6 (fun _ => 0), cQ 2 2 (va_up (va_up (fun _ => none) 0 (some (w0.length + 5))) 1 (some (w0.length + 13))), cQ 3 10 (va_up (va_up (va_up (va_up (fun _ => none) 0 (some (w0.length + 21))) 1 (some (w0.length + 23))) 2 (some (w0.length + 25))) 3 (some (w0.length + 27))), cO 2 [eI 0, eR ((w0.length + 6)), eR ((w0.length + 7)), eR ((w0.length + 8)), eR ((w0.length + 9)), eR ((w0.length + 10)), eR ((w0.length + 11)), eR ((w0.length + 12)), eI 0, eI 0, eI 0, eI 0, eI 0, eI 0], cI 0 6 (fun _ => 0), cI 0 6 (fun _ => 0), cI 0 6 (fun _ => 0), cI 0 6 (fun _ => 0), cI 0 72 (fun _ => 0), cI 0 6 (fun _ => 0), cI 0 3 (fun _ => 0), cO 2 [eI 0, eR ((w0.length + 14)), eR ((w0.length + 15)), eR ((w0.length + 16)), eR ((w0.length + 17)), eR ((w0.length + 18)), eR ((w0.length + 19)), eR ((w0.length + 20)), eI 0, eI 0, eI 0, eI 0, eI 0, eI 0], cI 0 6 (fun _ => 0), cI 0 6 (fun _ => 0), cI 0 6 (fun _ => 0), cI 0 6 (fun _ => 0), cI 0 72 (fun _ => 0), cI 0 6 (fun _ => 0), cI 0 3 (fun _ => 0), cO 3 [eI 0, eR ((w0.length + 22))], cI 0 200 (fun _ => 0), cO 3 [eI 0, eR ((w0.length + 24))], cI 0 200 (fun _ => 0), cO 3 [eI 0, eR ((w0.length + 26))], cI 0 200 (fun _ => 0), cO 3 [eI 0, eR ((w0.length + 28))], cI 0 200 (fun _ => 0), cO 3 [eI 0, eN]]) K dX5_init_89 ln_X5_28 rfl rfl ?_
  refine ww_dup K dX5_init_92 trivial ?_
  refine WW_w (w2 := (w0 ++ [cO 5 [eR ((w0.length + 1)), eI 0, eI 0, eI ((-1)), eR ((w0.length + 2)), eR ((w0.length + 3)), eR ((w0.length + 4))], cI 0 600 (fun _ => 0), cI 0 6 (fun _ => 0), cQ 2 2 (va_up (va_up (fun _ => none) 0 (some (w0.length + 5))) 1 (some (w0.length + 13))), cQ 3 10 (va_up (va_up (va_up (va_up (fun _ => none) 0 (some (w0.length + 21))) 1 (some (w0.length + 23))) 2 (some (w0.length + 25))) 3 (some (w0.length + 27))), cO 2 [eI 0, eR ((w0.length + 6)), eR ((w0.length + 7)), eR ((w0.length + 8)), eR ((w0.length + 9)), eR ((w0.length + 10)), eR ((w0.length + 11)), eR ((w0.length + 12)), eI 0, eI 0, eI 0, eI 0, eI 0, eI 0], cI 0 6 (fun _ => 0), cI 0 6 (fun _ => 0), cI 0 6 (fun _ => 0), cI 0 6 (fun _ => 0), cI 0 72 (fun _ => 0), cI 0 6 (fun _ => 0), cI 0 3 (fun _ => 0), cO 2 [eI 0, eR ((w0.length + 14)), eR ((w0.length + 15)), eR ((w0.length + 16)), eR ((w0.length + 17)), eR ((w0.length + 18)), eR ((w0.length + 19)), eR ((w0.length + 20)), eI 0, eI 0, eI 0, eI 0, eI 0, eI 0], cI 0 6 (fun _ => 0), cI 0 6 (fun _ => 0), cI 0 6 (fun _ => 0), cI 0 6 (fun _ => 0), cI 0 72 (fun _ => 0), cI 0 6 (fun _ => 0), cI 0 3 (fun _ => 0), cO 3 [eI 0, eR ((w0.length + 22))], cI 0 200 (fun _ => 0), cO 3 [eI 0, eR ((w0.length + 24))], cI 0 200 (fun _ => 0), cO 3 [eI 0, eR ((w0.length + 26))], cI 0 200 (fun _ => 0), cO 3 [eI 0, eR ((w0.length + 28))], cI 0 200 (fun _ => 0)]) ++ [cO 3 [eI 0, eN]]) ((wc_assoc w0 [cO 5 [eR ((w0.length + 1)), eI 0, eI 0, eI ((-1)), eR ((w0.length + 2)), eR ((w0.length + 3)), eR ((w0.length + 4))], cI 0 600 (fun _ => 0), cI 0 6 (fun _ => 0), cQ 2 2 (va_up (va_up (fun _ => none) 0 (some (w0.length + 5))) 1 (some (w0.length + 13))), cQ 3 10 (va_up (va_up (va_up (va_up (fun _ => none) 0 (some (w0.length + 21))) 1 (some (w0.length + 23))) 2 (some (w0.length + 25))) 3 (some (w0.length + 27))), cO 2 [eI 0, eR ((w0.length + 6)), eR ((w0.length + 7)), eR ((w0.length + 8)), eR ((w0.length + 9)), eR ((w0.length + 10)), eR ((w0.length + 11)), eR ((w0.length + 12)), eI 0, eI 0, eI 0, eI 0, eI 0, eI 0], cI 0 6 (fun _ => 0), cI 0 6 (fun _ => 0), cI 0 6 (fun _ => 0), cI 0 6 (fun _ => 0), cI 0 72 (fun _ => 0), cI 0 6 (fun _ => 0), cI 0 3 (fun _ => 0), cO 2 [eI 0, eR ((w0.length + 14)), eR ((w0.length + 15)), eR ((w0.length + 16)), eR ((w0.length + 17)), eR ((w0.length + 18)), eR ((w0.length + 19)), eR ((w0.length + 20)), eI 0, eI 0, eI 0, eI 0, eI 0, eI 0], cI 0 6 (fun _ => 0), cI 0 6 (fun _ => 0), cI 0 6 (fun _ => 0), cI 0 6 (fun _ => 0), cI 0 72 (fun _ => 0), cI 0 6 (fun _ => 0), cI 0 3 (fun _ => 0), cO 3 [eI 0, eR ((w0.length + 22))], cI 0 200 (fun _ => 0), cO 3 [eI 0, eR ((w0.length + 24))], cI 0 200 (fun _ => 0), cO 3 [eI 0, eR ((w0.length + 26))], cI 0 200 (fun _ => 0), cO 3 [eI 0, eR ((w0.length + 28))], cI 0 200 (fun _ => 0)] [cO 3 [eI 0, eN]]).symm) ?_
  refine ww_callIN (rc := 10) (rs := 1010) K dX5_init_93 lc_X5_35 (ct_X3_init G l (w0 := w0 ++ [cO 5 [eR ((w0.length + 1)), eI 0, eI 0, eI ((-1)), eR ((w0.length + 2)), eR ((w0.length + 3)), eR ((w0.length + 4))], cI 0 600 (fun _ => 0), cI 0 6 (fun _ => 0), cQ 2 2 (va_up (va_up (fun _ => none) 0 (some (w0.length + 5))) 1 (some (w0.length + 13))), cQ 3 10 (va_up (va_up (va_up (va_up (fun _ => none) 0 (some (w0.length + 21))) 1 (some (w0.length + 23))) 2 (some (w0.length + 25))) 3 (some (w0.length + 27))), cO 2 [eI 0, eR ((w0.length + 6)), eR ((w0.length + 7)), eR ((w0.length + 8)), eR ((w0.length + 9)), eR ((w0.length + 10)), eR ((w0.length + 11)), eR ((w0.length + 12)), eI 0, eI 0, eI 0, eI 0, eI 0, eI 0], cI 0 6 (fun _ => 0), cI 0 6 (fun _ => 0), cI 0 6 (fun _ => 0), cI 0 6 (fun _ => 0), cI 0 72 (fun _ => 0), cI 0 6 (fun _ => 0), cI 0 3 (fun _ => 0), cO 2 [eI 0, eR ((w0.length + 14)), eR ((w0.length + 15)), eR ((w0.length + 16)), eR ((w0.length + 17)), eR ((w0.length + 18)), eR ((w0.length + 19)), eR ((w0.length + 20)), eI 0, eI 0, eI 0, eI 0, eI 0, eI 0], cI 0 6 (fun _ => 0), cI 0 6 (fun _ => 0), cI 0 6 (fun _ => 0), cI 0 6 (fun _ => 0), cI 0 72 (fun _ => 0), cI 0 6 (fun _ => 0), cI 0 3 (fun _ => 0), cO 3 [eI 0, eR ((w0.length + 22))], cI 0 200 (fun _ => 0), cO 3 [eI 0, eR ((w0.length + 24))], cI 0 200 (fun _ => 0), cO 3 [eI 0, eR ((w0.length + 26))], cI 0 200 (fun _ => 0), cO 3 [eI 0, eR ((w0.length + 28))], cI 0 200 (fun _ => 0)]) (n := w0.length + 29) (List.length_append)) rfl ⟨Nat.le_of_ble_eq_true rfl, Nat.le_of_ble_eq_true rfl⟩ (Nat.le_of_ble_eq_true rfl) (fun r w2 hq _ _ => ?_)
  obtain ⟨rfl, rfl⟩ := hq
  refine WW_w (w2 := w0 ++ [cO 5 [eR ((w0.length + 1)), eI 0, eI 0, eI ((-1)), eR ((w0.length + 2)), eR ((w0.length + 3)), eR ((w0.length + 4))], cI 0 600 (fun _ => 0), cI 0 6 (fun _ => 0), cQ 2 2 (va_up (va_up (fun _ => none) 0 (some (w0.length + 5))) 1 (some (w0.length + 13))), cQ 3 10 (va_up (va_up (va_up (va_up (fun _ => none) 0 (some (w0.length + 21))) 1 (some (w0.length + 23))) 2 (some (w0.length + 25))) 3 (some (w0.length + 27))), cO 2 [eI 0, eR ((w0.length + 6)), eR ((w0.length + 7)), eR ((w0.length + 8)), eR ((w0.length + 9)), eR ((w0.length + 10)), eR ((w0.length + 11)), eR ((w0.length + 12)), eI 0, eI 0, eI 0, eI 0, eI 0, eI 0], cI 0 6 (fun _ => 0), cI 0 6 (fun _ => 0), cI 0 6 (fun _ => 0), cI 0 6 (fun _ => 0), cI 0 72 (fun _ => 0), cI 0 6 (fun _ => 0), cI 0 3 (fun _ => 0), cO 2 [eI 0, eR ((w0.length + 14)), eR ((w0.length + 15)), eR ((w0.length + 16)), eR ((w0.length + 17)), eR ((w0.length + 18)), eR ((w0.length + 19)), eR ((w0.length + 20)), eI 0, eI 0, eI 0, eI 0, eI 0, eI 0], cI 0 6 (fun _ => 0), cI 0 6 (fun _ => 0), cI 0 6 (fun _ => 0), cI 0 6 (fun _ => 0), cI 0 72 (fun _ => 0), cI 0 6 (fun _ => 0), cI 0 3 (fun _ => 0), cO 3 [eI 0, eR ((w0.length + 22))], cI 0 200 (fun _ => 0), cO 3 [eI 0, eR ((w0.length + 24))], cI 0 200 (fun _ => 0), cO 3 [eI 0, eR ((w0.length + 26))], cI 0 200 (fun _ => 0), cO 3 [eI 0, eR ((w0.length + 28))], cI 0 200 (fun _ => 0), cO 3 [eI 0, eR ((w0.length + 30))], cI 0 200 (fun _ => 0)]) (wc_assoc w0 [cO 5 [eR ((w0.length + 1)), eI 0, eI 0, eI ((-1)), eR ((w0.length + 2)), eR ((w0.length + 3)), eR ((w0.length + 4))], cI 0 600 (fun _ => 0), cI 0 6 (fun _ => 0), cQ 2 2 (va_up (va_up (fun _ => none) 0 (some (w0.length + 5))) 1 (some (w0.length + 13))), cQ 3 10 (va_up (va_up (va_up (va_up (fun _ => none) 0 (some (w0.length + 21))) 1 (some (w0.length + 23))) 2 (some (w0.length + 25))) 3 (some (w0.length + 27))), cO 2 [eI 0, eR ((w0.length + 6)), eR ((w0.length + 7)), eR ((w0.length + 8)), eR ((w0.length + 9)), eR ((w0.length + 10)), eR ((w0.length + 11)), eR ((w0.length + 12)), eI 0, eI 0, eI 0, eI 0, eI 0, eI 0], cI 0 6 (fun _ => 0), cI 0 6 (fun _ => 0), cI 0 6 (fun _ => 0), cI 0 6 (fun _ => 0), cI 0 72 (fun _ => 0), cI 0 6 (fun _ => 0), cI 0 3 (fun _ => 0), cO 2 [eI 0, eR ((w0.length + 14)), eR ((w0.length + 15)), eR ((w0.length + 16)), eR ((w0.length + 17)), eR ((w0.length + 18)), eR ((w0.length + 19)), eR ((w0.length + 20)), eI 0, eI 0, eI 0, eI 0, eI 0, eI 0], cI 0 6 (fun _ => 0), cI 0 6 (fun _ => 0), cI 0 6 (fun _ => 0), cI 0 6 (fun _ => 0), cI 0 72 (fun _ => 0), cI 0 6 (fun _ => 0), cI 0 3 (fun _ => 0), cO 3 [eI 0, eR ((w0.length + 22))], cI 0 200 (fun _ => 0), cO 3 [eI 0, eR ((w0.length + 24))], cI 0 200 (fun _ => 0), cO 3 [eI 0, eR ((w0.length + 26))], cI 0 200 (fun _ => 0), cO 3 [eI 0, eR ((w0.length + 28))], cI 0 200 (fun _ => 0)] [cO 3 [eI 0, eR ((w0.length + 30))], cI 0 200 (fun _ => 0)]) ?_
  refine ww_aast3A (L2 := [cO 5 [eR ((w0.length + 1)), eI 0, eI 0, eI ((-1)), eR ((w0.length + 2)), eR ((w0.length + 3)), eR ((w0.length + 4))], cI 0 600 (fun _ => 0), cI 0 6 (fun _ => 0), cQ 2 2 (va_up (va_up (fun _ => none) 0 (some (w0.length + 5))) 1 (some (w0.length + 13))), cQ 3 10 (va_up (va_up (va_up (va_up (va_up (fun _ => none) 0 (some (w0.length + 21))) 1 (some (w0.length + 23))) 2 (some (w0.length + 25))) 3 (some (w0.length + 27))) 4 (some (w0.length + 29))), cO 2 [eI 0, eR ((w0.length + 6)), eR ((w0.length + 7)), eR ((w0.length + 8)), eR ((w0.length + 9)), eR ((w0.length + 10)), eR ((w0.length + 11)), eR ((w0.length + 12)), eI 0, eI 0, eI 0, eI 0, eI 0, eI 0], cI 0 6 (fun _ => 0), cI 0 6 (fun _ => 0), cI 0 6 (fun _ => 0), cI 0 6 (fun _ => 0), cI 0 72 (fun _ => 0), cI 0 6 (fun _ => 0), cI 0 3 (fun _ => 0), cO 2 [eI 0, eR ((w0.length + 14)), eR ((w0.length + 15)), eR ((w0.length + 16)), eR ((w0.length + 17)), eR ((w0.length + 18)), eR ((w0.length + 19)), eR ((w0.length + 20)), eI 0, eI 0, eI 0, eI 0, eI 0, eI 0], cI 0 6 (fun _ => 0), cI 0 6 (fun _ => 0), cI 0 6 (fun _ => 0), cI 0 6 (fun _ => 0), cI 0 72 (fun _ => 0), cI 0 6 (fun _ => 0), cI 0 3 (fun _ => 0), cO 3 [eI 0, eR ((w0.length + 22))], cI 0 200 (fun _ => 0), cO 3 [eI 0, eR ((w0.length + 24))], cI 0 200 (fun _ => 0), cO 3 [eI 0, eR ((w0.length + 26))], cI 0 200 (fun _ => 0), cO 3 [eI 0, eR ((w0.length + 28))], cI 0 200 (fun _ => 0), cO 3 [eI 0, eR ((w0.length + 30))], cI 0 200 (fun _ => 0)]) K dX5_init_96 rfl rfl (wc_vin (by decide)) rfl ?_
  refine ww_iinc (ls2 := [some (eR ((w0.length + 0))), some (eI (5))]) K dX5_init_97 (by decide) rfl rfl ?_
  refine ww_goto (tgt := 75) K dX5_init_100 rfl ?_
  refine ww_iload_n K dX5_init_75 rfl ?_
  refine ww_aload_n K dX5_init_76 rfl ?_
  refine ww_getA K dX5_init_77 lf_X5_30 rfl rfl ?_
  refine ww_alenq3A K dX5_init_80 rfl ?_
  rw [show Int32.ofNat 10 = 10 from rfl]
  refine ww_icmp_ge (tgt := 103) K dX5_init_81 rfl (fun cc_ => absurd cc_ (by decide)) (fun _ => ?_)
  refine ww_aload_n K dX5_init_84 rfl ?_
  refine ww_getA K dX5_init_85 lf_X5_30 rfl rfl ?_
  refine ww_iload_n K dX5_init_88 rfl ?_
  refine ww_newA (rc := 9) (rs := 1008) (L2 := [cO 5 [eR ((w0.length + 1)), eI 0, eI 0, eI ((-1)), eR ((w0.length + 2)), eR ((w0.length + 3)), eR ((w0.length + 4))], cI 0 600 (fun _ => 0), cI 0 6 (fun _ => 0), cQ 2 2 (va_up (va_up (fun _ => none) 0 (some (w0.length + 5))) 1 (some (w0.length + 13))), cQ 3 10 (va_up (va_up (va_up (va_up (va_up (fun _ => none) 0 (some (w0.length + 21))) 1 (some (w0.length + 23))) 2 (some (w0.length + 25))) 3 (some (w0.length + 27))) 4 (some (w0.length + 29))), cO 2 [eI 0, eR ((w0.length + 6)), eR ((w0.length + 7)), eR ((w0.length + 8)), eR ((w0.length + 9)), eR ((w0.length + 10)), eR ((w0.length + 11)), eR ((w0.length + 12)), eI 0, eI 0, eI 0, eI 0, eI 0, eI 0], cI 0 6 (fun _ => 0), cI 0 6 (fun _ => 0), cI 0 6 (fun _ => 0), cI 0 6 (fun _ => 0), cI 0 72 (fun _ => 0), cI 0 6 (fun _ => 0), cI 0 3 (fun _ => 0), cO 2 [eI 0, eR ((w0.length + 14)), eR ((w0.length + 15)), eR ((w0.length + 16)), eR ((w0.length + 17)), eR ((w0.length + 18)), eR ((w0.length + 19)), eR ((w0.length + 20)), eI 0, eI 0, eI 0, eI 0, eI 0, eI 0], cI 0 6 (fun _ => 0), cI 0 6 (fun _ => 0), cI 0 6 (fun _ => 0), cI 0 6 (fun _ => 0), cI 0 72 (fun _ => 0), cI 0 6 (fun _ => 0), cI 0 3 (fun _ => 0), cO 3 [eI 0, eR ((w0.length + 22))], cI 0 200 (fun _ => 0), cO 3 [eI 0, eR ((w0.length + 24))], cI 0 200 (fun _ => 0), cO 3 [eI 0, eR ((w0.length + 26))], cI 0 200 (fun _ => 0), cO 3 [eI 0, eR ((w0.length + 28))], cI 0 200 (fun _ => 0), cO 3 [eI 0, eR ((w0.length + 30))], cI 0 200 (fun _ => 0), cO 3 [eI 0, eN]]) K dX5_init_89 ln_X5_28 rfl rfl ?_
  refine ww_dup K dX5_init_92 trivial ?_
  refine WW_w (w2 := (w0 ++ [cO 5 [eR ((w0.length + 1)), eI 0, eI 0, eI ((-1)), eR ((w0.length + 2)), eR ((w0.length + 3)), eR ((w0.length + 4))], cI 0 600 (fun _ => 0), cI 0 6 (fun _ => 0), cQ 2 2 (va_up (va_up (fun _ => none) 0 (some (w0.length + 5))) 1 (some (w0.length + 13))), cQ 3 10 (va_up (va_up (va_up (va_up (va_up (fun _ => none) 0 (some (w0.length + 21))) 1 (some (w0.length + 23))) 2 (some (w0.length + 25))) 3 (some (w0.length + 27))) 4 (some (w0.length + 29))), cO 2 [eI 0, eR ((w0.length + 6)), eR ((w0.length + 7)), eR ((w0.length + 8)), eR ((w0.length + 9)), eR ((w0.length + 10)), eR ((w0.length + 11)), eR ((w0.length + 12)), eI 0, eI 0, eI 0, eI 0, eI 0, eI 0], cI 0 6 (fun _ => 0), cI 0 6 (fun _ => 0), cI 0 6 (fun _ => 0), cI 0 6 (fun _ => 0), cI 0 72 (fun _ => 0), cI 0 6 (fun _ => 0), cI 0 3 (fun _ => 0), cO 2 [eI 0, eR ((w0.length + 14)), eR ((w0.length + 15)), eR ((w0.length + 16)), eR ((w0.length + 17)), eR ((w0.length + 18)), eR ((w0.length + 19)), eR ((w0.length + 20)), eI 0, eI 0, eI 0, eI 0, eI 0, eI 0], cI 0 6 (fun _ => 0), cI 0 6 (fun _ => 0), cI 0 6 (fun _ => 0), cI 0 6 (fun _ => 0), cI 0 72 (fun _ => 0), cI 0 6 (fun _ => 0), cI 0 3 (fun _ => 0), cO 3 [eI 0, eR ((w0.length + 22))], cI 0 200 (fun _ => 0), cO 3 [eI 0, eR ((w0.length + 24))], cI 0 200 (fun _ => 0), cO 3 [eI 0, eR ((w0.length + 26))], cI 0 200 (fun _ => 0), cO 3 [eI 0, eR ((w0.length + 28))], cI 0 200 (fun _ => 0), cO 3 [eI 0, eR ((w0.length + 30))], cI 0 200 (fun _ => 0)]) ++ [cO 3 [eI 0, eN]]) ((wc_assoc w0 [cO 5 [eR ((w0.length + 1)), eI 0, eI 0, eI ((-1)), eR ((w0.length + 2)), eR ((w0.length + 3)), eR ((w0.length + 4))], cI 0 600 (fun _ => 0), cI 0 6 (fun _ => 0), cQ 2 2 (va_up (va_up (fun _ => none) 0 (some (w0.length + 5))) 1 (some (w0.length + 13))), cQ 3 10 (va_up (va_up (va_up (va_up (va_up (fun _ => none) 0 (some (w0.length + 21))) 1 (some (w0.length + 23))) 2 (some (w0.length + 25))) 3 (some (w0.length + 27))) 4 (some (w0.length + 29))), cO 2 [eI 0, eR ((w0.length + 6)), eR ((w0.length + 7)), eR ((w0.length + 8)), eR ((w0.length + 9)), eR ((w0.length + 10)), eR ((w0.length + 11)), eR ((w0.length + 12)), eI 0, eI 0, eI 0, eI 0, eI 0, eI 0], cI 0 6 (fun _ => 0), cI 0 6 (fun _ => 0), cI 0 6 (fun _ => 0), cI 0 6 (fun _ => 0), cI 0 72 (fun _ => 0), cI 0 6 (fun _ => 0), cI 0 3 (fun _ => 0), cO 2 [eI 0, eR ((w0.length + 14)), eR ((w0.length + 15)), eR ((w0.length + 16)), eR ((w0.length + 17)), eR ((w0.length + 18)), eR ((w0.length + 19)), eR ((w0.length + 20)), eI 0, eI 0, eI 0, eI 0, eI 0, eI 0], cI 0 6 (fun _ => 0), cI 0 6 (fun _ => 0), cI 0 6 (fun _ => 0), cI 0 6 (fun _ => 0), cI 0 72 (fun _ => 0), cI 0 6 (fun _ => 0), cI 0 3 (fun _ => 0), cO 3 [eI 0, eR ((w0.length + 22))], cI 0 200 (fun _ => 0), cO 3 [eI 0, eR ((w0.length + 24))], cI 0 200 (fun _ => 0), cO 3 [eI 0, eR ((w0.length + 26))], cI 0 200 (fun _ => 0), cO 3 [eI 0, eR ((w0.length + 28))], cI 0 200 (fun _ => 0), cO 3 [eI 0, eR ((w0.length + 30))], cI 0 200 (fun _ => 0)] [cO 3 [eI 0, eN]]).symm) ?_
  refine ww_callIN (rc := 8) (rs := 808) K dX5_init_93 lc_X5_35 (ct_X3_init G l (w0 := w0 ++ [cO 5 [eR ((w0.length + 1)), eI 0, eI 0, eI ((-1)), eR ((w0.length + 2)), eR ((w0.length + 3)), eR ((w0.length + 4))], cI 0 600 (fun _ => 0), cI 0 6 (fun _ => 0), cQ 2 2 (va_up (va_up (fun _ => none) 0 (some (w0.length + 5))) 1 (some (w0.length + 13))), cQ 3 10 (va_up (va_up (va_up (va_up (va_up (fun _ => none) 0 (some (w0.length + 21))) 1 (some (w0.length + 23))) 2 (some (w0.length + 25))) 3 (some (w0.length + 27))) 4 (some (w0.length + 29))), cO 2 [eI 0, eR ((w0.length + 6)), eR ((w0.length + 7)), eR ((w0.length + 8)), eR ((w0.length + 9)), eR ((w0.length + 10)), eR ((w0.length + 11)), eR ((w0.length + 12)), eI 0, eI 0, eI 0, eI 0, eI 0, eI 0], cI 0 6 (fun _ => 0), cI 0 6 (fun _ => 0), cI 0 6 (fun _ => 0), cI 0 6 (fun _ => 0), cI 0 72 (fun _ => 0), cI 0 6 (fun _ => 0), cI 0 3 (fun _ => 0), cO 2 [eI 0, eR ((w0.length + 14)), eR ((w0.length + 15)), eR ((w0.length + 16)), eR ((w0.length + 17)), eR ((w0.length + 18)), eR ((w0.length + 19)), eR ((w0.length + 20)), eI 0, eI 0, eI 0, eI 0, eI 0, eI 0], cI 0 6 (fun _ => 0), cI 0 6 (fun _ => 0), cI 0 6 (fun _ => 0), cI 0 6 (fun _ => 0), cI 0 72 (fun _ => 0), cI 0 6 (fun _ => 0), cI 0 3 (fun _ => 0), cO 3 [eI 0, eR ((w0.length + 22))], cI 0 200 (fun _ => 0), cO 3 [eI 0, eR ((w0.length + 24))], cI 0 200 (fun _ => 0), cO 3 [eI 0, eR ((w0.length + 26))], cI 0 200 (fun _ => 0), cO 3 [eI 0, eR ((w0.length + 28))], cI 0 200 (fun _ => 0), cO 3 [eI 0, eR ((w0.length + 30))], cI 0 200 (fun _ => 0)]) (n := w0.length + 31) (List.length_append)) rfl ⟨Nat.le_of_ble_eq_true rfl, Nat.le_of_ble_eq_true rfl⟩ (Nat.le_of_ble_eq_true rfl) (fun r w2 hq _ _ => ?_)
  obtain ⟨rfl, rfl⟩ := hq
  refine WW_w (w2 := w0 ++ [cO 5 [eR ((w0.length + 1)), eI 0, eI 0, eI ((-1)), eR ((w0.length + 2)), eR ((w0.length + 3)), eR ((w0.length + 4))], cI 0 600 (fun _ => 0), cI 0 6 (fun _ => 0), cQ 2 2 (va_up (va_up (fun _ => none) 0 (some (w0.length + 5))) 1 (some (w0.length + 13))), cQ 3 10 (va_up (va_up (va_up (va_up (va_up (fun _ => none) 0 (some (w0.length + 21))) 1 (some (w0.length + 23))) 2 (some (w0.length + 25))) 3 (some (w0.length + 27))) 4 (some (w0.length + 29))), cO 2 [eI 0, eR ((w0.length + 6)), eR ((w0.length + 7)), eR ((w0.length + 8)), eR ((w0.length + 9)), eR ((w0.length + 10)), eR ((w0.length + 11)), eR ((w0.length + 12)), eI 0, eI 0, eI 0, eI 0, eI 0, eI 0], cI 0 6 (fun _ => 0), cI 0 6 (fun _ => 0), cI 0 6 (fun _ => 0), cI 0 6 (fun _ => 0), cI 0 72 (fun _ => 0), cI 0 6 (fun _ => 0), cI 0 3 (fun _ => 0), cO 2 [eI 0, eR ((w0.length + 14)), eR ((w0.length + 15)), eR ((w0.length + 16)), eR ((w0.length + 17)), eR ((w0.length + 18)), eR ((w0.length + 19)), eR ((w0.length + 20)), eI 0, eI 0, eI 0, eI 0, eI 0, eI 0], cI 0 6 (fun _ => 0), cI 0 6 (fun _ => 0), cI 0 6 (fun _ => 0), cI 0 6 (fun _ => 0), cI 0 72 (fun _ => 0), cI 0 6 (fun _ => 0), cI 0 3 (fun _ => 0), cO 3 [eI 0, eR ((w0.length + 22))], cI 0 200 (fun _ => 0), cO 3 [eI 0, eR ((w0.length + 24))], cI 0 200 (fun _ => 0), cO 3 [eI 0, eR ((w0.length + 26))], cI 0 200 (fun _ => 0), cO 3 [eI 0, eR ((w0.length + 28))], cI 0 200 (fun _ => 0), cO 3 [eI 0, eR ((w0.length + 30))], cI 0 200 (fun _ => 0), cO 3 [eI 0, eR ((w0.length + 32))], cI 0 200 (fun _ => 0)]) (wc_assoc w0 [cO 5 [eR ((w0.length + 1)), eI 0, eI 0, eI ((-1)), eR ((w0.length + 2)), eR ((w0.length + 3)), eR ((w0.length + 4))], cI 0 600 (fun _ => 0), cI 0 6 (fun _ => 0), cQ 2 2 (va_up (va_up (fun _ => none) 0 (some (w0.length + 5))) 1 (some (w0.length + 13))), cQ 3 10 (va_up (va_up (va_up (va_up (va_up (fun _ => none) 0 (some (w0.length + 21))) 1 (some (w0.length + 23))) 2 (some (w0.length + 25))) 3 (some (w0.length + 27))) 4 (some (w0.length + 29))), cO 2 [eI 0, eR ((w0.length + 6)), eR ((w0.length + 7)), eR ((w0.length + 8)), eR ((w0.length + 9)), eR ((w0.length + 10)), eR ((w0.length + 11)), eR ((w0.length + 12)), eI 0, eI 0, eI 0, eI 0, eI 0, eI 0], cI 0 6 (fun _ => 0), cI 0 6 (fun _ => 0), cI 0 6 (fun _ => 0), cI 0 6 (fun _ => 0), cI 0 72 (fun _ => 0), cI 0 6 (fun _ => 0), cI 0 3 (fun _ => 0), cO 2 [eI 0, eR ((w0.length + 14)), eR ((w0.length + 15)), eR ((w0.length + 16)), eR ((w0.length + 17)), eR ((w0.length + 18)), eR ((w0.length + 19)), eR ((w0.length + 20)), eI 0, eI 0, eI 0, eI 0, eI 0, eI 0], cI 0 6 (fun _ => 0), cI 0 6 (fun _ => 0), cI 0 6 (fun _ => 0), cI 0 6 (fun _ => 0), cI 0 72 (fun _ => 0), cI 0 6 (fun _ => 0), cI 0 3 (fun _ => 0), cO 3 [eI 0, eR ((w0.length + 22))], cI 0 200 (fun _ => 0), cO 3 [eI 0, eR ((w0.length + 24))], cI 0 200 (fun _ => 0), cO 3 [eI 0, eR ((w0.length + 26))], cI 0 200 (fun _ => 0), cO 3 [eI 0, eR ((w0.length + 28))], cI 0 200 (fun _ => 0), cO 3 [eI 0, eR ((w0.length + 30))], cI 0 200 (fun _ => 0)] [cO 3 [eI 0, eR ((w0.length + 32))], cI 0 200 (fun _ => 0)]) ?_
  refine ww_aast3A (L2 := [cO 5 [eR ((w0.length + 1)), eI 0, eI 0, eI ((-1)), eR ((w0.length + 2)), eR ((w0.length + 3)), eR ((w0.length + 4))], cI 0 600 (fun _ => 0), cI 0 6 (fun _ => 0), cQ 2 2 (va_up (va_up (fun _ => none) 0 (some (w0.length + 5))) 1 (some (w0.length + 13))), cQ 3 10 (va_up (va_up (va_up (va_up (va_up (va_up (fun _ => none) 0 (some (w0.length + 21))) 1 (some (w0.length + 23))) 2 (some (w0.length + 25))) 3 (some (w0.length + 27))) 4 (some (w0.length + 29))) 5 (some (w0.length + 31))), cO 2 [eI 0, eR ((w0.length + 6)), eR ((w0.length + 7)), eR ((w0.length + 8)), eR ((w0.length + 9)), eR ((w0.length + 10)), eR ((w0.length + 11)), eR ((w0.length + 12)), eI 0, eI 0, eI 0, eI 0, eI 0, eI 0], cI 0 6 (fun _ => 0), cI 0 6 (fun _ => 0), cI 0 6 (fun _ => 0), cI 0 6 (fun _ => 0), cI 0 72 (fun _ => 0), cI 0 6 (fun _ => 0), cI 0 3 (fun _ => 0), cO 2 [eI 0, eR ((w0.length + 14)), eR ((w0.length + 15)), eR ((w0.length + 16)), eR ((w0.length + 17)), eR ((w0.length + 18)), eR ((w0.length + 19)), eR ((w0.length + 20)), eI 0, eI 0, eI 0, eI 0, eI 0, eI 0], cI 0 6 (fun _ => 0), cI 0 6 (fun _ => 0), cI 0 6 (fun _ => 0), cI 0 6 (fun _ => 0), cI 0 72 (fun _ => 0), cI 0 6 (fun _ => 0), cI 0 3 (fun _ => 0), cO 3 [eI 0, eR ((w0.length + 22))], cI 0 200 (fun _ => 0), cO 3 [eI 0, eR ((w0.length + 24))], cI 0 200 (fun _ => 0), cO 3 [eI 0, eR ((w0.length + 26))], cI 0 200 (fun _ => 0), cO 3 [eI 0, eR ((w0.length + 28))], cI 0 200 (fun _ => 0), cO 3 [eI 0, eR ((w0.length + 30))], cI 0 200 (fun _ => 0), cO 3 [eI 0, eR ((w0.length + 32))], cI 0 200 (fun _ => 0)]) K dX5_init_96 rfl rfl (wc_vin (by decide)) rfl ?_
  refine ww_iinc (ls2 := [some (eR ((w0.length + 0))), some (eI (6))]) K dX5_init_97 (by decide) rfl rfl ?_
  refine ww_goto (tgt := 75) K dX5_init_100 rfl ?_
  refine ww_iload_n K dX5_init_75 rfl ?_
  refine ww_aload_n K dX5_init_76 rfl ?_
  refine ww_getA K dX5_init_77 lf_X5_30 rfl rfl ?_
  refine ww_alenq3A K dX5_init_80 rfl ?_
  rw [show Int32.ofNat 10 = 10 from rfl]
  refine ww_icmp_ge (tgt := 103) K dX5_init_81 rfl (fun cc_ => absurd cc_ (by decide)) (fun _ => ?_)
  refine ww_aload_n K dX5_init_84 rfl ?_
  refine ww_getA K dX5_init_85 lf_X5_30 rfl rfl ?_
  refine ww_iload_n K dX5_init_88 rfl ?_
  refine ww_newA (rc := 7) (rs := 806) (L2 := [cO 5 [eR ((w0.length + 1)), eI 0, eI 0, eI ((-1)), eR ((w0.length + 2)), eR ((w0.length + 3)), eR ((w0.length + 4))], cI 0 600 (fun _ => 0), cI 0 6 (fun _ => 0), cQ 2 2 (va_up (va_up (fun _ => none) 0 (some (w0.length + 5))) 1 (some (w0.length + 13))), cQ 3 10 (va_up (va_up (va_up (va_up (va_up (va_up (fun _ => none) 0 (some (w0.length + 21))) 1 (some (w0.length + 23))) 2 (some (w0.length + 25))) 3 (some (w0.length + 27))) 4 (some (w0.length + 29))) 5 (some (w0.length + 31))), cO 2 [eI 0, eR ((w0.length + 6)), eR ((w0.length + 7)), eR ((w0.length + 8)), eR ((w0.length + 9)), eR ((w0.length + 10)), eR ((w0.length + 11)), eR ((w0.length + 12)), eI 0, eI 0, eI 0, eI 0, eI 0, eI 0], cI 0 6 (fun _ => 0), cI 0 6 (fun _ => 0), cI 0 6 (fun _ => 0), cI 0 6 (fun _ => 0), cI 0 72 (fun _ => 0), cI 0 6 (fun _ => 0), cI 0 3 (fun _ => 0), cO 2 [eI 0, eR ((w0.length + 14)), eR ((w0.length + 15)), eR ((w0.length + 16)), eR ((w0.length + 17)), eR ((w0.length + 18)), eR ((w0.length + 19)), eR ((w0.length + 20)), eI 0, eI 0, eI 0, eI 0, eI 0, eI 0], cI 0 6 (fun _ => 0), cI 0 6 (fun _ => 0), cI 0 6 (fun _ => 0), cI 0 6 (fun _ => 0), cI 0 72 (fun _ => 0), cI 0 6 (fun _ => 0), cI 0 3 (fun _ => 0), cO 3 [eI 0, eR ((w0.length + 22))], cI 0 200 (fun _ => 0), cO 3 [eI 0, eR ((w0.length + 24))], cI 0 200 (fun _ => 0), cO 3 [eI 0, eR ((w0.length + 26))], cI 0 200 (fun _ => 0), cO 3 [eI 0, eR ((w0.length + 28))], cI 0 200 (fun _ => 0), cO 3 [eI 0, eR ((w0.length + 30))], cI 0 200 (fun _ => 0), cO 3 [eI 0, eR ((w0.length + 32))], cI 0 200 (fun _ => 0), cO 3 [eI 0, eN]]) K dX5_init_89 ln_X5_28 rfl rfl ?_
  refine ww_dup K dX5_init_92 trivial ?_
  refine WW_w (w2 := (w0 ++ [cO 5 [eR ((w0.length + 1)), eI 0, eI 0, eI ((-1)), eR ((w0.length + 2)), eR ((w0.length + 3)), eR ((w0.length + 4))], cI 0 600 (fun _ => 0), cI 0 6 (fun _ => 0), cQ 2 2 (va_up (va_up (fun _ => none) 0 (some (w0.length + 5))) 1 (some (w0.length + 13))), cQ 3 10 (va_up (va_up (va_up (va_up (va_up (va_up (fun _ => none) 0 (some (w0.length + 21))) 1 (some (w0.length + 23))) 2 (some (w0.length + 25))) 3 (some (w0.length + 27))) 4 (some (w0.length + 29))) 5 (some (w0.length + 31))), cO 2 [eI 0, eR ((w0.length + 6)), eR ((w0.length + 7)), eR ((w0.length + 8)), eR ((w0.length + 9)), eR ((w0.length + 10)), eR ((w0.length + 11)), eR ((w0.length + 12)), eI 0, eI 0, eI 0, eI 0, eI 0, eI 0], cI 0 6 (fun _ => 0), cI 0 6 (fun _ => 0), cI 0 6 (fun _ => 0), cI 0 6 (fun _ => 0), cI 0 72 (fun _ => 0), cI 0 6 (fun _ => 0), cI 0 3 (fun _ => 0), cO 2 [eI 0, eR ((w0.length + 14)), eR ((w0.length + 15)), eR ((w0.length + 16)), eR ((w0.length + 17)), eR ((w0.length + 18)), eR ((w0.length + 19)), eR ((w0.length + 20)), eI 0, eI 0, eI 0, eI 0, eI 0, eI 0], cI 0 6 (fun _ => 0), cI 0 6 (fun _ => 0), cI 0 6 (fun _ => 0), cI 0 6 (fun _ => 0), cI 0 72 (fun _ => 0), cI 0 6 (fun _ => 0), cI 0 3 (fun _ => 0), cO 3 [eI 0, eR ((w0.length + 22))], cI 0 200 (fun _ => 0), cO 3 [eI 0, eR ((w0.length + 24))], cI 0 200 (fun _ => 0), cO 3 [eI 0, eR ((w0.length + 26))], cI 0 200 (fun _ => 0), cO 3 [eI 0, eR ((w0.length + 28))], cI 0 200 (fun _ => 0), cO 3 [eI 0, eR ((w0.length + 30))], cI 0 200 (fun _ => 0), cO 3 [eI 0, eR ((w0.length + 32))], cI 0 200 (fun _ => 0)]) ++ [cO 3 [eI 0, eN]]) ((wc_assoc w0 [cO 5 [eR ((w0.length + 1)), eI 0, eI 0, eI ((-1)), eR ((w0.length + 2)), eR ((w0.length + 3)), eR ((w0.length + 4))], cI 0 600 (fun _ => 0), cI 0 6 (fun _ => 0), cQ 2 2 (va_up (va_up (fun _ => none) 0 (some (w0.length + 5))) 1 (some (w0.length + 13))), cQ 3 10 (va_up (va_up (va_up (va_up (va_up (va_up (fun _ => none) 0 (some (w0.length + 21))) 1 (some (w0.length + 23))) 2 (some (w0.length + 25))) 3 (some (w0.length + 27))) 4 (some (w0.length + 29))) 5 (some (w0.length + 31))), cO 2 [eI 0, eR ((w0.length + 6)), eR ((w0.length + 7)), eR ((w0.length + 8)), eR ((w0.length + 9)), eR ((w0.length + 10)), eR ((w0.length + 11)), eR ((w0.length + 12)), eI 0, eI 0, eI 0, eI 0, eI 0, eI 0], cI 0 6 (fun _ => 0), cI 0 6 (fun _ => 0), cI 0 6 (fun _ => 0), cI 0 6 (fun _ => 0), cI 0 72 (fun _ => 0), cI 0 6 (fun _ => 0), cI 0 3 (fun _ => 0), cO 2 [eI 0, eR ((w0.length + 14)), eR ((w0.length + 15)), eR ((w0.length + 16)), eR ((w0.length + 17)), eR ((w0.length + 18)), eR ((w0.length + 19)), eR ((w0.length + 20)), eI 0, eI 0, eI 0, eI 0, eI 0, eI 0], cI 0 6 (fun _ => 0), cI 0 6 (fun _ => 0), cI 0 6 (fun _ => 0), cI 0 6 (fun _ => 0), cI 0 72 (fun _ => 0), cI 0 6 (fun _ => 0), cI 0 3 (fun _ => 0), cO 3 [eI 0, eR ((w0.length + 22))], cI 0 200 (fun _ => 0), cO 3 [eI 0, eR ((w0.length + 24))], cI 0 200 (fun _ => 0), cO 3 [eI 0, eR ((w0.length + 26))], cI 0 200 (fun _ => 0), cO 3 [eI 0, eR ((w0.length + 28))], cI 0 200 (fun _ => 0), cO 3 [eI 0, eR ((w0.length + 30))], cI 0 200 (fun _ => 0), cO 3 [eI 0, eR ((w0.length + 32))], cI 0 200 (fun _ => 0)] [cO 3 [eI 0, eN]]).symm) ?_
  refine ww_callIN (rc := 6) (rs := 606) K dX5_init_93 lc_X5_35 (ct_X3_init G l (w0 := w0 ++ [cO 5 [eR ((w0.length + 1)), eI 0, eI 0, eI ((-1)), eR ((w0.length + 2)), eR ((w0.length + 3)), eR ((w0.length + 4))], cI 0 600 (fun _ => 0), cI 0 6 (fun _ => 0), cQ 2 2 (va_up (va_up (fun _ => none) 0 (some (w0.length + 5))) 1 (some (w0.length + 13))), cQ 3 10 (va_up (va_up (va_up (va_up (va_up (va_up (fun _ => none) 0 (some (w0.length + 21))) 1 (some (w0.length + 23))) 2 (some (w0.length + 25))) 3 (some (w0.length + 27))) 4 (some (w0.length + 29))) 5 (some (w0.length + 31))), cO 2 [eI 0, eR ((w0.length + 6)), eR ((w0.length + 7)), eR ((w0.length + 8)), eR ((w0.length + 9)), eR ((w0.length + 10)), eR ((w0.length + 11)), eR ((w0.length + 12)), eI 0, eI 0, eI 0, eI 0, eI 0, eI 0], cI 0 6 (fun _ => 0), cI 0 6 (fun _ => 0), cI 0 6 (fun _ => 0), cI 0 6 (fun _ => 0), cI 0 72 (fun _ => 0), cI 0 6 (fun _ => 0), cI 0 3 (fun _ => 0), cO 2 [eI 0, eR ((w0.length + 14)), eR ((w0.length + 15)), eR ((w0.length + 16)), eR ((w0.length + 17)), eR ((w0.length + 18)), eR ((w0.length + 19)), eR ((w0.length + 20)), eI 0, eI 0, eI 0, eI 0, eI 0, eI 0], cI 0 6 (fun _ => 0), cI 0 6 (fun _ => 0), cI 0 6 (fun _ => 0), cI 0 6 (fun _ => 0), cI 0 72 (fun _ => 0), cI 0 6 (fun _ => 0), cI 0 3 (fun _ => 0), cO 3 [eI 0, eR ((w0.length + 22))], cI 0 200 (fun _ => 0), cO 3 [eI 0, eR ((w0.length + 24))], cI 0 200 (fun _ => 0), cO 3 [eI 0, eR ((w0.length + 26))], cI 0 200 (fun _ => 0), cO 3 [eI 0, eR ((w0.length + 28))], cI 0 200 (fun _ => 0), cO 3 [eI 0, eR ((w0.length + 30))], cI 0 200 (fun _ => 0), cO 3 [eI 0, eR ((w0.length + 32))], cI 0 200 (fun _ => 0)]) (n := w0.length + 33) (List.length_append)) rfl ⟨Nat.le_of_ble_eq_true rfl, Nat.le_of_ble_eq_true rfl⟩ (Nat.le_of_ble_eq_true rfl) (fun r w2 hq _ _ => ?_)
  obtain ⟨rfl, rfl⟩ := hq
  refine WW_w (w2 := w0 ++ [cO 5 [eR ((w0.length + 1)), eI 0, eI 0, eI ((-1)), eR ((w0.length + 2)), eR ((w0.length + 3)), eR ((w0.length + 4))], cI 0 600 (fun _ => 0), cI 0 6 (fun _ => 0), cQ 2 2 (va_up (va_up (fun _ => none) 0 (some (w0.length + 5))) 1 (some (w0.length + 13))), cQ 3 10 (va_up (va_up (va_up (va_up (va_up (va_up (fun _ => none) 0 (some (w0.length + 21))) 1 (some (w0.length + 23))) 2 (some (w0.length + 25))) 3 (some (w0.length + 27))) 4 (some (w0.length + 29))) 5 (some (w0.length + 31))), cO 2 [eI 0, eR ((w0.length + 6)), eR ((w0.length + 7)), eR ((w0.length + 8)), eR ((w0.length + 9)), eR ((w0.length + 10)), eR ((w0.length + 11)), eR ((w0.length + 12)), eI 0, eI 0, eI 0, eI 0, eI 0, eI 0], cI 0 6 (fun _ => 0), cI 0 6 (fun _ => 0), cI 0 6 (fun _ => 0), cI 0 6 (fun _ => 0), cI 0 72 (fun _ => 0), cI 0 6 (fun _ => 0), cI 0 3 (fun _ => 0), cO 2 [eI 0, eR ((w0.length + 14)), eR ((w0.length + 15)), eR ((w0.length + 16)), eR ((w0.length + 17)), eR ((w0.length + 18)), eR ((w0.length + 19)), eR ((w0.length + 20)), eI 0, eI 0, eI 0, eI 0, eI 0, eI 0], cI 0 6 (fun _ => 0), cI 0 6 (fun _ => 0), cI 0 6 (fun _ => 0), cI 0 6 (fun _ => 0), cI 0 72 (fun _ => 0), cI 0 6 (fun _ => 0), cI 0 3 (fun _ => 0), cO 3 [eI 0, eR ((w0.length + 22))], cI 0 200 (fun _ => 0), cO 3 [eI 0, eR ((w0.length + 24))], cI 0 200 (fun _ => 0), cO 3 [eI 0, eR ((w0.length + 26))], cI 0 200 (fun _ => 0), cO 3 [eI 0, eR ((w0.length + 28))], cI 0 200 (fun _ => 0), cO 3 [eI 0, eR ((w0.length + 30))], cI 0 200 (fun _ => 0), cO 3 [eI 0, eR ((w0.length + 32))], cI 0 200 (fun _ => 0), cO 3 [eI 0, eR ((w0.length + 34))], cI 0 200 (fun _ => 0)]) (wc_assoc w0 [cO 5 [eR ((w0.length + 1)), eI 0, eI 0, eI ((-1)), eR ((w0.length + 2)), eR ((w0.length + 3)), eR ((w0.length + 4))], cI 0 600 (fun _ => 0), cI 0 6 (fun _ => 0), cQ 2 2 (va_up (va_up (fun _ => none) 0 (some (w0.length + 5))) 1 (some (w0.length + 13))), cQ 3 10 (va_up (va_up (va_up (va_up (va_up (va_up (fun _ => none) 0 (some (w0.length + 21))) 1 (some (w0.length + 23))) 2 (some (w0.length + 25))) 3 (some (w0.length + 27))) 4 (some (w0.length + 29))) 5 (some (w0.length + 31))), cO 2 [eI 0, eR ((w0.length + 6)), eR ((w0.length + 7)), eR ((w0.length + 8)), eR ((w0.length + 9)), eR ((w0.length + 10)), eR ((w0.length + 11)), eR ((w0.length + 12)), eI 0, eI 0, eI 0, eI 0, eI 0, eI 0], cI 0 6 (fun _ => 0), cI 0 6 (fun _ => 0), cI 0 6 (fun _ => 0), cI 0 6 (fun _ => 0), cI 0 72 (fun _ => 0), cI 0 6 (fun _ => 0), cI 0 3 (fun _ => 0), cO 2 [eI 0, eR ((w0.length + 14)), eR ((w0.length + 15)), eR ((w0.length + 16)), eR ((w0.length + 17)), eR ((w0.length + 18)), eR ((w0.length + 19)), eR ((w0.length + 20)), eI 0, eI 0, eI 0, eI 0, eI 0, eI 0], cI 0 6 (fun _ => 0), cI 0 6 (fun _ => 0), cI 0 6 (fun _ => 0), cI 0 6 (fun _ => 0), cI 0 72 (fun _ => 0), cI 0 6 (fun _ => 0), cI 0 3 (fun _ => 0), cO 3 [eI 0, eR ((w0.length + 22))], cI 0 200 (fun _ => 0), cO 3 [eI 0, eR ((w0.length + 24))], cI 0 200 (fun _ => 0), cO 3 [eI 0, eR ((w0.length + 26))], cI 0 200 (fun _ => 0), cO 3 [eI 0, eR ((w0.length + 28))], cI 0 200 (fun _ => 0), cO 3 [eI 0, eR ((w0.length + 30))], cI 0 200 (fun _ => 0), cO 3 [eI 0, eR ((w0.length + 32))], cI 0 200 (fun _ => 0)] [cO 3 [eI 0, eR ((w0.length + 34))], cI 0 200 (fun _ => 0)]) ?_
  refine ww_aast3A (L2 := [cO 5 [eR ((w0.length + 1)), eI 0, eI 0, eI ((-1)), eR ((w0.length + 2)), eR ((w0.length + 3)), eR ((w0.length + 4))], cI 0 600 (fun _ => 0), cI 0 6 (fun _ => 0), cQ 2 2 (va_up (va_up (fun _ => none) 0 (some (w0.length + 5))) 1 (some (w0.length + 13))), cQ 3 10 (va_up (va_up (va_up (va_up (va_up (va_up (va_up (fun _ => none) 0 (some (w0.length + 21))) 1 (some (w0.length + 23))) 2 (some (w0.length + 25))) 3 (some (w0.length + 27))) 4 (some (w0.length + 29))) 5 (some (w0.length + 31))) 6 (some (w0.length + 33))), cO 2 [eI 0, eR ((w0.length + 6)), eR ((w0.length + 7)), eR ((w0.length + 8)), eR ((w0.length + 9)), eR ((w0.length + 10)), eR ((w0.length + 11)), eR ((w0.length + 12)), eI 0, eI 0, eI 0, eI 0, eI 0, eI 0], cI 0 6 (fun _ => 0), cI 0 6 (fun _ => 0), cI 0 6 (fun _ => 0), cI 0 6 (fun _ => 0), cI 0 72 (fun _ => 0), cI 0 6 (fun _ => 0), cI 0 3 (fun _ => 0), cO 2 [eI 0, eR ((w0.length + 14)), eR ((w0.length + 15)), eR ((w0.length + 16)), eR ((w0.length + 17)), eR ((w0.length + 18)), eR ((w0.length + 19)), eR ((w0.length + 20)), eI 0, eI 0, eI 0, eI 0, eI 0, eI 0], cI 0 6 (fun _ => 0), cI 0 6 (fun _ => 0), cI 0 6 (fun _ => 0), cI 0 6 (fun _ => 0), cI 0 72 (fun _ => 0), cI 0 6 (fun _ => 0), cI 0 3 (fun _ => 0), cO 3 [eI 0, eR ((w0.length + 22))], cI 0 200 (fun _ => 0), cO 3 [eI 0, eR ((w0.length + 24))], cI 0 200 (fun _ => 0), cO 3 [eI 0, eR ((w0.length + 26))], cI 0 200 (fun _ => 0), cO 3 [eI 0, eR ((w0.length + 28))], cI 0 200 (fun _ => 0), cO 3 [eI 0, eR ((w0.length + 30))], cI 0 200 (fun _ => 0), cO 3 [eI 0, eR ((w0.length + 32))], cI 0 200 (fun _ => 0), cO 3 [eI 0, eR ((w0.length + 34))], cI 0 200 (fun _ => 0)]) K dX5_init_96 rfl rfl (wc_vin (by decide)) rfl ?_
  refine ww_iinc (ls2 := [some (eR ((w0.length + 0))), some (eI (7))]) K dX5_init_97 (by decide) rfl rfl ?_
  refine ww_goto (tgt := 75) K dX5_init_100 rfl ?_
  refine ww_iload_n K dX5_init_75 rfl ?_
  refine ww_aload_n K dX5_init_76 rfl ?_
  refine ww_getA K dX5_init_77 lf_X5_30 rfl rfl ?_
  refine ww_alenq3A K dX5_init_80 rfl ?_
  rw [show Int32.ofNat 10 = 10 from rfl]
  refine ww_icmp_ge (tgt := 103) K dX5_init_81 rfl (fun cc_ => absurd cc_ (by decide)) (fun _ => ?_)
  refine ww_aload_n K dX5_init_84 rfl ?_
  refine ww_getA K dX5_init_85 lf_X5_30 rfl rfl ?_
  refine ww_iload_n K dX5_init_88 rfl ?_
  refine ww_newA (rc := 5) (rs := 604) (L2 := [cO 5 [eR ((w0.length + 1)), eI 0, eI 0, eI ((-1)), eR ((w0.length + 2)), eR ((w0.length + 3)), eR ((w0.length + 4))], cI 0 600 (fun _ => 0), cI 0 6 (fun _ => 0), cQ 2 2 (va_up (va_up (fun _ => none) 0 (some (w0.length + 5))) 1 (some (w0.length + 13))), cQ 3 10 (va_up (va_up (va_up (va_up (va_up (va_up (va_up (fun _ => none) 0 (some (w0.length + 21))) 1 (some (w0.length + 23))) 2 (some (w0.length + 25))) 3 (some (w0.length + 27))) 4 (some (w0.length + 29))) 5 (some (w0.length + 31))) 6 (some (w0.length + 33))), cO 2 [eI 0, eR ((w0.length + 6)), eR ((w0.length + 7)), eR ((w0.length + 8)), eR ((w0.length + 9)), eR ((w0.length + 10)), eR ((w0.length + 11)), eR ((w0.length + 12)), eI 0, eI 0, eI 0, eI 0, eI 0, eI 0], cI 0 6 (fun _ => 0), cI 0 6 (fun _ => 0), cI 0 6 (fun _ => 0), cI 0 6 (fun _ => 0), cI 0 72 (fun _ => 0), cI 0 6 (fun _ => 0), cI 0 3 (fun _ => 0), cO 2 [eI 0, eR ((w0.length + 14)), eR ((w0.length + 15)), eR ((w0.length + 16)), eR ((w0.length + 17)), eR ((w0.length + 18)), eR ((w0.length + 19)), eR ((w0.length + 20)), eI 0, eI 0, eI 0, eI 0, eI 0, eI 0], cI 0 6 (fun _ => 0), cI 0 6 (fun _ => 0), cI 0 6 (fun _ => 0), cI 0 6 (fun _ => 0), cI 0 72 (fun _ => 0), cI 0 6 (fun _ => 0), cI 0 3 (fun _ => 0), cO 3 [eI 0, eR ((w0.length + 22))], cI 0 200 (fun _ => 0), cO 3 [eI 0, eR ((w0.length + 24))], cI 0 200 (fun _ => 0), cO 3 [eI 0, eR ((w0.length + 26))], cI 0 200 (fun _ => 0), cO 3 [eI 0, eR ((w0.length + 28))], cI 0 200 (fun _ => 0), cO 3 [eI 0, eR ((w0.length + 30))], cI 0 200 (fun _ => 0), cO 3 [eI 0, eR ((w0.length + 32))], cI 0 200 (fun _ => 0), cO 3 [eI 0, eR ((w0.length + 34))], cI 0 200 (fun _ => 0), cO 3 [eI 0, eN]]) K dX5_init_89 ln_X5_28 rfl rfl ?_
  refine ww_dup K dX5_init_92 trivial ?_
  refine WW_w (w2 := (w0 ++ [cO 5 [eR ((w0.length + 1)), eI 0, eI 0, eI ((-1)), eR ((w0.length + 2)), eR ((w0.length + 3)), eR ((w0.length + 4))], cI 0 600 (fun _ => 0), cI 0 6 (fun _ => 0), cQ 2 2 (va_up (va_up (fun _ => none) 0 (some (w0.length + 5))) 1 (some (w0.length + 13))), cQ 3 10 (va_up (va_up (va_up (va_up (va_up (va_up (va_up (fun _ => none) 0 (some (w0.length + 21))) 1 (some (w0.length + 23))) 2 (some (w0.length + 25))) 3 (some (w0.length + 27))) 4 (some (w0.length + 29))) 5 (some (w0.length + 31))) 6 (some (w0.length + 33))), cO 2 [eI 0, eR ((w0.length + 6)), eR ((w0.length + 7)), eR ((w0.length + 8)), eR ((w0.length + 9)), eR ((w0.length + 10)), eR ((w0.length + 11)), eR ((w0.length + 12)), eI 0, eI 0, eI 0, eI 0, eI 0, eI 0], cI 0 6 (fun _ => 0), cI 0 6 (fun _ => 0), cI 0 6 (fun _ => 0), cI 0 6 (fun _ => 0), cI 0 72 (fun _ => 0), cI 0 6 (fun _ => 0), cI 0 3 (fun _ => 0), cO 2 [eI 0, eR ((w0.length + 14)), eR ((w0.length + 15)), eR ((w0.length + 16)), eR ((w0.length + 17)), eR ((w0.length + 18)), eR ((w0.length + 19)), eR ((w0.length + 20)), eI 0, eI 0, eI 0, eI 0, eI 0, eI 0], cI 0 6 (fun _ => 0), cI 0 6 (fun _ => 0), cI 0 6 (fun _ => 0), cI 0 6 (fun _ => 0), cI 0 72 (fun _ => 0), cI 0 6 (fun _ => 0), cI 0 3 (fun _ => 0), cO 3 [eI 0, eR ((w0.length + 22))], cI 0 200 (fun _ => 0), cO 3 [eI 0, eR ((w0.length + 24))], cI 0 200 (fun _ => 0), cO 3 [eI 0, eR ((w0.length + 26))], cI 0 200 (fun _ => 0), cO 3 [eI 0, eR ((w0.length + 28))], cI 0 200 (fun _ => 0), cO 3 [eI 0, eR ((w0.length + 30))], cI 0 200 (fun _ => 0), cO 3 [eI 0, eR ((w0.length + 32))], cI 0 200 (fun _ => 0), cO 3 [eI 0, eR ((w0.length + 34))], cI 0 200 (fun _ => 0)]) ++ [cO 3 [eI 0, eN]]) ((wc_assoc w0 [cO 5 [eR ((w0.length + 1)), eI 0, eI 0, eI ((-1)), eR ((w0.length + 2)), eR ((w0.length + 3)), eR ((w0.length + 4))], cI 0 600 (fun _ => 0), cI 0 6 (fun _ => 0), cQ 2 2 (va_up (va_up (fun _ => none) 0 (some (w0.length + 5))) 1 (some (w0.length + 13))), cQ 3 10 (va_up (va_up (va_up (va_up (va_up (va_up (va_up (fun _ => none) 0 (some (w0.length + 21))) 1 (some (w0.length + 23))) 2 (some (w0.length + 25))) 3 (some (w0.length + 27))) 4 (some (w0.length + 29))) 5 (some (w0.length + 31))) 6 (some (w0.length + 33))), cO 2 [eI 0, eR ((w0.length + 6)), eR ((w0.length + 7)), eR ((w0.length + 8)), eR ((w0.length + 9)), eR ((w0.length + 10)), eR ((w0.length + 11)), eR ((w0.length + 12)), eI 0, eI 0, eI 0, eI 0, eI 0, eI 0], cI 0 6 (fun _ => 0), cI 0 6 (fun _ => 0), cI 0 6 (fun _ => 0), cI 0 6 (fun _ => 0), cI 0 72 (fun _ => 0), cI 0 6 (fun _ => 0), cI 0 3 (fun _ => 0), cO 2 [eI 0, eR ((w0.length + 14)), eR ((w0.length + 15)), eR ((w0.length + 16)), eR ((w0.length + 17)), eR ((w0.length + 18)), eR ((w0.length + 19)), eR ((w0.length + 20)), eI 0, eI 0, eI 0, eI 0, eI 0, eI 0], cI 0 6 (fun _ => 0), cI 0 6 (fun _ => 0), cI 0 6 (fun _ => 0), cI 0 6 (fun _ => 0), cI 0 72 (fun _ => 0), cI 0 6 (fun _ => 0), cI 0 3 (fun _ => 0), cO 3 [eI 0, eR ((w0.length + 22))], cI 0 200 (fun _ => 0), cO 3 [eI 0, eR ((w0.length + 24))], cI 0 200 (fun _ => 0), cO 3 [eI 0, eR ((w0.length + 26))], cI 0 200 (fun _ => 0), cO 3 [eI 0, eR ((w0.length + 28))], cI 0 200 (fun _ => 0), cO 3 [eI 0, eR ((w0.length + 30))], cI 0 200 (fun _ => 0), cO 3 [eI 0, eR ((w0.length + 32))], cI 0 200 (fun _ => 0), cO 3 [eI 0, eR ((w0.length + 34))], cI 0 200 (fun _ => 0)] [cO 3 [eI 0, eN]]).symm) ?_
  refine ww_callIN (rc := 4) (rs := 404) K dX5_init_93 lc_X5_35 (ct_X3_init G l (w0 := w0 ++ [cO 5 [eR ((w0.length + 1)), eI 0, eI 0, eI ((-1)), eR ((w0.length + 2)), eR ((w0.length + 3)), eR ((w0.length + 4))], cI 0 600 (fun _ => 0), cI 0 6 (fun _ => 0), cQ 2 2 (va_up (va_up (fun _ => none) 0 (some (w0.length + 5))) 1 (some (w0.length + 13))), cQ 3 10 (va_up (va_up (va_up (va_up (va_up (va_up (va_up (fun _ => none) 0 (some (w0.length + 21))) 1 (some (w0.length + 23))) 2 (some (w0.length + 25))) 3 (some (w0.length + 27))) 4 (some (w0.length + 29))) 5 (some (w0.length + 31))) 6 (some (w0.length + 33))), cO 2 [eI 0, eR ((w0.length + 6)), eR ((w0.length + 7)), eR ((w0.length + 8)), eR ((w0.length + 9)), eR ((w0.length + 10)), eR ((w0.length + 11)), eR ((w0.length + 12)), eI 0, eI 0, eI 0, eI 0, eI 0, eI 0], cI 0 6 (fun _ => 0), cI 0 6 (fun _ => 0), cI 0 6 (fun _ => 0), cI 0 6 (fun _ => 0), cI 0 72 (fun _ => 0), cI 0 6 (fun _ => 0), cI 0 3 (fun _ => 0), cO 2 [eI 0, eR ((w0.length + 14)), eR ((w0.length + 15)), eR ((w0.length + 16)), eR ((w0.length + 17)), eR ((w0.length + 18)), eR ((w0.length + 19)), eR ((w0.length + 20)), eI 0, eI 0, eI 0, eI 0, eI 0, eI 0], cI 0 6 (fun _ => 0), cI 0 6 (fun _ => 0), cI 0 6 (fun _ => 0), cI 0 6 (fun _ => 0), cI 0 72 (fun _ => 0), cI 0 6 (fun _ => 0), cI 0 3 (fun _ => 0), cO 3 [eI 0, eR ((w0.length + 22))], cI 0 200 (fun _ => 0), cO 3 [eI 0, eR ((w0.length + 24))], cI 0 200 (fun _ => 0), cO 3 [eI 0, eR ((w0.length + 26))], cI 0 200 (fun _ => 0), cO 3 [eI 0, eR ((w0.length + 28))], cI 0 200 (fun _ => 0), cO 3 [eI 0, eR ((w0.length + 30))], cI 0 200 (fun _ => 0), cO 3 [eI 0, eR ((w0.length + 32))], cI 0 200 (fun _ => 0), cO 3 [eI 0, eR ((w0.length + 34))], cI 0 200 (fun _ => 0)]) (n := w0.length + 35) (List.length_append)) rfl ⟨Nat.le_of_ble_eq_true rfl, Nat.le_of_ble_eq_true rfl⟩ (Nat.le_of_ble_eq_true rfl) (fun r w2 hq _ _ => ?_)
  obtain ⟨rfl, rfl⟩ := hq
  refine WW_w (w2 := w0 ++ [cO 5 [eR ((w0.length + 1)), eI 0, eI 0, eI ((-1)), eR ((w0.length + 2)), eR ((w0.length + 3)), eR ((w0.length + 4))], cI 0 600 (fun _ => 0), cI 0 6 (fun _ => 0), cQ 2 2 (va_up (va_up (fun _ => none) 0 (some (w0.length + 5))) 1 (some (w0.length + 13))), cQ 3 10 (va_up (va_up (va_up (va_up (va_up (va_up (va_up (fun _ => none) 0 (some (w0.length + 21))) 1 (some (w0.length + 23))) 2 (some (w0.length + 25))) 3 (some (w0.length + 27))) 4 (some (w0.length + 29))) 5 (some (w0.length + 31))) 6 (some (w0.length + 33))), cO 2 [eI 0, eR ((w0.length + 6)), eR ((w0.length + 7)), eR ((w0.length + 8)), eR ((w0.length + 9)), eR ((w0.length + 10)), eR ((w0.length + 11)), eR ((w0.length + 12)), eI 0, eI 0, eI 0, eI 0, eI 0, eI 0], cI 0 6 (fun _ => 0), cI 0 6 (fun _ => 0), cI 0 6 (fun _ => 0), cI 0 6 (fun _ => 0), cI 0 72 (fun _ => 0), cI 0 6 (fun _ => 0), cI 0 3 (fun _ => 0), cO 2 [eI 0, eR ((w0.length + 14)), eR ((w0.length + 15)), eR ((w0.length + 16)), eR ((w0.length + 17)), eR ((w0.length + 18)), eR ((w0.length + 19)), eR ((w0.length + 20)), eI 0, eI 0, eI 0, eI 0, eI 0, eI 0], cI 0 6 (fun _ => 0), cI 0 6 (fun _ => 0), cI 0 6 (fun _ => 0), cI 0 6 (fun _ => 0), cI 0 72 (fun _ => 0), cI 0 6 (fun _ => 0), cI 0 3 (fun _ => 0), cO 3 [eI 0, eR ((w0.length + 22))], cI 0 200 (fun _ => 0), cO 3 [eI 0, eR ((w0.length + 24))], cI 0 200 (fun _ => 0), cO 3 [eI 0, eR ((w0.length + 26))], cI 0 200 (fun _ => 0), cO 3 [eI 0, eR ((w0.length + 28))], cI 0 200 (fun _ => 0), cO 3 [eI 0, eR ((w0.length + 30))], cI 0 200 (fun _ => 0), cO 3 [eI 0, eR ((w0.length + 32))], cI 0 200 (fun _ => 0), cO 3 [eI 0, eR ((w0.length + 34))], cI 0 200 (fun _ => 0), cO 3 [eI 0, eR ((w0.length + 36))], cI 0 200 (fun _ => 0)]) (wc_assoc w0 [cO 5 [eR ((w0.length + 1)), eI 0, eI 0, eI ((-1)), eR ((w0.length + 2)), eR ((w0.length + 3)), eR ((w0.length + 4))], cI 0 600 (fun _ => 0), cI 0 6 (fun _ => 0), cQ 2 2 (va_up (va_up (fun _ => none) 0 (some (w0.length + 5))) 1 (some (w0.length + 13))), cQ 3 10 (va_up (va_up (va_up (va_up (va_up (va_up (va_up (fun _ => none) 0 (some (w0.length + 21))) 1 (some (w0.length + 23))) 2 (some (w0.length + 25))) 3 (some (w0.length + 27))) 4 (some (w0.length + 29))) 5 (some (w0.length + 31))) 6 (some (w0.length + 33))), cO 2 [eI 0, eR ((w0.length + 6)), eR ((w0.length + 7)), eR ((w0.length + 8)), eR ((w0.length + 9)), eR ((w0.length + 10)), eR ((w0.length + 11)), eR ((w0.length + 12)), eI 0, eI 0, eI 0, eI 0, eI 0, eI 0], cI 0 6 (fun _ => 0), cI 0 6 (fun _ => 0), cI 0 6 (fun _ => 0), cI 0 6 (fun _ => 0), cI 0 72 (fun _ => 0), cI 0 6 (fun _ => 0), cI 0 3 (fun _ => 0), cO 2 [eI 0, eR ((w0.length + 14)), eR ((w0.length + 15)), eR ((w0.length + 16)), eR ((w0.length + 17)), eR ((w0.length + 18)), eR ((w0.length + 19)), eR ((w0.length + 20)), eI 0, eI 0, eI 0, eI 0, eI 0, eI 0], cI 0 6 (fun _ => 0), cI 0 6 (fun _ => 0), cI 0 6 (fun _ => 0), cI 0 6 (fun _ => 0), cI 0 72 (fun _ => 0), cI 0 6 (fun _ => 0), cI 0 3 (fun _ => 0), cO 3 [eI 0, eR ((w0.length + 22))], cI 0 200 (fun _ => 0), cO 3 [eI 0, eR ((w0.length + 24))], cI 0 200 (fun _ => 0), cO 3 [eI 0, eR ((w0.length + 26))], cI 0 200 (fun _ => 0), cO 3 [eI 0, eR ((w0.length + 28))], cI 0 200 (fun _ => 0), cO 3 [eI 0, eR ((w0.length + 30))], cI 0 200 (fun _ => 0), cO 3 [eI 0, eR ((w0.length + 32))], cI 0 200 (fun _ => 0), cO 3 [eI 0, eR ((w0.length + 34))], cI 0 200 (fun _ => 0)] [cO 3 [eI 0, eR ((w0.length + 36))], cI 0 200 (fun _ => 0)]) ?_
  refine ww_aast3A (L2 := [cO 5 [eR ((w0.length + 1)), eI 0, eI 0, eI ((-1)), eR ((w0.length + 2)), eR ((w0.length + 3)), eR ((w0.length + 4))], cI 0 600 (fun _ => 0), cI 0 6 (fun _ => 0), cQ 2 2 (va_up (va_up (fun _ => none) 0 (some (w0.length + 5))) 1 (some (w0.length + 13))), cQ 3 10 (va_up (va_up (va_up (va_up (va_up (va_up (va_up (va_up (fun _ => none) 0 (some (w0.length + 21))) 1 (some (w0.length + 23))) 2 (some (w0.length + 25))) 3 (some (w0.length + 27))) 4 (some (w0.length + 29))) 5 (some (w0.length + 31))) 6 (some (w0.length + 33))) 7 (some (w0.length + 35))), cO 2 [eI 0, eR ((w0.length + 6)), eR ((w0.length + 7)), eR ((w0.length + 8)), eR ((w0.length + 9)), eR ((w0.length + 10)), eR ((w0.length + 11)), eR ((w0.length + 12)), eI 0, eI 0, eI 0, eI 0, eI 0, eI 0], cI 0 6 (fun _ => 0), cI 0 6 (fun _ => 0), cI 0 6 (fun _ => 0), cI 0 6 (fun _ => 0), cI 0 72 (fun _ => 0), cI 0 6 (fun _ => 0), cI 0 3 (fun _ => 0), cO 2 [eI 0, eR ((w0.length + 14)), eR ((w0.length + 15)), eR ((w0.length + 16)), eR ((w0.length + 17)), eR ((w0.length + 18)), eR ((w0.length + 19)), eR ((w0.length + 20)), eI 0, eI 0, eI 0, eI 0, eI 0, eI 0], cI 0 6 (fun _ => 0), cI 0 6 (fun _ => 0), cI 0 6 (fun _ => 0), cI 0 6 (fun _ => 0), cI 0 72 (fun _ => 0), cI 0 6 (fun _ => 0), cI 0 3 (fun _ => 0), cO 3 [eI 0, eR ((w0.length + 22))], cI 0 200 (fun _ => 0), cO 3 [eI 0, eR ((w0.length + 24))], cI 0 200 (fun _ => 0), cO 3 [eI 0, eR ((w0.length + 26))], cI 0 200 (fun _ => 0), cO 3 [eI 0, eR ((w0.length + 28))], cI 0 200 (fun _ => 0), cO 3 [eI 0, eR ((w0.length + 30))], cI 0 200 (fun _ => 0), cO 3 [eI 0, eR ((w0.length + 32))], cI 0 200 (fun _ => 0), cO 3 [eI 0, eR ((w0.length + 34))], cI 0 200 (fun _ => 0), cO 3 [eI 0, eR ((w0.length + 36))], cI 0 200 (fun _ => 0)]) K dX5_init_96 rfl rfl (wc_vin (by decide)) rfl ?_
  refine ww_iinc (ls2 := [some (eR ((w0.length + 0))), some (eI (8))]) K dX5_init_97 (by decide) rfl rfl ?_
  refine ww_goto (tgt := 75) K dX5_init_100 rfl ?_
  refine ww_iload_n K dX5_init_75 rfl ?_
  refine ww_aload_n K dX5_init_76 rfl ?_
  refine ww_getA K dX5_init_77 lf_X5_30 rfl rfl ?_
  refine ww_alenq3A K dX5_init_80 rfl ?_
  rw [show Int32.ofNat 10 = 10 from rfl]
  refine ww_icmp_ge (tgt := 103) K dX5_init_81 rfl (fun cc_ => absurd cc_ (by decide)) (fun _ => ?_)
  refine ww_aload_n K dX5_init_84 rfl ?_
  refine ww_getA K dX5_init_85 lf_X5_30 rfl rfl ?_
  refine ww_iload_n K dX5_init_88 rfl ?_
  refine ww_newA (rc := 3) (rs := 402) (L2 := [cO 5 [eR ((w0.length + 1)), eI 0, eI 0, eI ((-1)), eR ((w0.length + 2)), eR ((w0.length + 3)), eR ((w0.length + 4))], cI 0 600 (fun _ => 0), cI 0 6 (fun _ => 0), cQ 2 2 (va_up (va_up (fun _ => none) 0 (some (w0.length + 5))) 1 (some (w0.length + 13))), cQ 3 10 (va_up (va_up (va_up (va_up (va_up (va_up (va_up (va_up (fun _ => none) 0 (some (w0.length + 21))) 1 (some (w0.length + 23))) 2 (some (w0.length + 25))) 3 (some (w0.length + 27))) 4 (some (w0.length + 29))) 5 (some (w0.length + 31))) 6 (some (w0.length + 33))) 7 (some (w0.length + 35))), cO 2 [eI 0, eR ((w0.length + 6)), eR ((w0.length + 7)), eR ((w0.length + 8)), eR ((w0.length + 9)), eR ((w0.length + 10)), eR ((w0.length + 11)), eR ((w0.length + 12)), eI 0, eI 0, eI 0, eI 0, eI 0, eI 0], cI 0 6 (fun _ => 0), cI 0 6 (fun _ => 0), cI 0 6 (fun _ => 0), cI 0 6 (fun _ => 0), cI 0 72 (fun _ => 0), cI 0 6 (fun _ => 0), cI 0 3 (fun _ => 0), cO 2 [eI 0, eR ((w0.length + 14)), eR ((w0.length + 15)), eR ((w0.length + 16)), eR ((w0.length + 17)), eR ((w0.length + 18)), eR ((w0.length + 19)), eR ((w0.length + 20)), eI 0, eI 0, eI 0, eI 0, eI 0, eI 0], cI 0 6 (fun _ => 0), cI 0 6 (fun _ => 0), cI 0 6 (fun _ => 0), cI 0 6 (fun _ => 0), cI 0 72 (fun _ => 0), cI 0 6 (fun _ => 0), cI 0 3 (fun _ => 0), cO 3 [eI 0, eR ((w0.length + 22))], cI 0 200 (fun _ => 0), cO 3 [eI 0, eR ((w0.length + 24))], cI 0 200 (fun _ => 0), cO 3 [eI 0, eR ((w0.length + 26))], cI 0 200 (fun _ => 0), cO 3 [eI 0, eR ((w0.length + 28))], cI 0 200 (fun _ => 0), cO 3 [eI 0, eR ((w0.length + 30))], cI 0 200 (fun _ => 0), cO 3 [eI 0, eR ((w0.length + 32))], cI 0 200 (fun _ => 0), cO 3 [eI 0, eR ((w0.length + 34))], cI 0 200 (fun _ => 0), cO 3 [eI 0, eR ((w0.length + 36))], cI 0 200 (fun _ => 0), cO 3 [eI 0, eN]]) K dX5_init_89 ln_X5_28 rfl rfl ?_
  refine ww_dup K dX5_init_92 trivial ?_
  refine WW_w (w2 := (w0 ++ [cO 5 [eR ((w0.length + 1)), eI 0, eI 0, eI ((-1)), eR ((w0.length + 2)), eR ((w0.length + 3)), eR ((w0.length + 4))], cI 0 600 (fun _ => 0), cI 0 6 (fun _ => 0), cQ 2 2 (va_up (va_up (fun _ => none) 0 (some (w0.length + 5))) 1 (some (w0.length + 13))), cQ 3 10 (va_up (va_up (va_up (va_up (va_up (va_up (va_up (va_up (fun _ => none) 0 (some (w0.length + 21))) 1 (some (w0.length + 23))) 2 (some (w0.length + 25))) 3 (some (w0.length + 27))) 4 (some (w0.length + 29))) 5 (some (w0.length + 31))) 6 (some (w0.length + 33))) 7 (some (w0.length + 35))), cO 2 [eI 0, eR ((w0.length + 6)), eR ((w0.length + 7)), eR ((w0.length + 8)), eR ((w0.length + 9)), eR ((w0.length + 10)), eR ((w0.length + 11)), eR ((w0.length + 12)), eI 0, eI 0, eI 0, eI 0, eI 0, eI 0], cI 0 6 (fun _ => 0), cI 0 6 (fun _ => 0), cI 0 6 (fun _ => 0), cI 0 6 (fun _ => 0), cI 0 72 (fun _ => 0), cI 0 6 (fun _ => 0), cI 0 3 (fun _ => 0), cO 2 [eI 0, eR ((w0.length + 14)), eR ((w0.length + 15)), eR ((w0.length + 16)), eR ((w0.length + 17)), eR ((w0.length + 18)), eR ((w0.length + 19)), eR ((w0.length + 20)), eI 0, eI 0, eI 0, eI 0, eI 0, eI 0], cI 0 6 (fun _ => 0), cI 0 6 (fun _ => 0), cI 0 6 (fun _ => 0), cI 0 6 (fun _ => 0), cI 0 72 (fun _ => 0), cI 0 6 (fun _ => 0), cI 0 3 (fun _ => 0), cO 3 [eI 0, eR ((w0.length + 22))], cI 0 200 (fun _ => 0), cO 3 [eI 0, eR ((w0.length + 24))], cI 0 200 (fun _ => 0), cO 3 [eI 0, eR ((w0.length + 26))], cI 0 200 (fun _ => 0), cO 3 [eI 0, eR ((w0.length + 28))], cI 0 200 (fun _ => 0), cO 3 [eI 0, eR ((w0.length + 30))], cI 0 200 (fun _ => 0), cO 3 [eI 0, eR ((w0.length + 32))], cI 0 200 (fun _ => 0), cO 3 [eI 0, eR ((w0.length + 34))], cI 0 200 (fun _ => 0), cO 3 [eI 0, eR ((w0.length + 36))], cI 0 200 (fun _ => 0)]) ++ [cO 3 [eI 0, eN]]) ((wc_assoc w0 [cO 5 [eR ((w0.length + 1)), eI 0, eI 0, eI ((-1)), eR ((w0.length + 2)), eR ((w0.length + 3)), eR ((w0.length + 4))], cI 0 600 (fun _ => 0), cI 0 6 (fun _ => 0), cQ 2 2 (va_up (va_up (fun _ => none) 0 (some (w0.length + 5))) 1 (some (w0.length + 13))), cQ 3 10 (va_up (va_up (va_up (va_up (va_up (va_up (va_up (va_up (fun _ => none) 0 (some (w0.length + 21))) 1 (some (w0.length + 23))) 2 (some (w0.length + 25))) 3 (some (w0.length + 27))) 4 (some (w0.length + 29))) 5 (some (w0.length + 31))) 6 (some (w0.length + 33))) 7 (some (w0.length + 35))), cO 2 [eI 0, eR ((w0.length + 6)), eR ((w0.length + 7)), eR ((w0.length + 8)), eR ((w0.length + 9)), eR ((w0.length + 10)), eR ((w0.length + 11)), eR ((w0.length + 12)), eI 0, eI 0, eI 0, eI 0, eI 0, eI 0], cI 0 6 (fun _ => 0), cI 0 6 (fun _ => 0), cI 0 6 (fun _ => 0), cI 0 6 (fun _ => 0), cI 0 72 (fun _ => 0), cI 0 6 (fun _ => 0), cI 0 3 (fun _ => 0), cO 2 [eI 0, eR ((w0.length + 14)), eR ((w0.length + 15)), eR ((w0.length + 16)), eR ((w0.length + 17)), eR ((w0.length + 18)), eR ((w0.length + 19)), eR ((w0.length + 20)), eI 0, eI 0, eI 0, eI 0, eI 0, eI 0], cI 0 6 (fun _ => 0), cI 0 6 (fun _ => 0), cI 0 6 (fun _ => 0), cI 0 6 (fun _ => 0), cI 0 72 (fun _ => 0), cI 0 6 (fun _ => 0), cI 0 3 (fun _ => 0), cO 3 [eI 0, eR ((w0.length + 22))], cI 0 200 (fun _ => 0), cO 3 [eI 0, eR ((w0.length + 24))], cI 0 200 (fun _ => 0), cO 3 [eI 0, eR ((w0.length + 26))], cI 0 200 (fun _ => 0), cO 3 [eI 0, eR ((w0.length + 28))], cI 0 200 (fun _ => 0), cO 3 [eI 0, eR ((w0.length + 30))], cI 0 200 (fun _ => 0), cO 3 [eI 0, eR ((w0.length + 32))], cI 0 200 (fun _ => 0), cO 3 [eI 0, eR ((w0.length + 34))], cI 0 200 (fun _ => 0), cO 3 [eI 0, eR ((w0.length + 36))], cI 0 200 (fun _ => 0)] [cO 3 [eI 0, eN]]).symm) ?_
  refine ww_callIN (rc := 2) (rs := 202) K dX5_init_93 lc_X5_35 (ct_X3_init G l (w0 := w0 ++ [cO 5 [eR ((w0.length + 1)), eI 0, eI 0, eI ((-1)), eR ((w0.length + 2)), eR ((w0.length + 3)), eR ((w0.length + 4))], cI 0 600 (fun _ => 0), cI 0 6 (fun _ => 0), cQ 2 2 (va_up (va_up (fun _ => none) 0 (some (w0.length + 5))) 1 (some (w0.length + 13))), cQ 3 10 (va_up (va_up (va_up (va_up (va_up (va_up (va_up (va_up (fun _ => none) 0 (some (w0.length + 21))) 1 (some (w0.length + 23))) 2 (some (w0.length + 25))) 3 (some (w0.length + 27))) 4 (some (w0.length + 29))) 5 (some (w0.length + 31))) 6 (some (w0.length + 33))) 7 (some (w0.length + 35))), cO 2 [eI 0, eR ((w0.length + 6)), eR ((w0.length + 7)), eR ((w0.length + 8)), eR ((w0.length + 9)), eR ((w0.length + 10)), eR ((w0.length + 11)), eR ((w0.length + 12)), eI 0, eI 0, eI 0, eI 0, eI 0, eI 0], cI 0 6 (fun _ => 0), cI 0 6 (fun _ => 0), cI 0 6 (fun _ => 0), cI 0 6 (fun _ => 0), cI 0 72 (fun _ => 0), cI 0 6 (fun _ => 0), cI 0 3 (fun _ => 0), cO 2 [eI 0, eR ((w0.length + 14)), eR ((w0.length + 15)), eR ((w0.length + 16)), eR ((w0.length + 17)), eR ((w0.length + 18)), eR ((w0.length + 19)), eR ((w0.length + 20)), eI 0, eI 0, eI 0, eI 0, eI 0, eI 0], cI 0 6 (fun _ => 0), cI 0 6 (fun _ => 0), cI 0 6 (fun _ => 0), cI 0 6 (fun _ => 0), cI 0 72 (fun _ => 0), cI 0 6 (fun _ => 0), cI 0 3 (fun _ => 0), cO 3 [eI 0, eR ((w0.length + 22))], cI 0 200 (fun _ => 0), cO 3 [eI 0, eR ((w0.length + 24))], cI 0 200 (fun _ => 0), cO 3 [eI 0, eR ((w0.length + 26))], cI 0 200 (fun _ => 0), cO 3 [eI 0, eR ((w0.length + 28))], cI 0 200 (fun _ => 0), cO 3 [eI 0, eR ((w0.length + 30))], cI 0 200 (fun _ => 0), cO 3 [eI 0, eR ((w0.length + 32))], cI 0 200 (fun _ => 0), cO 3 [eI 0, eR ((w0.length + 34))], cI 0 200 (fun _ => 0), cO 3 [eI 0, eR ((w0.length + 36))], cI 0 200 (fun _ => 0)]) (n := w0.length + 37) (List.length_append)) rfl ⟨Nat.le_of_ble_eq_true rfl, Nat.le_of_ble_eq_true rfl⟩ (Nat.le_of_ble_eq_true rfl) (fun r w2 hq _ _ => ?_)
  obtain ⟨rfl, rfl⟩ := hq
  refine WW_w (w2 := w0 ++ [cO 5 [eR ((w0.length + 1)), eI 0, eI 0, eI ((-1)), eR ((w0.length + 2)), eR ((w0.length + 3)), eR ((w0.length + 4))], cI 0 600 (fun _ => 0), cI 0 6 (fun _ => 0), cQ 2 2 (va_up (va_up (fun _ => none) 0 (some (w0.length + 5))) 1 (some (w0.length + 13))), cQ 3 10 (va_up (va_up (va_up (va_up (va_up (va_up (va_up (va_up (fun _ => none) 0 (some (w0.length + 21))) 1 (some (w0.length + 23))) 2 (some (w0.length + 25))) 3 (some (w0.length + 27))) 4 (some (w0.length + 29))) 5 (some (w0.length + 31))) 6 (some (w0.length + 33))) 7 (some (w0.length + 35))), cO 2 [eI 0, eR ((w0.length + 6)), eR ((w0.length + 7)), eR ((w0.length + 8)), eR ((w0.length + 9)), eR ((w0.length + 10)), eR ((w0.length + 11)), eR ((w0.length + 12)), eI 0, eI 0, eI 0, eI 0, eI 0, eI 0], cI 0 6 (fun _ => 0), cI 0 6 (fun _ => 0), cI 0 6 (fun _ => 0), cI 0 6 (fun _ => 0), cI 0 72 (fun _ => 0), cI 0 6 (fun _ => 0), cI 0 3 (fun _ => 0), cO 2 [eI 0, eR ((w0.length + 14)), eR ((w0.length + 15)), eR ((w0.length + 16)), eR ((w0.length + 17)), eR ((w0.length + 18)), eR ((w0.length + 19)), eR ((w0.length + 20)), eI 0, eI 0, eI 0, eI 0, eI 0, eI 0], cI 0 6 (fun _ => 0), cI 0 6 (fun _ => 0), cI 0 6 (fun _ => 0), cI 0 6 (fun _ => 0), cI 0 72 (fun _ => 0), cI 0 6 (fun _ => 0), cI 0 3 (fun _ => 0), cO 3 [eI 0, eR ((w0.length + 22))], cI 0 200 (fun _ => 0), cO 3 [eI 0, eR ((w0.length + 24))], cI 0 200 (fun _ => 0), cO 3 [eI 0, eR ((w0.length + 26))], cI 0 200 (fun _ => 0), cO 3 [eI 0, eR ((w0.length + 28))], cI 0 200 (fun _ => 0), cO 3 [eI 0, eR ((w0.length + 30))], cI 0 200 (fun _ => 0), cO 3 [eI 0, eR ((w0.length + 32))], cI 0 200 (fun _ => 0), cO 3 [eI 0, eR ((w0.length + 34))], cI 0 200 (fun _ => 0), cO 3 [eI 0, eR ((w0.length + 36))], cI 0 200 (fun _ => 0), cO 3 [eI 0, eR ((w0.length + 38))], cI 0 200 (fun _ => 0)]) (wc_assoc w0 [cO 5 [eR ((w0.length + 1)), eI 0, eI 0, eI ((-1)), eR ((w0.length + 2)), eR ((w0.length + 3)), eR ((w0.length + 4))], cI 0 600 (fun _ => 0), cI 0 6 (fun _ => 0), cQ 2 2 (va_up (va_up (fun _ => none) 0 (some (w0.length + 5))) 1 (some (w0.length + 13))), cQ 3 10 (va_up (va_up (va_up (va_up (va_up (va_up (va_up (va_up (fun _ => none) 0 (some (w0.length + 21))) 1 (some (w0.length + 23))) 2 (some (w0.length + 25))) 3 (some (w0.length + 27))) 4 (some (w0.length + 29))) 5 (some (w0.length + 31))) 6 (some (w0.length + 33))) 7 (some (w0.length + 35))), cO 2 [eI 0, eR ((w0.length + 6)), eR ((w0.length + 7)), eR ((w0.length + 8)), eR ((w0.length + 9)), eR ((w0.length + 10)), eR ((w0.length + 11)), eR ((w0.length + 12)), eI 0, eI 0, eI 0, eI 0, eI 0, eI 0], cI 0 6 (fun _ => 0), cI 0 6 (fun _ => 0), cI 0 6 (fun _ => 0), cI 0 6 (fun _ => 0), cI 0 72 (fun _ => 0), cI 0 6 (fun _ => 0), cI 0 3 (fun _ => 0), cO 2 [eI 0, eR ((w0.length + 14)), eR ((w0.length + 15)), eR ((w0.length + 16)), eR ((w0.length + 17)), eR ((w0.length + 18)), eR ((w0.length + 19)), eR ((w0.length + 20)), eI 0, eI 0, eI 0, eI 0, eI 0, eI 0], cI 0 6 (fun _ => 0), cI 0 6 (fun _ => 0), cI 0 6 (fun _ => 0), cI 0 6 (fun _ => 0), cI 0 72 (fun _ => 0), cI 0 6 (fun _ => 0), cI 0 3 (fun _ => 0), cO 3 [eI 0, eR ((w0.length + 22))], cI 0 200 (fun _ => 0), cO 3 [eI 0, eR ((w0.length + 24))], cI 0 200 (fun _ => 0), cO 3 [eI 0, eR ((w0.length + 26))], cI 0 200 (fun _ => 0), cO 3 [eI 0, eR ((w0.length + 28))], cI 0 200 (fun _ => 0), cO 3 [eI 0, eR ((w0.length + 30))], cI 0 200 (fun _ => 0), cO 3 [eI 0, eR ((w0.length + 32))], cI 0 200 (fun _ => 0), cO 3 [eI 0, eR ((w0.length + 34))], cI 0 200 (fun _ => 0), cO 3 [eI 0, eR ((w0.length + 36))], cI 0 200 (fun _ => 0)] [cO 3 [eI 0, eR ((w0.length + 38))], cI 0 200 (fun _ => 0)]) ?_
  refine ww_aast3A (L2 := [cO 5 [eR ((w0.length + 1)), eI 0, eI 0, eI ((-1)), eR ((w0.length + 2)), eR ((w0.length + 3)), eR ((w0.length + 4))], cI 0 600 (fun _ => 0), cI 0 6 (fun _ => 0), cQ 2 2 (va_up (va_up (fun _ => none) 0 (some (w0.length + 5))) 1 (some (w0.length + 13))), cQ 3 10 (va_up (va_up (va_up (va_up (va_up (va_up (va_up (va_up (va_up (fun _ => none) 0 (some (w0.length + 21))) 1 (some (w0.length + 23))) 2 (some (w0.length + 25))) 3 (some (w0.length + 27))) 4 (some (w0.length + 29))) 5 (some (w0.length + 31))) 6 (some (w0.length + 33))) 7 (some (w0.length + 35))) 8 (some (w0.length + 37))), cO 2 [eI 0, eR ((w0.length + 6)), eR ((w0.length + 7)), eR ((w0.length + 8)), eR ((w0.length + 9)), eR ((w0.length + 10)), eR ((w0.length + 11)), eR ((w0.length + 12)), eI 0, eI 0, eI 0, eI 0, eI 0, eI 0], cI 0 6 (fun _ => 0), cI 0 6 (fun _ => 0), cI 0 6 (fun _ => 0), cI 0 6 (fun _ => 0), cI 0 72 (fun _ => 0), cI 0 6 (fun _ => 0), cI 0 3 (fun _ => 0), cO 2 [eI 0, eR ((w0.length + 14)), eR ((w0.length + 15)), eR ((w0.length + 16)), eR ((w0.length + 17)), eR ((w0.length + 18)), eR ((w0.length + 19)), eR ((w0.length + 20)), eI 0, eI 0, eI 0, eI 0, eI 0, eI 0], cI 0 6 (fun _ => 0), cI 0 6 (fun _ => 0), cI 0 6 (fun _ => 0), cI 0 6 (fun _ => 0), cI 0 72 (fun _ => 0), cI 0 6 (fun _ => 0), cI 0 3 (fun _ => 0), cO 3 [eI 0, eR ((w0.length + 22))], cI 0 200 (fun _ => 0), cO 3 [eI 0, eR ((w0.length + 24))], cI 0 200 (fun _ => 0), cO 3 [eI 0, eR ((w0.length + 26))], cI 0 200 (fun _ => 0), cO 3 [eI 0, eR ((w0.length + 28))], cI 0 200 (fun _ => 0), cO 3 [eI 0, eR ((w0.length + 30))], cI 0 200 (fun _ => 0), cO 3 [eI 0, eR ((w0.length + 32))], cI 0 200 (fun _ => 0), cO 3 [eI 0, eR ((w0.length + 34))], cI 0 200 (fun _ => 0), cO 3 [eI 0, eR ((w0.length + 36))], cI 0 200 (fun _ => 0), cO 3 [eI 0, eR ((w0.length + 38))], cI 0 200 (fun _ => 0)]) K dX5_init_96 rfl rfl (wc_vin (by decide)) rfl ?_
  refine ww_iinc (ls2 := [some (eR ((w0.length + 0))), some (eI (9))]) K dX5_init_97 (by decide) rfl rfl ?_
  refine ww_goto (tgt := 75) K dX5_init_100 rfl ?_
  refine ww_iload_n K dX5_init_75 rfl ?_
  refine ww_aload_n K dX5_init_76 rfl ?_
  refine ww_getA K dX5_init_77 lf_X5_30 rfl rfl ?_
  refine ww_alenq3A K dX5_init_80 rfl ?_
  rw [show Int32.ofNat 10 = 10 from rfl]
  refine ww_icmp_ge (tgt := 103) K dX5_init_81 rfl (fun cc_ => absurd cc_ (by decide)) (fun _ => ?_)
  refine ww_aload_n K dX5_init_84 rfl ?_
  refine ww_getA K dX5_init_85 lf_X5_30 rfl rfl ?_
  refine ww_iload_n K dX5_init_88 rfl ?_
  refine ww_newA (rc := 1) (rs := 200) (L2 := [cO 5 [eR ((w0.length + 1)), eI 0, eI 0, eI ((-1)), eR ((w0.length + 2)), eR ((w0.length + 3)), eR ((w0.length + 4))], cI 0 600 (fun _ => 0), cI 0 6 (fun _ => 0), cQ 2 2 (va_up (va_up (fun _ => none) 0 (some (w0.length + 5))) 1 (some (w0.length + 13))), cQ 3 10 (va_up (va_up (va_up (va_up (va_up (va_up (va_up (va_up (va_up (fun _ => none) 0 (some (w0.length + 21))) 1 (some (w0.length + 23))) 2 (some (w0.length + 25))) 3 (some (w0.length + 27))) 4 (some (w0.length + 29))) 5 (some (w0.length + 31))) 6 (some (w0.length + 33))) 7 (some (w0.length + 35))) 8 (some (w0.length + 37))), cO 2 [eI 0, eR ((w0.length + 6)), eR ((w0.length + 7)), eR ((w0.length + 8)), eR ((w0.length + 9)), eR ((w0.length + 10)), eR ((w0.length + 11)), eR ((w0.length + 12)), eI 0, eI 0, eI 0, eI 0, eI 0, eI 0], cI 0 6 (fun _ => 0), cI 0 6 (fun _ => 0), cI 0 6 (fun _ => 0), cI 0 6 (fun _ => 0), cI 0 72 (fun _ => 0), cI 0 6 (fun _ => 0), cI 0 3 (fun _ => 0), cO 2 [eI 0, eR ((w0.length + 14)), eR ((w0.length + 15)), eR ((w0.length + 16)), eR ((w0.length + 17)), eR ((w0.length + 18)), eR ((w0.length + 19)), eR ((w0.length + 20)), eI 0, eI 0, eI 0, eI 0, eI 0, eI 0], cI 0 6 (fun _ => 0), cI 0 6 (fun _ => 0), cI 0 6 (fun _ => 0), cI 0 6 (fun _ => 0), cI 0 72 (fun _ => 0), cI 0 6 (fun _ => 0), cI 0 3 (fun _ => 0), cO 3 [eI 0, eR ((w0.length + 22))], cI 0 200 (fun _ => 0), cO 3 [eI 0, eR ((w0.length + 24))], cI 0 200 (fun _ => 0), cO 3 [eI 0, eR ((w0.length + 26))], cI 0 200 (fun _ => 0), cO 3 [eI 0, eR ((w0.length + 28))], cI 0 200 (fun _ => 0), cO 3 [eI 0, eR ((w0.length + 30))], cI 0 200 (fun _ => 0), cO 3 [eI 0, eR ((w0.length + 32))], cI 0 200 (fun _ => 0), cO 3 [eI 0, eR ((w0.length + 34))], cI 0 200 (fun _ => 0), cO 3 [eI 0, eR ((w0.length + 36))], cI 0 200 (fun _ => 0), cO 3 [eI 0, eR ((w0.length + 38))], cI 0 200 (fun _ => 0), cO 3 [eI 0, eN]]) K dX5_init_89 ln_X5_28 rfl rfl ?_
  refine ww_dup K dX5_init_92 trivial ?_
  refine WW_w (w2 := (w0 ++ [cO 5 [eR ((w0.length + 1)), eI 0, eI 0, eI ((-1)), eR ((w0.length + 2)), eR ((w0.length + 3)), eR ((w0.length + 4))], cI 0 600 (fun _ => 0), cI 0 6 (fun _ => 0), cQ 2 2 (va_up (va_up (fun _ => none) 0 (some (w0.length + 5))) 1 (some (w0.length + 13))), cQ 3 10 (va_up (va_up (va_up (va_up (va_up (va_up (va_up (va_up (va_up (fun _ => none) 0 (some (w0.length + 21))) 1 (some (w0.length + 23))) 2 (some (w0.length + 25))) 3 (some (w0.length + 27))) 4 (some (w0.length + 29))) 5 (some (w0.length + 31))) 6 (some (w0.length + 33))) 7 (some (w0.length + 35))) 8 (some (w0.length + 37))), cO 2 [eI 0, eR ((w0.length + 6)), eR ((w0.length + 7)), eR ((w0.length + 8)), eR ((w0.length + 9)), eR ((w0.length + 10)), eR ((w0.length + 11)), eR ((w0.length + 12)), eI 0, eI 0, eI 0, eI 0, eI 0, eI 0], cI 0 6 (fun _ => 0), cI 0 6 (fun _ => 0), cI 0 6 (fun _ => 0), cI 0 6 (fun _ => 0), cI 0 72 (fun _ => 0), cI 0 6 (fun _ => 0), cI 0 3 (fun _ => 0), cO 2 [eI 0, eR ((w0.length + 14)), eR ((w0.length + 15)), eR ((w0.length + 16)), eR ((w0.length + 17)), eR ((w0.length + 18)), eR ((w0.length + 19)), eR ((w0.length + 20)), eI 0, eI 0, eI 0, eI 0, eI 0, eI 0], cI 0 6 (fun _ => 0), cI 0 6 (fun _ => 0), cI 0 6 (fun _ => 0), cI 0 6 (fun _ => 0), cI 0 72 (fun _ => 0), cI 0 6 (fun _ => 0), cI 0 3 (fun _ => 0), cO 3 [eI 0, eR ((w0.length + 22))], cI 0 200 (fun _ => 0), cO 3 [eI 0, eR ((w0.length + 24))], cI 0 200 (fun _ => 0), cO 3 [eI 0, eR ((w0.length + 26))], cI 0 200 (fun _ => 0), cO 3 [eI 0, eR ((w0.length + 28))], cI 0 200 (fun _ => 0), cO 3 [eI 0, eR ((w0.length + 30))], cI 0 200 (fun _ => 0), cO 3 [eI 0, eR ((w0.length + 32))], cI 0 200 (fun _ => 0), cO 3 [eI 0, eR ((w0.length + 34))], cI 0 200 (fun _ => 0), cO 3 [eI 0, eR ((w0.length + 36))], cI 0 200 (fun _ => 0), cO 3 [eI 0, eR ((w0.length + 38))], cI 0 200 (fun _ => 0)]) ++ [cO 3 [eI 0, eN]]) ((wc_assoc w0 [cO 5 [eR ((w0.length + 1)), eI 0, eI 0, eI ((-1)), eR ((w0.length + 2)), eR ((w0.length + 3)), eR ((w0.length + 4))], cI 0 600 (fun _ => 0), cI 0 6 (fun _ => 0), cQ 2 2 (va_up (va_up (fun _ => none) 0 (some (w0.length + 5))) 1 (some (w0.length + 13))), cQ 3 10 (va_up (va_up (va_up (va_up (va_up (va_up (va_up (va_up (va_up (fun _ => none) 0 (some (w0.length + 21))) 1 (some (w0.length + 23))) 2 (some (w0.length + 25))) 3 (some (w0.length + 27))) 4 (some (w0.length + 29))) 5 (some (w0.length + 31))) 6 (some (w0.length + 33))) 7 (some (w0.length + 35))) 8 (some (w0.length + 37))), cO 2 [eI 0, eR ((w0.length + 6)), eR ((w0.length + 7)), eR ((w0.length + 8)), eR ((w0.length + 9)), eR ((w0.length + 10)), eR ((w0.length + 11)), eR ((w0.length + 12)), eI 0, eI 0, eI 0, eI 0, eI 0, eI 0], cI 0 6 (fun _ => 0), cI 0 6 (fun _ => 0), cI 0 6 (fun _ => 0), cI 0 6 (fun _ => 0), cI 0 72 (fun _ => 0), cI 0 6 (fun _ => 0), cI 0 3 (fun _ => 0), cO 2 [eI 0, eR ((w0.length + 14)), eR ((w0.length + 15)), eR ((w0.length + 16)), eR ((w0.length + 17)), eR ((w0.length + 18)), eR ((w0.length + 19)), eR ((w0.length + 20)), eI 0, eI 0, eI 0, eI 0, eI 0, eI 0], cI 0 6 (fun _ => 0), cI 0 6 (fun _ => 0), cI 0 6 (fun _ => 0), cI 0 6 (fun _ => 0), cI 0 72 (fun _ => 0), cI 0 6 (fun _ => 0), cI 0 3 (fun _ => 0), cO 3 [eI 0, eR ((w0.length + 22))], cI 0 200 (fun _ => 0), cO 3 [eI 0, eR ((w0.length + 24))], cI 0 200 (fun _ => 0), cO 3 [eI 0, eR ((w0.length + 26))], cI 0 200 (fun _ => 0), cO 3 [eI 0, eR ((w0.length + 28))], cI 0 200 (fun _ => 0), cO 3 [eI 0, eR ((w0.length + 30))], cI 0 200 (fun _ => 0), cO 3 [eI 0, eR ((w0.length + 32))], cI 0 200 (fun _ => 0), cO 3 [eI 0, eR ((w0.length + 34))], cI 0 200 (fun _ => 0), cO 3 [eI 0, eR ((w0.length + 36))], cI 0 200 (fun _ => 0), cO 3 [eI 0, eR ((w0.length + 38))], cI 0 200 (fun _ => 0)] [cO 3 [eI 0, eN]]).symm) ?_
  refine ww_callIN (rc := 0) (rs := 0) K dX5_init_93 lc_X5_35 (ct_X3_init G l (w0 := w0 ++ [cO 5 [eR ((w0.length + 1)), eI 0, eI 0, eI ((-1)), eR ((w0.length + 2)), eR ((w0.length + 3)), eR ((w0.length + 4))], cI 0 600 (fun _ => 0), cI 0 6 (fun _ => 0), cQ 2 2 (va_up (va_up (fun _ => none) 0 (some (w0.length + 5))) 1 (some (w0.length + 13))), cQ 3 10 (va_up (va_up (va_up (va_up (va_up (va_up (va_up (va_up (va_up (fun _ => none) 0 (some (w0.length + 21))) 1 (some (w0.length + 23))) 2 (some (w0.length + 25))) 3 (some (w0.length + 27))) 4 (some (w0.length + 29))) 5 (some (w0.length + 31))) 6 (some (w0.length + 33))) 7 (some (w0.length + 35))) 8 (some (w0.length + 37))), cO 2 [eI 0, eR ((w0.length + 6)), eR ((w0.length + 7)), eR ((w0.length + 8)), eR ((w0.length + 9)), eR ((w0.length + 10)), eR ((w0.length + 11)), eR ((w0.length + 12)), eI 0, eI 0, eI 0, eI 0, eI 0, eI 0], cI 0 6 (fun _ => 0), cI 0 6 (fun _ => 0), cI 0 6 (fun _ => 0), cI 0 6 (fun _ => 0), cI 0 72 (fun _ => 0), cI 0 6 (fun _ => 0), cI 0 3 (fun _ => 0), cO 2 [eI 0, eR ((w0.length + 14)), eR ((w0.length + 15)), eR ((w0.length + 16)), eR ((w0.length + 17)), eR ((w0.length + 18)), eR ((w0.length + 19)), eR ((w0.length + 20)), eI 0, eI 0, eI 0, eI 0, eI 0, eI 0], cI 0 6 (fun _ => 0), cI 0 6 (fun _ => 0), cI 0 6 (fun _ => 0), cI 0 6 (fun _ => 0), cI 0 72 (fun _ => 0), cI 0 6 (fun _ => 0), cI 0 3 (fun _ => 0), cO 3 [eI 0, eR ((w0.length + 22))], cI 0 200 (fun _ => 0), cO 3 [eI 0, eR ((w0.length + 24))], cI 0 200 (fun _ => 0), cO 3 [eI 0, eR ((w0.length + 26))], cI 0 200 (fun _ => 0), cO 3 [eI 0, eR ((w0.length + 28))], cI 0 200 (fun _ => 0), cO 3 [eI 0, eR ((w0.length + 30))], cI 0 200 (fun _ => 0), cO 3 [eI 0, eR ((w0.length + 32))], cI 0 200 (fun _ => 0), cO 3 [eI 0, eR ((w0.length + 34))], cI 0 200 (fun _ => 0), cO 3 [eI 0, eR ((w0.length + 36))], cI 0 200 (fun _ => 0), cO 3 [eI 0, eR ((w0.length + 38))], cI 0 200 (fun _ => 0)]) (n := w0.length + 39) (List.length_append)) rfl ⟨Nat.le_of_ble_eq_true rfl, Nat.le_of_ble_eq_true rfl⟩ (Nat.le_of_ble_eq_true rfl) (fun r w2 hq _ _ => ?_)
  obtain ⟨rfl, rfl⟩ := hq
  refine WW_w (w2 := w0 ++ [cO 5 [eR ((w0.length + 1)), eI 0, eI 0, eI ((-1)), eR ((w0.length + 2)), eR ((w0.length + 3)), eR ((w0.length + 4))], cI 0 600 (fun _ => 0), cI 0 6 (fun _ => 0), cQ 2 2 (va_up (va_up (fun _ => none) 0 (some (w0.length + 5))) 1 (some (w0.length + 13))), cQ 3 10 (va_up (va_up (va_up (va_up (va_up (va_up (va_up (va_up (va_up (fun _ => none) 0 (some (w0.length + 21))) 1 (some (w0.length + 23))) 2 (some (w0.length + 25))) 3 (some (w0.length + 27))) 4 (some (w0.length + 29))) 5 (some (w0.length + 31))) 6 (some (w0.length + 33))) 7 (some (w0.length + 35))) 8 (some (w0.length + 37))), cO 2 [eI 0, eR ((w0.length + 6)), eR ((w0.length + 7)), eR ((w0.length + 8)), eR ((w0.length + 9)), eR ((w0.length + 10)), eR ((w0.length + 11)), eR ((w0.length + 12)), eI 0, eI 0, eI 0, eI 0, eI 0, eI 0], cI 0 6 (fun _ => 0), cI 0 6 (fun _ => 0), cI 0 6 (fun _ => 0), cI 0 6 (fun _ => 0), cI 0 72 (fun _ => 0), cI 0 6 (fun _ => 0), cI 0 3 (fun _ => 0), cO 2 [eI 0, eR ((w0.length + 14)), eR ((w0.length + 15)), eR ((w0.length + 16)), eR ((w0.length + 17)), eR ((w0.length + 18)), eR ((w0.length + 19)), eR ((w0.length + 20)), eI 0, eI 0, eI 0, eI 0, eI 0, eI 0], cI 0 6 (fun _ => 0), cI 0 6 (fun _ => 0), cI 0 6 (fun _ => 0), cI 0 6 (fun _ => 0), cI 0 72 (fun _ => 0), cI 0 6 (fun _ => 0), cI 0 3 (fun _ => 0), cO 3 [eI 0, eR ((w0.length + 22))], cI 0 200 (fun _ => 0), cO 3 [eI 0, eR ((w0.length + 24))], cI 0 200 (fun _ => 0), cO 3 [eI 0, eR ((w0.length + 26))], cI 0 200 (fun _ => 0), cO 3 [eI 0, eR ((w0.length + 28))], cI 0 200 (fun _ => 0), cO 3 [eI 0, eR ((w0.length + 30))], cI 0 200 (fun _ => 0), cO 3 [eI 0, eR ((w0.length + 32))], cI 0 200 (fun _ => 0), cO 3 [eI 0, eR ((w0.length + 34))], cI 0 200 (fun _ => 0), cO 3 [eI 0, eR ((w0.length + 36))], cI 0 200 (fun _ => 0), cO 3 [eI 0, eR ((w0.length + 38))], cI 0 200 (fun _ => 0), cO 3 [eI 0, eR ((w0.length + 40))], cI 0 200 (fun _ => 0)]) (wc_assoc w0 [cO 5 [eR ((w0.length + 1)), eI 0, eI 0, eI ((-1)), eR ((w0.length + 2)), eR ((w0.length + 3)), eR ((w0.length + 4))], cI 0 600 (fun _ => 0), cI 0 6 (fun _ => 0), cQ 2 2 (va_up (va_up (fun _ => none) 0 (some (w0.length + 5))) 1 (some (w0.length + 13))), cQ 3 10 (va_up (va_up (va_up (va_up (va_up (va_up (va_up (va_up (va_up (fun _ => none) 0 (some (w0.length + 21))) 1 (some (w0.length + 23))) 2 (some (w0.length + 25))) 3 (some (w0.length + 27))) 4 (some (w0.length + 29))) 5 (some (w0.length + 31))) 6 (some (w0.length + 33))) 7 (some (w0.length + 35))) 8 (some (w0.length + 37))), cO 2 [eI 0, eR ((w0.length + 6)), eR ((w0.length + 7)), eR ((w0.length + 8)), eR ((w0.length + 9)), eR ((w0.length + 10)), eR ((w0.length + 11)), eR ((w0.length + 12)), eI 0, eI 0, eI 0, eI 0, eI 0, eI 0], cI 0 6 (fun _ => 0), cI 0 6 (fun _ => 0), cI 0 6 (fun _ => 0), cI 0 6 (fun _ => 0), cI 0 72 (fun _ => 0), cI 0 6 (fun _ => 0), cI 0 3 (fun _ => 0), cO 2 [eI 0, eR ((w0.length + 14)), eR ((w0.length + 15)), eR ((w0.length + 16)), eR ((w0.length + 17)), eR ((w0.length + 18)), eR ((w0.length + 19)), eR ((w0.length + 20)), eI 0, eI 0, eI 0, eI 0, eI 0, eI 0], cI 0 6 (fun _ => 0), cI 0 6 (fun _ => 0), cI 0 6 (fun _ => 0), cI 0 6 (fun _ => 0), cI 0 72 (fun _ => 0), cI 0 6 (fun _ => 0), cI 0 3 (fun _ => 0), cO 3 [eI 0, eR ((w0.length + 22))], cI 0 200 (fun _ => 0), cO 3 [eI 0, eR ((w0.length + 24))], cI 0 200 (fun _ => 0), cO 3 [eI 0, eR ((w0.length + 26))], cI 0 200 (fun _ => 0), cO 3 [eI 0, eR ((w0.length + 28))], cI 0 200 (fun _ => 0), cO 3 [eI 0, eR ((w0.length + 30))], cI 0 200 (fun _ => 0), cO 3 [eI 0, eR ((w0.length + 32))], cI 0 200 (fun _ => 0), cO 3 [eI 0, eR ((w0.length + 34))], cI 0 200 (fun _ => 0), cO 3 [eI 0, eR ((w0.length + 36))], cI 0 200 (fun _ => 0), cO 3 [eI 0, eR ((w0.length + 38))], cI 0 200 (fun _ => 0)] [cO 3 [eI 0, eR ((w0.length + 40))], cI 0 200 (fun _ => 0)]) ?_
  refine ww_aast3A (L2 := [cO 5 [eR ((w0.length + 1)), eI 0, eI 0, eI ((-1)), eR ((w0.length + 2)), eR ((w0.length + 3)), eR ((w0.length + 4))], cI 0 600 (fun _ => 0), cI 0 6 (fun _ => 0), cQ 2 2 (va_up (va_up (fun _ => none) 0 (some (w0.length + 5))) 1 (some (w0.length + 13))), cQ 3 10 (va_up (va_up (va_up (va_up (va_up (va_up (va_up (va_up (va_up (va_up (fun _ => none) 0 (some (w0.length + 21))) 1 (some (w0.length + 23))) 2 (some (w0.length + 25))) 3 (some (w0.length + 27))) 4 (some (w0.length + 29))) 5 (some (w0.length + 31))) 6 (some (w0.length + 33))) 7 (some (w0.length + 35))) 8 (some (w0.length + 37))) 9 (some (w0.length + 39))), cO 2 [eI 0, eR ((w0.length + 6)), eR ((w0.length + 7)), eR ((w0.length + 8)), eR ((w0.length + 9)), eR ((w0.length + 10)), eR ((w0.length + 11)), eR ((w0.length + 12)), eI 0, eI 0, eI 0, eI 0, eI 0, eI 0], cI 0 6 (fun _ => 0), cI 0 6 (fun _ => 0), cI 0 6 (fun _ => 0), cI 0 6 (fun _ => 0), cI 0 72 (fun _ => 0), cI 0 6 (fun _ => 0), cI 0 3 (fun _ => 0), cO 2 [eI 0, eR ((w0.length + 14)), eR ((w0.length + 15)), eR ((w0.length + 16)), eR ((w0.length + 17)), eR ((w0.length + 18)), eR ((w0.length + 19)), eR ((w0.length + 20)), eI 0, eI 0, eI 0, eI 0, eI 0, eI 0], cI 0 6 (fun _ => 0), cI 0 6 (fun _ => 0), cI 0 6 (fun _ => 0), cI 0 6 (fun _ => 0), cI 0 72 (fun _ => 0), cI 0 6 (fun _ => 0), cI 0 3 (fun _ => 0), cO 3 [eI 0, eR ((w0.length + 22))], cI 0 200 (fun _ => 0), cO 3 [eI 0, eR ((w0.length + 24))], cI 0 200 (fun _ => 0), cO 3 [eI 0, eR ((w0.length + 26))], cI 0 200 (fun _ => 0), cO 3 [eI 0, eR ((w0.length + 28))], cI 0 200 (fun _ => 0), cO 3 [eI 0, eR ((w0.length + 30))], cI 0 200 (fun _ => 0), cO 3 [eI 0, eR ((w0.length + 32))], cI 0 200 (fun _ => 0), cO 3 [eI 0, eR ((w0.length + 34))], cI 0 200 (fun _ => 0), cO 3 [eI 0, eR ((w0.length + 36))], cI 0 200 (fun _ => 0), cO 3 [eI 0, eR ((w0.length + 38))], cI 0 200 (fun _ => 0), cO 3 [eI 0, eR ((w0.length + 40))], cI 0 200 (fun _ => 0)]) K dX5_init_96 rfl rfl (wc_vin (by decide)) rfl ?_
  refine ww_iinc (ls2 := [some (eR ((w0.length + 0))), some (eI (10))]) K dX5_init_97 (by decide) rfl rfl ?_
  refine ww_goto (tgt := 75) K dX5_init_100 rfl ?_
  refine ww_iload_n K dX5_init_75 rfl ?_
  refine ww_aload_n K dX5_init_76 rfl ?_
  refine ww_getA K dX5_init_77 lf_X5_30 rfl rfl ?_
  refine ww_alenq3A K dX5_init_80 rfl ?_
  rw [show Int32.ofNat 10 = 10 from rfl]
  refine ww_icmp_ge (tgt := 103) K dX5_init_81 rfl (fun _ => ?_) (fun cc_ => absurd cc_ (by decide))
  exact ww_vret K dX5_init_103 hr ⟨rfl, rfl⟩
set_option maxRecDepth 100000 in
set_option maxHeartbeats 4000000 in
theorem ct_X6_init (G : EG) (l : Launch) {w0 : EW} {n : Nat} (hn : w0.length = n) : Ct G l yX6_init cX6_init 1 none 3 63 5108 [eR n] (w0 ++ [cO 6 [eN, eN, eN, eN, eN, eN, eN, eN]]) (fun r w2 => r = none ∧ w2 = w0 ++ [cO 6 [eR ((n + 1)), eR ((n + 42)), eR ((n + 43)), eR ((n + 56)), eR ((n + 60)), eR ((n + 61)), eR ((n + 62)), eR ((n + 63))], cO 5 [eR ((n + 2)), eI 0, eI 0, eI ((-1)), eR ((n + 3)), eR ((n + 4)), eR ((n + 5))], cI 0 600 (fun _ => 0), cI 0 6 (fun _ => 0), cQ 2 2 (va_up (va_up (fun _ => none) 0 (some (n + 6))) 1 (some (n + 14))), cQ 3 10 (va_up (va_up (va_up (va_up (va_up (va_up (va_up (va_up (va_up (va_up (fun _ => none) 0 (some (n + 22))) 1 (some (n + 24))) 2 (some (n + 26))) 3 (some (n + 28))) 4 (some (n + 30))) 5 (some (n + 32))) 6 (some (n + 34))) 7 (some (n + 36))) 8 (some (n + 38))) 9 (some (n + 40))), cO 2 [eI 0, eR ((n + 7)), eR ((n + 8)), eR ((n + 9)), eR ((n + 10)), eR ((n + 11)), eR ((n + 12)), eR ((n + 13)), eI 0, eI 0, eI 0, eI 0, eI 0, eI 0], cI 0 6 (fun _ => 0), cI 0 6 (fun _ => 0), cI 0 6 (fun _ => 0), cI 0 6 (fun _ => 0), cI 0 72 (fun _ => 0), cI 0 6 (fun _ => 0), cI 0 3 (fun _ => 0), cO 2 [eI 0, eR ((n + 15)), eR ((n + 16)), eR ((n + 17)), eR ((n + 18)), eR ((n + 19)), eR ((n + 20)), eR ((n + 21)), eI 0, eI 0, eI 0, eI 0, eI 0, eI 0], cI 0 6 (fun _ => 0), cI 0 6 (fun _ => 0), cI 0 6 (fun _ => 0), cI 0 6 (fun _ => 0), cI 0 72 (fun _ => 0), cI 0 6 (fun _ => 0), cI 0 3 (fun _ => 0), cO 3 [eI 0, eR ((n + 23))], cI 0 200 (fun _ => 0), cO 3 [eI 0, eR ((n + 25))], cI 0 200 (fun _ => 0), cO 3 [eI 0, eR ((n + 27))], cI 0 200 (fun _ => 0), cO 3 [eI 0, eR ((n + 29))], cI 0 200 (fun _ => 0), cO 3 [eI 0, eR ((n + 31))], cI 0 200 (fun _ => 0), cO 3 [eI 0, eR ((n + 33))], cI 0 200 (fun _ => 0), cO 3 [eI 0, eR ((n + 35))], cI 0 200 (fun _ => 0), cO 3 [eI 0, eR ((n + 37))], cI 0 200 (fun _ => 0), cO 3 [eI 0, eR ((n + 39))], cI 0 200 (fun _ => 0), cO 3 [eI 0, eR ((n + 41))], cI 0 200 (fun _ => 0), cQ 4 3 (fun _ => none), cO 1 [eR ((n + 44)), eR ((n + 52)), eI 0, eI 0, eR ((n + 54)), eR ((n + 55)), eI 0, eI 0, eI 0, eI 0, eI 0, eI 0], cO 2 [eI 0, eR ((n + 45)), eR ((n + 46)), eR ((n + 47)), eR ((n + 48)), eR ((n + 49)), eR ((n + 50)), eR ((n + 51)), eI 0, eI 0, eI 0, eI 0, eI 0, eI 0], cI 0 6 (fun _ => 0), cI 0 6 (fun _ => 0), cI 0 6 (fun _ => 0), cI 0 6 (fun _ => 0), cI 0 72 (fun _ => 0), cI 0 6 (fun _ => 0), cI 0 3 (fun _ => 0), cO 3 [eI 0, eR ((n + 53))], cI 0 200 (fun _ => 0), cI 0 600 (fun _ => 0), cI 0 5 (fun _ => 0), cO 0 [eR ((n + 57)), eI 0, eI 0, eI 0, eR ((n + 58)), eR ((n + 59)), eI 0, eI 0, eI 0, eI 0, eI 0, eI 0, eI 0], cO 4 [eI 0, eI 0, eI 0], cI 0 6 (fun _ => 0), cI 0 3 (fun _ => 0), cO 4 [eI 0, eI 0, eI 0], cI 0 40 (fun _ => 0), cI 0 216 (fun _ => 0), cI 0 1000 (fun _ => 0)]) := by
  subst hn
  refine Ct_of (by decide +kernel) (Nat.le_of_ble_eq_true rfl) ?_
  intro p_ e_ s_ m_ a_ b_ t_ c_ K0 hr hin
  have K : wc_C p_ s_ m_ a_ t_ c_ G RX6 cX6_init 1 (w0 ++ [cO 6 [eN, eN, eN, eN, eN, eN, eN, eN]]).length := K0
  clear K0
  refine WW_ls (ls2 := [some (eR ((w0.length + 0)))]) rfl ?_
  refine ww_aload_n K dX6_init_0 rfl ?_
  refine ww_objInit K dX6_init_1 lo_X6_1 ⟨Nat.le_of_ble_eq_true rfl, Nat.le_of_ble_eq_true rfl⟩ ?_
  refine ww_aload_n K dX6_init_4 rfl ?_
  refine ww_newA (rc := 62) (rs := 5101) (L2 := [cO 6 [eN, eN, eN, eN, eN, eN, eN, eN], cO 5 [eN, eI 0, eI 0, eI 0, eN, eN, eN]]) K dX6_init_5 ln_X6_7 rfl rfl ?_
  refine ww_dup K dX6_init_8 trivial ?_
  refine WW_w (w2 := (w0 ++ [cO 6 [eN, eN, eN, eN, eN, eN, eN, eN]]) ++ [cO 5 [eN, eI 0, eI 0, eI 0, eN, eN, eN]]) ((wc_assoc w0 [cO 6 [eN, eN, eN, eN, eN, eN, eN, eN]] [cO 5 [eN, eI 0, eI 0, eI 0, eN, eN, eN]]).symm) ?_
  refine ww_callI (rc := 22) (rs := 2225) K dX6_init_9 lc_X6_9 (ct_X5_init G l (w0 := w0 ++ [cO 6 [eN, eN, eN, eN, eN, eN, eN, eN]]) (n := w0.length + 1) (List.length_append)) rfl ⟨Nat.le_of_ble_eq_true rfl, Nat.le_of_ble_eq_true rfl⟩ (Nat.le_of_ble_eq_true rfl) (fun r w2 hq _ _ => ?_)
  obtain ⟨rfl, rfl⟩ := hq
  refine WW_w (w2 := w0 ++ [cO 6 [eN, eN, eN, eN, eN, eN, eN, eN], cO 5 [eR ((w0.length + 2)), eI 0, eI 0, eI ((-1)), eR ((w0.length + 3)), eR ((w0.length + 4)), eR ((w0.length + 5))], cI 0 600 (fun _ => 0), cI 0 6 (fun _ => 0), cQ 2 2 (va_up (va_up (fun _ => none) 0 (some (w0.length + 6))) 1 (some (w0.length + 14))), cQ 3 10 (va_up (va_up (va_up (va_up (va_up (va_up (va_up (va_up (va_up (va_up (fun _ => none) 0 (some (w0.length + 22))) 1 (some (w0.length + 24))) 2 (some (w0.length + 26))) 3 (some (w0.length + 28))) 4 (some (w0.length + 30))) 5 (some (w0.length + 32))) 6 (some (w0.length + 34))) 7 (some (w0.length + 36))) 8 (some (w0.length + 38))) 9 (some (w0.length + 40))), cO 2 [eI 0, eR ((w0.length + 7)), eR ((w0.length + 8)), eR ((w0.length + 9)), eR ((w0.length + 10)), eR ((w0.length + 11)), eR ((w0.length + 12)), eR ((w0.length + 13)), eI 0, eI 0, eI 0, eI 0, eI 0, eI 0], cI 0 6 (fun _ => 0), cI 0 6 (fun _ => 0), cI 0 6 (fun _ => 0), cI 0 6 (fun _ => 0), cI 0 72 (fun _ => 0), cI 0 6 (fun _ => 0), cI 0 3 (fun _ => 0), cO 2 [eI 0, eR ((w0.length + 15)), eR ((w0.length + 16)), eR ((w0.length + 17)), eR ((w0.length + 18)), eR ((w0.length + 19)), eR ((w0.length + 20)), eR ((w0.length + 21)), eI 0, eI 0, eI 0, eI 0, eI 0, eI 0], cI 0 6 (fun _ => 0), cI 0 6 (fun _ => 0), cI 0 6 (fun _ => 0), cI 0 6 (fun _ => 0), cI 0 72 (fun _ => 0), cI 0 6 (fun _ => 0), cI 0 3 (fun _ => 0), cO 3 [eI 0, eR ((w0.length + 23))], cI 0 200 (fun _ => 0), cO 3 [eI 0, eR ((w0.length + 25))], cI 0 200 (fun _ => 0), cO 3 [eI 0, eR ((w0.length + 27))], cI 0 200 (fun _ => 0), cO 3 [eI 0, eR ((w0.length + 29))], cI 0 200 (fun _ => 0), cO 3 [eI 0, eR ((w0.length + 31))], cI 0 200 (fun _ => 0), cO 3 [eI 0, eR ((w0.length + 33))], cI 0 200 (fun _ => 0), cO 3 [eI 0, eR ((w0.length + 35))], cI 0 200 (fun _ => 0), cO 3 [eI 0, eR ((w0.length + 37))], cI 0 200 (fun _ => 0), cO 3 [eI 0, eR ((w0.length + 39))], cI 0 200 (fun _ => 0), cO 3 [eI 0, eR ((w0.length + 41))], cI 0 200 (fun _ => 0)]) (wc_assoc w0 [cO 6 [eN, eN, eN, eN, eN, eN, eN, eN]] [cO 5 [eR ((w0.length + 2)), eI 0, eI 0, eI ((-1)), eR ((w0.length + 3)), eR ((w0.length + 4)), eR ((w0.length + 5))], cI 0 600 (fun _ => 0), cI 0 6 (fun _ => 0), cQ 2 2 (va_up (va_up (fun _ => none) 0 (some (w0.length + 6))) 1 (some (w0.length + 14))), cQ 3 10 (va_up (va_up (va_up (va_up (va_up (va_up (va_up (va_up (va_up (va_up (fun _ => none) 0 (some (w0.length + 22))) 1 (some (w0.length + 24))) 2 (some (w0.length + 26))) 3 (some (w0.length + 28))) 4 (some (w0.length + 30))) 5 (some (w0.length + 32))) 6 (some (w0.length + 34))) 7 (some (w0.length + 36))) 8 (some (w0.length + 38))) 9 (some (w0.length + 40))), cO 2 [eI 0, eR ((w0.length + 7)), eR ((w0.length + 8)), eR ((w0.length + 9)), eR ((w0.length + 10)), eR ((w0.length + 11)), eR ((w0.length + 12)), eR ((w0.length + 13)), eI 0, eI 0, eI 0, eI 0, eI 0, eI 0], cI 0 6 (fun _ => 0), cI 0 6 (fun _ => 0), cI 0 6 (fun _ => 0), cI 0 6 (fun _ => 0), cI 0 72 (fun _ => 0), cI 0 6 (fun _ => 0), cI 0 3 (fun _ => 0), cO 2 [eI 0, eR ((w0.length + 15)), eR ((w0.length + 16)), eR ((w0.length + 17)), eR ((w0.length + 18)), eR ((w0.length + 19)), eR ((w0.length + 20)), eR ((w0.length + 21)), eI 0, eI 0, eI 0, eI 0, eI 0, eI 0], cI 0 6 (fun _ => 0), cI 0 6 (fun _ => 0), cI 0 6 (fun _ => 0), cI 0 6 (fun _ => 0), cI 0 72 (fun _ => 0), cI 0 6 (fun _ => 0), cI 0 3 (fun _ => 0), cO 3 [eI 0, eR ((w0.length + 23))], cI 0 200 (fun _ => 0), cO 3 [eI 0, eR ((w0.length + 25))], cI 0 200 (fun _ => 0), cO 3 [eI 0, eR ((w0.length + 27))], cI 0 200 (fun _ => 0), cO 3 [eI 0, eR ((w0.length + 29))], cI 0 200 (fun _ => 0), cO 3 [eI 0, eR ((w0.length + 31))], cI 0 200 (fun _ => 0), cO 3 [eI 0, eR ((w0.length + 33))], cI 0 200 (fun _ => 0), cO 3 [eI 0, eR ((w0.length + 35))], cI 0 200 (fun _ => 0), cO 3 [eI 0, eR ((w0.length + 37))], cI 0 200 (fun _ => 0), cO 3 [eI 0, eR ((w0.length + 39))], cI 0 200 (fun _ => 0), cO 3 [eI 0, eR ((w0.length + 41))], cI 0 200 (fun _ => 0)]) ?_
  refine ww_putFA (L2 := [cO 6 [eR ((w0.length + 1)), eN, eN, eN, eN, eN, eN, eN], cO 5 [eR ((w0.length + 2)), eI 0, eI 0, eI ((-1)), eR ((w0.length + 3)), eR ((w0.length + 4)), eR ((w0.length + 5))], cI 0 600 (fun _ => 0), cI 0 6 (fun _ => 0), cQ 2 2 (va_up (va_up (fun _ => none) 0 (some (w0.length + 6))) 1 (some (w0.length + 14))), cQ 3 10 (va_up (va_up (va_up (va_up (va_up (va_up (va_up (va_up (va_up (va_up (fun _ => none) 0 (some (w0.length + 22))) 1 (some (w0.length + 24))) 2 (some (w0.length + 26))) 3 (some (w0.length + 28))) 4 (some (w0.length + 30))) 5 (some (w0.length + 32))) 6 (some (w0.length + 34))) 7 (some (w0.length + 36))) 8 (some (w0.length + 38))) 9 (some (w0.length + 40))), cO 2 [eI 0, eR ((w0.length + 7)), eR ((w0.length + 8)), eR ((w0.length + 9)), eR ((w0.length + 10)), eR ((w0.length + 11)), eR ((w0.length + 12)), eR ((w0.length + 13)), eI 0, eI 0, eI 0, eI 0, eI 0, eI 0], cI 0 6 (fun _ => 0), cI 0 6 (fun _ => 0), cI 0 6 (fun _ => 0), cI 0 6 (fun _ => 0), cI 0 72 (fun _ => 0), cI 0 6 (fun _ => 0), cI 0 3 (fun _ => 0), cO 2 [eI 0, eR ((w0.length + 15)), eR ((w0.length + 16)), eR ((w0.length + 17)), eR ((w0.length + 18)), eR ((w0.length + 19)), eR ((w0.length + 20)), eR ((w0.length + 21)), eI 0, eI 0, eI 0, eI 0, eI 0, eI 0], cI 0 6 (fun _ => 0), cI 0 6 (fun _ => 0), cI 0 6 (fun _ => 0), cI 0 6 (fun _ => 0), cI 0 72 (fun _ => 0), cI 0 6 (fun _ => 0), cI 0 3 (fun _ => 0), cO 3 [eI 0, eR ((w0.length + 23))], cI 0 200 (fun _ => 0), cO 3 [eI 0, eR ((w0.length + 25))], cI 0 200 (fun _ => 0), cO 3 [eI 0, eR ((w0.length + 27))], cI 0 200 (fun _ => 0), cO 3 [eI 0, eR ((w0.length + 29))], cI 0 200 (fun _ => 0), cO 3 [eI 0, eR ((w0.length + 31))], cI 0 200 (fun _ => 0), cO 3 [eI 0, eR ((w0.length + 33))], cI 0 200 (fun _ => 0), cO 3 [eI 0, eR ((w0.length + 35))], cI 0 200 (fun _ => 0), cO 3 [eI 0, eR ((w0.length + 37))], cI 0 200 (fun _ => 0), cO 3 [eI 0, eR ((w0.length + 39))], cI 0 200 (fun _ => 0), cO 3 [eI 0, eR ((w0.length + 41))], cI 0 200 (fun _ => 0)]) K hin dX6_init_12 lp_X6_10 (fun q h => by cases h; rfl) rfl (Nat.le_of_ble_eq_true rfl) rfl rfl rfl ?_
  refine ww_aload_n K dX6_init_15 rfl ?_
  refine ww_iconst (v := 3) K dX6_init_16 rfl ?_
  refine ww_newq4A (N := 3) (rc := 21) (rs := 2222) (L2 := [cO 6 [eR ((w0.length + 1)), eN, eN, eN, eN, eN, eN, eN], cO 5 [eR ((w0.length + 2)), eI 0, eI 0, eI ((-1)), eR ((w0.length + 3)), eR ((w0.length + 4)), eR ((w0.length + 5))], cI 0 600 (fun _ => 0), cI 0 6 (fun _ => 0), cQ 2 2 (va_up (va_up (fun _ => none) 0 (some (w0.length + 6))) 1 (some (w0.length + 14))), cQ 3 10 (va_up (va_up (va_up (va_up (va_up (va_up (va_up (va_up (va_up (va_up (fun _ => none) 0 (some (w0.length + 22))) 1 (some (w0.length + 24))) 2 (some (w0.length + 26))) 3 (some (w0.length + 28))) 4 (some (w0.length + 30))) 5 (some (w0.length + 32))) 6 (some (w0.length + 34))) 7 (some (w0.length + 36))) 8 (some (w0.length + 38))) 9 (some (w0.length + 40))), cO 2 [eI 0, eR ((w0.length + 7)), eR ((w0.length + 8)), eR ((w0.length + 9)), eR ((w0.length + 10)), eR ((w0.length + 11)), eR ((w0.length + 12)), eR ((w0.length + 13)), eI 0, eI 0, eI 0, eI 0, eI 0, eI 0], cI 0 6 (fun _ => 0), cI 0 6 (fun _ => 0), cI 0 6 (fun _ => 0), cI 0 6 (fun _ => 0), cI 0 72 (fun _ => 0), cI 0 6 (fun _ => 0), cI 0 3 (fun _ => 0), cO 2 [eI 0, eR ((w0.length + 15)), eR ((w0.length + 16)), eR ((w0.length + 17)), eR ((w0.length + 18)), eR ((w0.length + 19)), eR ((w0.length + 20)), eR ((w0.length + 21)), eI 0, eI 0, eI 0, eI 0, eI 0, eI 0], cI 0 6 (fun _ => 0), cI 0 6 (fun _ => 0), cI 0 6 (fun _ => 0), cI 0 6 (fun _ => 0), cI 0 72 (fun _ => 0), cI 0 6 (fun _ => 0), cI 0 3 (fun _ => 0), cO 3 [eI 0, eR ((w0.length + 23))], cI 0 200 (fun _ => 0), cO 3 [eI 0, eR ((w0.length + 25))], cI 0 200 (fun _ => 0), cO 3 [eI 0, eR ((w0.length + 27))], cI 0 200 (fun _ => 0), cO 3 [eI 0, eR ((w0.length + 29))], cI 0 200 (fun _ => 0), cO 3 [eI 0, eR ((w0.length + 31))], cI 0 200 (fun _ => 0), cO 3 [eI 0, eR ((w0.length + 33))], cI 0 200 (fun _ => 0), cO 3 [eI 0, eR ((w0.length + 35))], cI 0 200 (fun _ => 0), cO 3 [eI 0, eR ((w0.length + 37))], cI 0 200 (fun _ => 0), cO 3 [eI 0, eR ((w0.length + 39))], cI 0 200 (fun _ => 0), cO 3 [eI 0, eR ((w0.length + 41))], cI 0 200 (fun _ => 0), cQ 4 3 (fun _ => none)]) K dX6_init_17 lq_X6_7 (by decide) rfl (by decide) rfl rfl ?_
  refine ww_putFA (L2 := [cO 6 [eR ((w0.length + 1)), eR ((w0.length + 42)), eN, eN, eN, eN, eN, eN], cO 5 [eR ((w0.length + 2)), eI 0, eI 0, eI ((-1)), eR ((w0.length + 3)), eR ((w0.length + 4)), eR ((w0.length + 5))], cI 0 600 (fun _ => 0), cI 0 6 (fun _ => 0), cQ 2 2 (va_up (va_up (fun _ => none) 0 (some (w0.length + 6))) 1 (some (w0.length + 14))), cQ 3 10 (va_up (va_up (va_up (va_up (va_up (va_up (va_up (va_up (va_up (va_up (fun _ => none) 0 (some (w0.length + 22))) 1 (some (w0.length + 24))) 2 (some (w0.length + 26))) 3 (some (w0.length + 28))) 4 (some (w0.length + 30))) 5 (some (w0.length + 32))) 6 (some (w0.length + 34))) 7 (some (w0.length + 36))) 8 (some (w0.length + 38))) 9 (some (w0.length + 40))), cO 2 [eI 0, eR ((w0.length + 7)), eR ((w0.length + 8)), eR ((w0.length + 9)), eR ((w0.length + 10)), eR ((w0.length + 11)), eR ((w0.length + 12)), eR ((w0.length + 13)), eI 0, eI 0, eI 0, eI 0, eI 0, eI 0], cI 0 6 (fun _ => 0), cI 0 6 (fun _ => 0), cI 0 6 (fun _ => 0), cI 0 6 (fun _ => 0), cI 0 72 (fun _ => 0), cI 0 6 (fun _ => 0), cI 0 3 (fun _ => 0), cO 2 [eI 0, eR ((w0.length + 15)), eR ((w0.length + 16)), eR ((w0.length + 17)), eR ((w0.length + 18)), eR ((w0.length + 19)), eR ((w0.length + 20)), eR ((w0.length + 21)), eI 0, eI 0, eI 0, eI 0, eI 0, eI 0], cI 0 6 (fun _ => 0), cI 0 6 (fun _ => 0), cI 0 6 (fun _ => 0), cI 0 6 (fun _ => 0), cI 0 72 (fun _ => 0), cI 0 6 (fun _ => 0), cI 0 3 (fun _ => 0), cO 3 [eI 0, eR ((w0.length + 23))], cI 0 200 (fun _ => 0), cO 3 [eI 0, eR ((w0.length + 25))], cI 0 200 (fun _ => 0), cO 3 [eI 0, eR ((w0.length + 27))], cI 0 200 (fun _ => 0), cO 3 [eI 0, eR ((w0.length + 29))], cI 0 200 (fun _ => 0), cO 3 [eI 0, eR ((w0.length + 31))], cI 0 200 (fun _ => 0), cO 3 [eI 0, eR ((w0.length + 33))], cI 0 200 (fun _ => 0), cO 3 [eI 0, eR ((w0.length + 35))], cI 0 200 (fun _ => 0), cO 3 [eI 0, eR ((w0.length + 37))], cI 0 200 (fun _ => 0), cO 3 [eI 0, eR ((w0.length + 39))], cI 0 200 (fun _ => 0), cO 3 [eI 0, eR ((w0.length + 41))], cI 0 200 (fun _ => 0), cQ 4 3 (fun _ => none)]) K hin dX6_init_20 lp_X6_16 (fun q h => by cases h; rfl) rfl (Nat.le_of_ble_eq_true rfl) rfl rfl rfl ?_
  refine ww_aload_n K dX6_init_23 rfl ?_
  refine ww_newA (rc := 20) (rs := 2210) (L2 := [cO 6 [eR ((w0.length + 1)), eR ((w0.length + 42)), eN, eN, eN, eN, eN, eN], cO 5 [eR ((w0.length + 2)), eI 0, eI 0, eI ((-1)), eR ((w0.length + 3)), eR ((w0.length + 4)), eR ((w0.length + 5))], cI 0 600 (fun _ => 0), cI 0 6 (fun _ => 0), cQ 2 2 (va_up (va_up (fun _ => none) 0 (some (w0.length + 6))) 1 (some (w0.length + 14))), cQ 3 10 (va_up (va_up (va_up (va_up (va_up (va_up (va_up (va_up (va_up (va_up (fun _ => none) 0 (some (w0.length + 22))) 1 (some (w0.length + 24))) 2 (some (w0.length + 26))) 3 (some (w0.length + 28))) 4 (some (w0.length + 30))) 5 (some (w0.length + 32))) 6 (some (w0.length + 34))) 7 (some (w0.length + 36))) 8 (some (w0.length + 38))) 9 (some (w0.length + 40))), cO 2 [eI 0, eR ((w0.length + 7)), eR ((w0.length + 8)), eR ((w0.length + 9)), eR ((w0.length + 10)), eR ((w0.length + 11)), eR ((w0.length + 12)), eR ((w0.length + 13)), eI 0, eI 0, eI 0, eI 0, eI 0, eI 0], cI 0 6 (fun _ => 0), cI 0 6 (fun _ => 0), cI 0 6 (fun _ => 0), cI 0 6 (fun _ => 0), cI 0 72 (fun _ => 0), cI 0 6 (fun _ => 0), cI 0 3 (fun _ => 0), cO 2 [eI 0, eR ((w0.length + 15)), eR ((w0.length + 16)), eR ((w0.length + 17)), eR ((w0.length + 18)), eR ((w0.length + 19)), eR ((w0.length + 20)), eR ((w0.length + 21)), eI 0, eI 0, eI 0, eI 0, eI 0, eI 0], cI 0 6 (fun _ => 0), cI 0 6 (fun _ => 0), cI 0 6 (fun _ => 0), cI 0 6 (fun _ => 0), cI 0 72 (fun _ => 0), cI 0 6 (fun _ => 0), cI 0 3 (fun _ => 0), cO 3 [eI 0, eR ((w0.length + 23))], cI 0 200 (fun _ => 0), cO 3 [eI 0, eR ((w0.length + 25))], cI 0 200 (fun _ => 0), cO 3 [eI 0, eR ((w0.length + 27))], cI 0 200 (fun _ => 0), cO 3 [eI 0, eR ((w0.length + 29))], cI 0 200 (fun _ => 0), cO 3 [eI 0, eR ((w0.length + 31))], cI 0 200 (fun _ => 0), cO 3 [eI 0, eR ((w0.length + 33))], cI 0 200 (fun _ => 0), cO 3 [eI 0, eR ((w0.length + 35))], cI 0 200 (fun _ => 0), cO 3 [eI 0, eR ((w0.length + 37))], cI 0 200 (fun _ => 0), cO 3 [eI 0, eR ((w0.length + 39))], cI 0 200 (fun _ => 0), cO 3 [eI 0, eR ((w0.length + 41))], cI 0 200 (fun _ => 0), cQ 4 3 (fun _ => none), cO 1 [eN, eN, eI 0, eI 0, eN, eN, eI 0, eI 0, eI 0, eI 0, eI 0, eI 0]]) K dX6_init_24 ln_X6_20 rfl rfl ?_
  refine ww_dup K dX6_init_27 trivial ?_
  refine WW_w (w2 := (w0 ++ [cO 6 [eR ((w0.length + 1)), eR ((w0.length + 42)), eN, eN, eN, eN, eN, eN], cO 5 [eR ((w0.length + 2)), eI 0, eI 0, eI ((-1)), eR ((w0.length + 3)), eR ((w0.length + 4)), eR ((w0.length + 5))], cI 0 600 (fun _ => 0), cI 0 6 (fun _ => 0), cQ 2 2 (va_up (va_up (fun _ => none) 0 (some (w0.length + 6))) 1 (some (w0.length + 14))), cQ 3 10 (va_up (va_up (va_up (va_up (va_up (va_up (va_up (va_up (va_up (va_up (fun _ => none) 0 (some (w0.length + 22))) 1 (some (w0.length + 24))) 2 (some (w0.length + 26))) 3 (some (w0.length + 28))) 4 (some (w0.length + 30))) 5 (some (w0.length + 32))) 6 (some (w0.length + 34))) 7 (some (w0.length + 36))) 8 (some (w0.length + 38))) 9 (some (w0.length + 40))), cO 2 [eI 0, eR ((w0.length + 7)), eR ((w0.length + 8)), eR ((w0.length + 9)), eR ((w0.length + 10)), eR ((w0.length + 11)), eR ((w0.length + 12)), eR ((w0.length + 13)), eI 0, eI 0, eI 0, eI 0, eI 0, eI 0], cI 0 6 (fun _ => 0), cI 0 6 (fun _ => 0), cI 0 6 (fun _ => 0), cI 0 6 (fun _ => 0), cI 0 72 (fun _ => 0), cI 0 6 (fun _ => 0), cI 0 3 (fun _ => 0), cO 2 [eI 0, eR ((w0.length + 15)), eR ((w0.length + 16)), eR ((w0.length + 17)), eR ((w0.length + 18)), eR ((w0.length + 19)), eR ((w0.length + 20)), eR ((w0.length + 21)), eI 0, eI 0, eI 0, eI 0, eI 0, eI 0], cI 0 6 (fun _ => 0), cI 0 6 (fun _ => 0), cI 0 6 (fun _ => 0), cI 0 6 (fun _ => 0), cI 0 72 (fun _ => 0), cI 0 6 (fun _ => 0), cI 0 3 (fun _ => 0), cO 3 [eI 0, eR ((w0.length + 23))], cI 0 200 (fun _ => 0), cO 3 [eI 0, eR ((w0.length + 25))], cI 0 200 (fun _ => 0), cO 3 [eI 0, eR ((w0.length + 27))], cI 0 200 (fun _ => 0), cO 3 [eI 0, eR ((w0.length + 29))], cI 0 200 (fun _ => 0), cO 3 [eI 0, eR ((w0.length + 31))], cI 0 200 (fun _ => 0), cO 3 [eI 0, eR ((w0.length + 33))], cI 0 200 (fun _ => 0), cO 3 [eI 0, eR ((w0.length + 35))], cI 0 200 (fun _ => 0), cO 3 [eI 0, eR ((w0.length + 37))], cI 0 200 (fun _ => 0), cO 3 [eI 0, eR ((w0.length + 39))], cI 0 200 (fun _ => 0), cO 3 [eI 0, eR ((w0.length + 41))], cI 0 200 (fun _ => 0), cQ 4 3 (fun _ => none)]) ++ [cO 1 [eN, eN, eI 0, eI 0, eN, eN, eI 0, eI 0, eI 0, eI 0, eI 0, eI 0]]) ((wc_assoc w0 [cO 6 [eR ((w0.length + 1)), eR ((w0.length + 42)), eN, eN, eN, eN, eN, eN], cO 5 [eR ((w0.length + 2)), eI 0, eI 0, eI ((-1)), eR ((w0.length + 3)), eR ((w0.length + 4)), eR ((w0.length + 5))], cI 0 600 (fun _ => 0), cI 0 6 (fun _ => 0), cQ 2 2 (va_up (va_up (fun _ => none) 0 (some (w0.length + 6))) 1 (some (w0.length + 14))), cQ 3 10 (va_up (va_up (va_up (va_up (va_up (va_up (va_up (va_up (va_up (va_up (fun _ => none) 0 (some (w0.length + 22))) 1 (some (w0.length + 24))) 2 (some (w0.length + 26))) 3 (some (w0.length + 28))) 4 (some (w0.length + 30))) 5 (some (w0.length + 32))) 6 (some (w0.length + 34))) 7 (some (w0.length + 36))) 8 (some (w0.length + 38))) 9 (some (w0.length + 40))), cO 2 [eI 0, eR ((w0.length + 7)), eR ((w0.length + 8)), eR ((w0.length + 9)), eR ((w0.length + 10)), eR ((w0.length + 11)), eR ((w0.length + 12)), eR ((w0.length + 13)), eI 0, eI 0, eI 0, eI 0, eI 0, eI 0], cI 0 6 (fun _ => 0), cI 0 6 (fun _ => 0), cI 0 6 (fun _ => 0), cI 0 6 (fun _ => 0), cI 0 72 (fun _ => 0), cI 0 6 (fun _ => 0), cI 0 3 (fun _ => 0), cO 2 [eI 0, eR ((w0.length + 15)), eR ((w0.length + 16)), eR ((w0.length + 17)), eR ((w0.length + 18)), eR ((w0.length + 19)), eR ((w0.length + 20)), eR ((w0.length + 21)), eI 0, eI 0, eI 0, eI 0, eI 0, eI 0], cI 0 6 (fun _ => 0), cI 0 6 (fun _ => 0), cI 0 6 (fun _ => 0), cI 0 6 (fun _ => 0), cI 0 72 (fun _ => 0), cI 0 6 (fun _ => 0), cI 0 3 (fun _ => 0), cO 3 [eI 0, eR ((w0.length + 23))], cI 0 200 (fun _ => 0), cO 3 [eI 0, eR ((w0.length + 25))], cI 0 200 (fun _ => 0), cO 3 [eI 0, eR ((w0.length + 27))], cI 0 200 (fun _ => 0), cO 3 [eI 0, eR ((w0.length + 29))], cI 0 200 (fun _ => 0), cO 3 [eI 0, eR ((w0.length + 31))], cI 0 200 (fun _ => 0), cO 3 [eI 0, eR ((w0.length + 33))], cI 0 200 (fun _ => 0), cO 3 [eI 0, eR ((w0.length + 35))], cI 0 200 (fun _ => 0), cO 3 [eI 0, eR ((w0.length + 37))], cI 0 200 (fun _ => 0), cO 3 [eI 0, eR ((w0.length + 39))], cI 0 200 (fun _ => 0), cO 3 [eI 0, eR ((w0.length + 41))], cI 0 200 (fun _ => 0), cQ 4 3 (fun _ => none)] [cO 1 [eN, eN, eI 0, eI 0, eN, eN, eI 0, eI 0, eI 0, eI 0, eI 0, eI 0]]).symm) ?_
  refine ww_callIN (rc := 8) (rs := 1284) K dX6_init_28 lc_X6_22 (ct_X1_init G l (w0 := w0 ++ [cO 6 [eR ((w0.length + 1)), eR ((w0.length + 42)), eN, eN, eN, eN, eN, eN], cO 5 [eR ((w0.length + 2)), eI 0, eI 0, eI ((-1)), eR ((w0.length + 3)), eR ((w0.length + 4)), eR ((w0.length + 5))], cI 0 600 (fun _ => 0), cI 0 6 (fun _ => 0), cQ 2 2 (va_up (va_up (fun _ => none) 0 (some (w0.length + 6))) 1 (some (w0.length + 14))), cQ 3 10 (va_up (va_up (va_up (va_up (va_up (va_up (va_up (va_up (va_up (va_up (fun _ => none) 0 (some (w0.length + 22))) 1 (some (w0.length + 24))) 2 (some (w0.length + 26))) 3 (some (w0.length + 28))) 4 (some (w0.length + 30))) 5 (some (w0.length + 32))) 6 (some (w0.length + 34))) 7 (some (w0.length + 36))) 8 (some (w0.length + 38))) 9 (some (w0.length + 40))), cO 2 [eI 0, eR ((w0.length + 7)), eR ((w0.length + 8)), eR ((w0.length + 9)), eR ((w0.length + 10)), eR ((w0.length + 11)), eR ((w0.length + 12)), eR ((w0.length + 13)), eI 0, eI 0, eI 0, eI 0, eI 0, eI 0], cI 0 6 (fun _ => 0), cI 0 6 (fun _ => 0), cI 0 6 (fun _ => 0), cI 0 6 (fun _ => 0), cI 0 72 (fun _ => 0), cI 0 6 (fun _ => 0), cI 0 3 (fun _ => 0), cO 2 [eI 0, eR ((w0.length + 15)), eR ((w0.length + 16)), eR ((w0.length + 17)), eR ((w0.length + 18)), eR ((w0.length + 19)), eR ((w0.length + 20)), eR ((w0.length + 21)), eI 0, eI 0, eI 0, eI 0, eI 0, eI 0], cI 0 6 (fun _ => 0), cI 0 6 (fun _ => 0), cI 0 6 (fun _ => 0), cI 0 6 (fun _ => 0), cI 0 72 (fun _ => 0), cI 0 6 (fun _ => 0), cI 0 3 (fun _ => 0), cO 3 [eI 0, eR ((w0.length + 23))], cI 0 200 (fun _ => 0), cO 3 [eI 0, eR ((w0.length + 25))], cI 0 200 (fun _ => 0), cO 3 [eI 0, eR ((w0.length + 27))], cI 0 200 (fun _ => 0), cO 3 [eI 0, eR ((w0.length + 29))], cI 0 200 (fun _ => 0), cO 3 [eI 0, eR ((w0.length + 31))], cI 0 200 (fun _ => 0), cO 3 [eI 0, eR ((w0.length + 33))], cI 0 200 (fun _ => 0), cO 3 [eI 0, eR ((w0.length + 35))], cI 0 200 (fun _ => 0), cO 3 [eI 0, eR ((w0.length + 37))], cI 0 200 (fun _ => 0), cO 3 [eI 0, eR ((w0.length + 39))], cI 0 200 (fun _ => 0), cO 3 [eI 0, eR ((w0.length + 41))], cI 0 200 (fun _ => 0), cQ 4 3 (fun _ => none)]) (n := w0.length + 43) (List.length_append)) rfl ⟨Nat.le_of_ble_eq_true rfl, Nat.le_of_ble_eq_true rfl⟩ (Nat.le_of_ble_eq_true rfl) (fun r w2 hq _ _ => ?_)
  obtain ⟨rfl, rfl⟩ := hq
  refine WW_w (w2 := w0 ++ [cO 6 [eR ((w0.length + 1)), eR ((w0.length + 42)), eN, eN, eN, eN, eN, eN], cO 5 [eR ((w0.length + 2)), eI 0, eI 0, eI ((-1)), eR ((w0.length + 3)), eR ((w0.length + 4)), eR ((w0.length + 5))], cI 0 600 (fun _ => 0), cI 0 6 (fun _ => 0), cQ 2 2 (va_up (va_up (fun _ => none) 0 (some (w0.length + 6))) 1 (some (w0.length + 14))), cQ 3 10 (va_up (va_up (va_up (va_up (va_up (va_up (va_up (va_up (va_up (va_up (fun _ => none) 0 (some (w0.length + 22))) 1 (some (w0.length + 24))) 2 (some (w0.length + 26))) 3 (some (w0.length + 28))) 4 (some (w0.length + 30))) 5 (some (w0.length + 32))) 6 (some (w0.length + 34))) 7 (some (w0.length + 36))) 8 (some (w0.length + 38))) 9 (some (w0.length + 40))), cO 2 [eI 0, eR ((w0.length + 7)), eR ((w0.length + 8)), eR ((w0.length + 9)), eR ((w0.length + 10)), eR ((w0.length + 11)), eR ((w0.length + 12)), eR ((w0.length + 13)), eI 0, eI 0, eI 0, eI 0, eI 0, eI 0], cI 0 6 (fun _ => 0), cI 0 6 (fun _ => 0), cI 0 6 (fun _ => 0), cI 0 6 (fun _ => 0), cI 0 72 (fun _ => 0), cI 0 6 (fun _ => 0), cI 0 3 (fun _ => 0), cO 2 [eI 0, eR ((w0.length + 15)), eR ((w0.length + 16)), eR ((w0.length + 17)), eR ((w0.length + 18)), eR ((w0.length + 19)), eR ((w0.length + 20)), eR ((w0.length + 21)), eI 0, eI 0, eI 0, eI 0, eI 0, eI 0], cI 0 6 (fun _ => 0), cI 0 6 (fun _ => 0), cI 0 6 (fun _ => 0), cI 0 6 (fun _ => 0), cI 0 72 (fun _ => 0), cI 0 6 (fun _ => 0), cI 0 3 (fun _ => 0), cO 3 [eI 0, eR ((w0.length + 23))], cI 0 200 (fun _ => 0), cO 3 [eI 0, eR ((w0.length + 25))], cI 0 200 (fun _ => 0), cO 3 [eI 0, eR ((w0.length + 27))], cI 0 200 (fun _ => 0), cO 3 [eI 0, eR ((w0.length + 29))], cI 0 200 (fun _ => 0), cO 3 [eI 0, eR ((w0.length + 31))], cI 0 200 (fun _ => 0), cO 3 [eI 0, eR ((w0.length + 33))], cI 0 200 (fun _ => 0), cO 3 [eI 0, eR ((w0.length + 35))], cI 0 200 (fun _ => 0), cO 3 [eI 0, eR ((w0.length + 37))], cI 0 200 (fun _ => 0), cO 3 [eI 0, eR ((w0.length + 39))], cI 0 200 (fun _ => 0), cO 3 [eI 0, eR ((w0.length + 41))], cI 0 200 (fun _ => 0), cQ 4 3 (fun _ => none), cO 1 [eR ((w0.length + 44)), eR ((w0.length + 52)), eI 0, eI 0, eR ((w0.length + 54)), eR ((w0.length + 55)), eI 0, eI 0, eI 0, eI 0, eI 0, eI 0], cO 2 [eI 0, eR ((w0.length + 45)), eR ((w0.length + 46)), eR ((w0.length + 47)), eR ((w0.length + 48)), eR ((w0.length + 49)), eR ((w0.length + 50)), eR ((w0.length + 51)), eI 0, eI 0, eI 0, eI 0, eI 0, eI 0], cI 0 6 (fun _ => 0), cI 0 6 (fun _ => 0), cI 0 6 (fun _ => 0), cI 0 6 (fun _ => 0), cI 0 72 (fun _ => 0), cI 0 6 (fun _ => 0), cI 0 3 (fun _ => 0), cO 3 [eI 0, eR ((w0.length + 53))], cI 0 200 (fun _ => 0), cI 0 600 (fun _ => 0), cI 0 5 (fun _ => 0)]) (wc_assoc w0 [cO 6 [eR ((w0.length + 1)), eR ((w0.length + 42)), eN, eN, eN, eN, eN, eN], cO 5 [eR ((w0.length + 2)), eI 0, eI 0, eI ((-1)), eR ((w0.length + 3)), eR ((w0.length + 4)), eR ((w0.length + 5))], cI 0 600 (fun _ => 0), cI 0 6 (fun _ => 0), cQ 2 2 (va_up (va_up (fun _ => none) 0 (some (w0.length + 6))) 1 (some (w0.length + 14))), cQ 3 10 (va_up (va_up (va_up (va_up (va_up (va_up (va_up (va_up (va_up (va_up (fun _ => none) 0 (some (w0.length + 22))) 1 (some (w0.length + 24))) 2 (some (w0.length + 26))) 3 (some (w0.length + 28))) 4 (some (w0.length + 30))) 5 (some (w0.length + 32))) 6 (some (w0.length + 34))) 7 (some (w0.length + 36))) 8 (some (w0.length + 38))) 9 (some (w0.length + 40))), cO 2 [eI 0, eR ((w0.length + 7)), eR ((w0.length + 8)), eR ((w0.length + 9)), eR ((w0.length + 10)), eR ((w0.length + 11)), eR ((w0.length + 12)), eR ((w0.length + 13)), eI 0, eI 0, eI 0, eI 0, eI 0, eI 0], cI 0 6 (fun _ => 0), cI 0 6 (fun _ => 0), cI 0 6 (fun _ => 0), cI 0 6 (fun _ => 0), cI 0 72 (fun _ => 0), cI 0 6 (fun _ => 0), cI 0 3 (fun _ => 0), cO 2 [eI 0, eR ((w0.length + 15)), eR ((w0.length + 16)), eR ((w0.length + 17)), eR ((w0.length + 18)), eR ((w0.length + 19)), eR ((w0.length + 20)), eR ((w0.length + 21)), eI 0, eI 0, eI 0, eI 0, eI 0, eI 0], cI 0 6 (fun _ => 0), cI 0 6 (fun _ => 0), cI 0 6 (fun _ => 0), cI 0 6 (fun _ => 0), cI 0 72 (fun _ => 0), cI 0 6 (fun _ => 0), cI 0 3 (fun _ => 0), cO 3 [eI 0, eR ((w0.length + 23))], cI 0 200 (fun _ => 0), cO 3 [eI 0, eR ((w0.length + 25))], cI 0 200 (fun _ => 0), cO 3 [eI 0, eR ((w0.length + 27))], cI 0 200 (fun _ => 0), cO 3 [eI 0, eR ((w0.length + 29))], cI 0 200 (fun _ => 0), cO 3 [eI 0, eR ((w0.length + 31))], cI 0 200 (fun _ => 0), cO 3 [eI 0, eR ((w0.length + 33))], cI 0 200 (fun _ => 0), cO 3 [eI 0, eR ((w0.length + 35))], cI 0 200 (fun _ => 0), cO 3 [eI 0, eR ((w0.length + 37))], cI 0 200 (fun _ => 0), cO 3 [eI 0, eR ((w0.length + 39))], cI 0 200 (fun _ => 0), cO 3 [eI 0, eR ((w0.length + 41))], cI 0 200 (fun _ => 0), cQ 4 3 (fun _ => none)] [cO 1 [eR ((w0.length + 44)), eR ((w0.length + 52)), eI 0, eI 0, eR ((w0.length + 54)), eR ((w0.length + 55)), eI 0, eI 0, eI 0, eI 0, eI 0, eI 0], cO 2 [eI 0, eR ((w0.length + 45)), eR ((w0.length + 46)), eR ((w0.length + 47)), eR ((w0.length + 48)), eR ((w0.length + 49)), eR ((w0.length + 50)), eR ((w0.length + 51)), eI 0, eI 0, eI 0, eI 0, eI 0, eI 0], cI 0 6 (fun _ => 0), cI 0 6 (fun _ => 0), cI 0 6 (fun _ => 0), cI 0 6 (fun _ => 0), cI 0 72 (fun _ => 0), cI 0 6 (fun _ => 0), cI 0 3 (fun _ => 0), cO 3 [eI 0, eR ((w0.length + 53))], cI 0 200 (fun _ => 0), cI 0 600 (fun _ => 0), cI 0 5 (fun _ => 0)]) ?_
  refine ww_putFA (L2 := [cO 6 [eR ((w0.length + 1)), eR ((w0.length + 42)), eR ((w0.length + 43)), eN, eN, eN, eN, eN], cO 5 [eR ((w0.length + 2)), eI 0, eI 0, eI ((-1)), eR ((w0.length + 3)), eR ((w0.length + 4)), eR ((w0.length + 5))], cI 0 600 (fun _ => 0), cI 0 6 (fun _ => 0), cQ 2 2 (va_up (va_up (fun _ => none) 0 (some (w0.length + 6))) 1 (some (w0.length + 14))), cQ 3 10 (va_up (va_up (va_up (va_up (va_up (va_up (va_up (va_up (va_up (va_up (fun _ => none) 0 (some (w0.length + 22))) 1 (some (w0.length + 24))) 2 (some (w0.length + 26))) 3 (some (w0.length + 28))) 4 (some (w0.length + 30))) 5 (some (w0.length + 32))) 6 (some (w0.length + 34))) 7 (some (w0.length + 36))) 8 (some (w0.length + 38))) 9 (some (w0.length + 40))), cO 2 [eI 0, eR ((w0.length + 7)), eR ((w0.length + 8)), eR ((w0.length + 9)), eR ((w0.length + 10)), eR ((w0.length + 11)), eR ((w0.length + 12)), eR ((w0.length + 13)), eI 0, eI 0, eI 0, eI 0, eI 0, eI 0], cI 0 6 (fun _ => 0), cI 0 6 (fun _ => 0), cI 0 6 (fun _ => 0), cI 0 6 (fun _ => 0), cI 0 72 (fun _ => 0), cI 0 6 (fun _ => 0), cI 0 3 (fun _ => 0), cO 2 [eI 0, eR ((w0.length + 15)), eR ((w0.length + 16)), eR ((w0.length + 17)), eR ((w0.length + 18)), eR ((w0.length + 19)), eR ((w0.length + 20)), eR ((w0.length + 21)), eI 0, eI 0, eI 0, eI 0, eI 0, eI 0], cI 0 6 (fun _ => 0), cI 0 6 (fun _ => 0), cI 0 6 (fun _ => 0), cI 0 6 (fun _ => 0), cI 0 72 (fun _ => 0), cI 0 6 (fun _ => 0), cI 0 3 (fun _ => 0), cO 3 [eI 0, eR ((w0.length + 23))], cI 0 200 (fun _ => 0), cO 3 [eI 0, eR ((w0.length + 25))], cI 0 200 (fun _ => 0), cO 3 [eI 0, eR ((w0.length + 27))], cI 0 200 (fun _ => 0), cO 3 [eI 0, eR ((w0.length + 29))], cI 0 200 (fun _ => 0), cO 3 [eI 0, eR ((w0.length + 31))], cI 0 200 (fun _ => 0), cO 3 [eI 0, eR ((w0.length + 33))], cI 0 200 (fun _ => 0), cO 3 [eI 0, eR ((w0.length + 35))], cI 0 200 (fun _ => 0), cO 3 [eI 0, eR ((w0.length + 37))], cI 0 200 (fun _ => 0), cO 3 [eI 0, eR ((w0.length + 39))], cI 0 200 (fun _ => 0), cO 3 [eI 0, eR ((w0.length + 41))], cI 0 200 (fun _ => 0), cQ 4 3 (fun _ => none), cO 1 [eR ((w0.length + 44)), eR ((w0.length + 52)), eI 0, eI 0, eR ((w0.length + 54)), eR ((w0.length + 55)), eI 0, eI 0, eI 0, eI 0, eI 0, eI 0], cO 2 [eI 0, eR ((w0.length + 45)), eR ((w0.length + 46)), eR ((w0.length + 47)), eR ((w0.length + 48)), eR ((w0.length + 49)), eR ((w0.length + 50)), eR ((w0.length + 51)), eI 0, eI 0, eI 0, eI 0, eI 0, eI 0], cI 0 6 (fun _ => 0), cI 0 6 (fun _ => 0), cI 0 6 (fun _ => 0), cI 0 6 (fun _ => 0), cI 0 72 (fun _ => 0), cI 0 6 (fun _ => 0), cI 0 3 (fun _ => 0), cO 3 [eI 0, eR ((w0.length + 53))], cI 0 200 (fun _ => 0), cI 0 600 (fun _ => 0), cI 0 5 (fun _ => 0)]) K hin dX6_init_31 lp_X6_23 (fun q h => by cases h; rfl) rfl (Nat.le_of_ble_eq_true rfl) rfl rfl rfl ?_
  refine ww_aload_n K dX6_init_34 rfl ?_
  refine ww_newA (rc := 7) (rs := 1271) (L2 := [cO 6 [eR ((w0.length + 1)), eR ((w0.length + 42)), eR ((w0.length + 43)), eN, eN, eN, eN, eN], cO 5 [eR ((w0.length + 2)), eI 0, eI 0, eI ((-1)), eR ((w0.length + 3)), eR ((w0.length + 4)), eR ((w0.length + 5))], cI 0 600 (fun _ => 0), cI 0 6 (fun _ => 0), cQ 2 2 (va_up (va_up (fun _ => none) 0 (some (w0.length + 6))) 1 (some (w0.length + 14))), cQ 3 10 (va_up (va_up (va_up (va_up (va_up (va_up (va_up (va_up (va_up (va_up (fun _ => none) 0 (some (w0.length + 22))) 1 (some (w0.length + 24))) 2 (some (w0.length + 26))) 3 (some (w0.length + 28))) 4 (some (w0.length + 30))) 5 (some (w0.length + 32))) 6 (some (w0.length + 34))) 7 (some (w0.length + 36))) 8 (some (w0.length + 38))) 9 (some (w0.length + 40))), cO 2 [eI 0, eR ((w0.length + 7)), eR ((w0.length + 8)), eR ((w0.length + 9)), eR ((w0.length + 10)), eR ((w0.length + 11)), eR ((w0.length + 12)), eR ((w0.length + 13)), eI 0, eI 0, eI 0, eI 0, eI 0, eI 0], cI 0 6 (fun _ => 0), cI 0 6 (fun _ => 0), cI 0 6 (fun _ => 0), cI 0 6 (fun _ => 0), cI 0 72 (fun _ => 0), cI 0 6 (fun _ => 0), cI 0 3 (fun _ => 0), cO 2 [eI 0, eR ((w0.length + 15)), eR ((w0.length + 16)), eR ((w0.length + 17)), eR ((w0.length + 18)), eR ((w0.length + 19)), eR ((w0.length + 20)), eR ((w0.length + 21)), eI 0, eI 0, eI 0, eI 0, eI 0, eI 0], cI 0 6 (fun _ => 0), cI 0 6 (fun _ => 0), cI 0 6 (fun _ => 0), cI 0 6 (fun _ => 0), cI 0 72 (fun _ => 0), cI 0 6 (fun _ => 0), cI 0 3 (fun _ => 0), cO 3 [eI 0, eR ((w0.length + 23))], cI 0 200 (fun _ => 0), cO 3 [eI 0, eR ((w0.length + 25))], cI 0 200 (fun _ => 0), cO 3 [eI 0, eR ((w0.length + 27))], cI 0 200 (fun _ => 0), cO 3 [eI 0, eR ((w0.length + 29))], cI 0 200 (fun _ => 0), cO 3 [eI 0, eR ((w0.length + 31))], cI 0 200 (fun _ => 0), cO 3 [eI 0, eR ((w0.length + 33))], cI 0 200 (fun _ => 0), cO 3 [eI 0, eR ((w0.length + 35))], cI 0 200 (fun _ => 0), cO 3 [eI 0, eR ((w0.length + 37))], cI 0 200 (fun _ => 0), cO 3 [eI 0, eR ((w0.length + 39))], cI 0 200 (fun _ => 0), cO 3 [eI 0, eR ((w0.length + 41))], cI 0 200 (fun _ => 0), cQ 4 3 (fun _ => none), cO 1 [eR ((w0.length + 44)), eR ((w0.length + 52)), eI 0, eI 0, eR ((w0.length + 54)), eR ((w0.length + 55)), eI 0, eI 0, eI 0, eI 0, eI 0, eI 0], cO 2 [eI 0, eR ((w0.length + 45)), eR ((w0.length + 46)), eR ((w0.length + 47)), eR ((w0.length + 48)), eR ((w0.length + 49)), eR ((w0.length + 50)), eR ((w0.length + 51)), eI 0, eI 0, eI 0, eI 0, eI 0, eI 0], cI 0 6 (fun _ => 0), cI 0 6 (fun _ => 0), cI 0 6 (fun _ => 0), cI 0 6 (fun _ => 0), cI 0 72 (fun _ => 0), cI 0 6 (fun _ => 0), cI 0 3 (fun _ => 0), cO 3 [eI 0, eR ((w0.length + 53))], cI 0 200 (fun _ => 0), cI 0 600 (fun _ => 0), cI 0 5 (fun _ => 0), cO 0 [eN, eI 0, eI 0, eI 0, eN, eN, eI 0, eI 0, eI 0, eI 0, eI 0, eI 0, eI 0]]) K dX6_init_35 ln_X6_27 rfl rfl ?_
  refine ww_dup K dX6_init_38 trivial ?_
  refine WW_w (w2 := (w0 ++ [cO 6 [eR ((w0.length + 1)), eR ((w0.length + 42)), eR ((w0.length + 43)), eN, eN, eN, eN, eN], cO 5 [eR ((w0.length + 2)), eI 0, eI 0, eI ((-1)), eR ((w0.length + 3)), eR ((w0.length + 4)), eR ((w0.length + 5))], cI 0 600 (fun _ => 0), cI 0 6 (fun _ => 0), cQ 2 2 (va_up (va_up (fun _ => none) 0 (some (w0.length + 6))) 1 (some (w0.length + 14))), cQ 3 10 (va_up (va_up (va_up (va_up (va_up (va_up (va_up (va_up (va_up (va_up (fun _ => none) 0 (some (w0.length + 22))) 1 (some (w0.length + 24))) 2 (some (w0.length + 26))) 3 (some (w0.length + 28))) 4 (some (w0.length + 30))) 5 (some (w0.length + 32))) 6 (some (w0.length + 34))) 7 (some (w0.length + 36))) 8 (some (w0.length + 38))) 9 (some (w0.length + 40))), cO 2 [eI 0, eR ((w0.length + 7)), eR ((w0.length + 8)), eR ((w0.length + 9)), eR ((w0.length + 10)), eR ((w0.length + 11)), eR ((w0.length + 12)), eR ((w0.length + 13)), eI 0, eI 0, eI 0, eI 0, eI 0, eI 0], cI 0 6 (fun _ => 0), cI 0 6 (fun _ => 0), cI 0 6 (fun _ => 0), cI 0 6 (fun _ => 0), cI 0 72 (fun _ => 0), cI 0 6 (fun _ => 0), cI 0 3 (fun _ => 0), cO 2 [eI 0, eR ((w0.length + 15)), eR ((w0.length + 16)), eR ((w0.length + 17)), eR ((w0.length + 18)), eR ((w0.length + 19)), eR ((w0.length + 20)), eR ((w0.length + 21)), eI 0, eI 0, eI 0, eI 0, eI 0, eI 0], cI 0 6 (fun _ => 0), cI 0 6 (fun _ => 0), cI 0 6 (fun _ => 0), cI 0 6 (fun _ => 0), cI 0 72 (fun _ => 0), cI 0 6 (fun _ => 0), cI 0 3 (fun _ => 0), cO 3 [eI 0, eR ((w0.length + 23))], cI 0 200 (fun _ => 0), cO 3 [eI 0, eR ((w0.length + 25))], cI 0 200 (fun _ => 0), cO 3 [eI 0, eR ((w0.length + 27))], cI 0 200 (fun _ => 0), cO 3 [eI 0, eR ((w0.length + 29))], cI 0 200 (fun _ => 0), cO 3 [eI 0, eR ((w0.length + 31))], cI 0 200 (fun _ => 0), cO 3 [eI 0, eR ((w0.length + 33))], cI 0 200 (fun _ => 0), cO 3 [eI 0, eR ((w0.length + 35))], cI 0 200 (fun _ => 0), cO 3 [eI 0, eR ((w0.length + 37))], cI 0 200 (fun _ => 0), cO 3 [eI 0, eR ((w0.length + 39))], cI 0 200 (fun _ => 0), cO 3 [eI 0, eR ((w0.length + 41))], cI 0 200 (fun _ => 0), cQ 4 3 (fun _ => none), cO 1 [eR ((w0.length + 44)), eR ((w0.length + 52)), eI 0, eI 0, eR ((w0.length + 54)), eR ((w0.length + 55)), eI 0, eI 0, eI 0, eI 0, eI 0, eI 0], cO 2 [eI 0, eR ((w0.length + 45)), eR ((w0.length + 46)), eR ((w0.length + 47)), eR ((w0.length + 48)), eR ((w0.length + 49)), eR ((w0.length + 50)), eR ((w0.length + 51)), eI 0, eI 0, eI 0, eI 0, eI 0, eI 0], cI 0 6 (fun _ => 0), cI 0 6 (fun _ => 0), cI 0 6 (fun _ => 0), cI 0 6 (fun _ => 0), cI 0 72 (fun _ => 0), cI 0 6 (fun _ => 0), cI 0 3 (fun _ => 0), cO 3 [eI 0, eR ((w0.length + 53))], cI 0 200 (fun _ => 0), cI 0 600 (fun _ => 0), cI 0 5 (fun _ => 0)]) ++ [cO 0 [eN, eI 0, eI 0, eI 0, eN, eN, eI 0, eI 0, eI 0, eI 0, eI 0, eI 0, eI 0]]) ((wc_assoc w0 [cO 6 [eR ((w0.length + 1)), eR ((w0.length + 42)), eR ((w0.length + 43)), eN, eN, eN, eN, eN], cO 5 [eR ((w0.length + 2)), eI 0, eI 0, eI ((-1)), eR ((w0.length + 3)), eR ((w0.length + 4)), eR ((w0.length + 5))], cI 0 600 (fun _ => 0), cI 0 6 (fun _ => 0), cQ 2 2 (va_up (va_up (fun _ => none) 0 (some (w0.length + 6))) 1 (some (w0.length + 14))), cQ 3 10 (va_up (va_up (va_up (va_up (va_up (va_up (va_up (va_up (va_up (va_up (fun _ => none) 0 (some (w0.length + 22))) 1 (some (w0.length + 24))) 2 (some (w0.length + 26))) 3 (some (w0.length + 28))) 4 (some (w0.length + 30))) 5 (some (w0.length + 32))) 6 (some (w0.length + 34))) 7 (some (w0.length + 36))) 8 (some (w0.length + 38))) 9 (some (w0.length + 40))), cO 2 [eI 0, eR ((w0.length + 7)), eR ((w0.length + 8)), eR ((w0.length + 9)), eR ((w0.length + 10)), eR ((w0.length + 11)), eR ((w0.length + 12)), eR ((w0.length + 13)), eI 0, eI 0, eI 0, eI 0, eI 0, eI 0], cI 0 6 (fun _ => 0), cI 0 6 (fun _ => 0), cI 0 6 (fun _ => 0), cI 0 6 (fun _ => 0), cI 0 72 (fun _ => 0), cI 0 6 (fun _ => 0), cI 0 3 (fun _ => 0), cO 2 [eI 0, eR ((w0.length + 15)), eR ((w0.length + 16)), eR ((w0.length + 17)), eR ((w0.length + 18)), eR ((w0.length + 19)), eR ((w0.length + 20)), eR ((w0.length + 21)), eI 0, eI 0, eI 0, eI 0, eI 0, eI 0], cI 0 6 (fun _ => 0), cI 0 6 (fun _ => 0), cI 0 6 (fun _ => 0), cI 0 6 (fun _ => 0), cI 0 72 (fun _ => 0), cI 0 6 (fun _ => 0), cI 0 3 (fun _ => 0), cO 3 [eI 0, eR ((w0.length + 23))], cI 0 200 (fun _ => 0), cO 3 [eI 0, eR ((w0.length + 25))], cI 0 200 (fun _ => 0), cO 3 [eI 0, eR ((w0.length + 27))], cI 0 200 (fun _ => 0), cO 3 [eI 0, eR ((w0.length + 29))], cI 0 200 (fun _ => 0), cO 3 [eI 0, eR ((w0.length + 31))], cI 0 200 (fun _ => 0), cO 3 [eI 0, eR ((w0.length + 33))], cI 0 200 (fun _ => 0), cO 3 [eI 0, eR ((w0.length + 35))], cI 0 200 (fun _ => 0), cO 3 [eI 0, eR ((w0.length + 37))], cI 0 200 (fun _ => 0), cO 3 [eI 0, eR ((w0.length + 39))], cI 0 200 (fun _ => 0), cO 3 [eI 0, eR ((w0.length + 41))], cI 0 200 (fun _ => 0), cQ 4 3 (fun _ => none), cO 1 [eR ((w0.length + 44)), eR ((w0.length + 52)), eI 0, eI 0, eR ((w0.length + 54)), eR ((w0.length + 55)), eI 0, eI 0, eI 0, eI 0, eI 0, eI 0], cO 2 [eI 0, eR ((w0.length + 45)), eR ((w0.length + 46)), eR ((w0.length + 47)), eR ((w0.length + 48)), eR ((w0.length + 49)), eR ((w0.length + 50)), eR ((w0.length + 51)), eI 0, eI 0, eI 0, eI 0, eI 0, eI 0], cI 0 6 (fun _ => 0), cI 0 6 (fun _ => 0), cI 0 6 (fun _ => 0), cI 0 6 (fun _ => 0), cI 0 72 (fun _ => 0), cI 0 6 (fun _ => 0), cI 0 3 (fun _ => 0), cO 3 [eI 0, eR ((w0.length + 53))], cI 0 200 (fun _ => 0), cI 0 600 (fun _ => 0), cI 0 5 (fun _ => 0)] [cO 0 [eN, eI 0, eI 0, eI 0, eN, eN, eI 0, eI 0, eI 0, eI 0, eI 0, eI 0, eI 0]]).symm) ?_
  refine ww_callIN (rc := 4) (rs := 1259) K dX6_init_39 lc_X6_29 (ct_X0_init G l (w0 := w0 ++ [cO 6 [eR ((w0.length + 1)), eR ((w0.length + 42)), eR ((w0.length + 43)), eN, eN, eN, eN, eN], cO 5 [eR ((w0.length + 2)), eI 0, eI 0, eI ((-1)), eR ((w0.length + 3)), eR ((w0.length + 4)), eR ((w0.length + 5))], cI 0 600 (fun _ => 0), cI 0 6 (fun _ => 0), cQ 2 2 (va_up (va_up (fun _ => none) 0 (some (w0.length + 6))) 1 (some (w0.length + 14))), cQ 3 10 (va_up (va_up (va_up (va_up (va_up (va_up (va_up (va_up (va_up (va_up (fun _ => none) 0 (some (w0.length + 22))) 1 (some (w0.length + 24))) 2 (some (w0.length + 26))) 3 (some (w0.length + 28))) 4 (some (w0.length + 30))) 5 (some (w0.length + 32))) 6 (some (w0.length + 34))) 7 (some (w0.length + 36))) 8 (some (w0.length + 38))) 9 (some (w0.length + 40))), cO 2 [eI 0, eR ((w0.length + 7)), eR ((w0.length + 8)), eR ((w0.length + 9)), eR ((w0.length + 10)), eR ((w0.length + 11)), eR ((w0.length + 12)), eR ((w0.length + 13)), eI 0, eI 0, eI 0, eI 0, eI 0, eI 0], cI 0 6 (fun _ => 0), cI 0 6 (fun _ => 0), cI 0 6 (fun _ => 0), cI 0 6 (fun _ => 0), cI 0 72 (fun _ => 0), cI 0 6 (fun _ => 0), cI 0 3 (fun _ => 0), cO 2 [eI 0, eR ((w0.length + 15)), eR ((w0.length + 16)), eR ((w0.length + 17)), eR ((w0.length + 18)), eR ((w0.length + 19)), eR ((w0.length + 20)), eR ((w0.length + 21)), eI 0, eI 0, eI 0, eI 0, eI 0, eI 0], cI 0 6 (fun _ => 0), cI 0 6 (fun _ => 0), cI 0 6 (fun _ => 0), cI 0 6 (fun _ => 0), cI 0 72 (fun _ => 0), cI 0 6 (fun _ => 0), cI 0 3 (fun _ => 0), cO 3 [eI 0, eR ((w0.length + 23))], cI 0 200 (fun _ => 0), cO 3 [eI 0, eR ((w0.length + 25))], cI 0 200 (fun _ => 0), cO 3 [eI 0, eR ((w0.length + 27))], cI 0 200 (fun _ => 0), cO 3 [eI 0, eR ((w0.length + 29))], cI 0 200 (fun _ => 0), cO 3 [eI 0, eR ((w0.length + 31))], cI 0 200 (fun _ => 0), cO 3 [eI 0, eR ((w0.length + 33))], cI 0 200 (fun _ => 0), cO 3 [eI 0, eR ((w0.length + 35))], cI 0 200 (fun _ => 0), cO 3 [eI 0, eR ((w0.length + 37))], cI 0 200 (fun _ => 0), cO 3 [eI 0, eR ((w0.length + 39))], cI 0 200 (fun _ => 0), cO 3 [eI 0, eR ((w0.length + 41))], cI 0 200 (fun _ => 0), cQ 4 3 (fun _ => none), cO 1 [eR ((w0.length + 44)), eR ((w0.length + 52)), eI 0, eI 0, eR ((w0.length + 54)), eR ((w0.length + 55)), eI 0, eI 0, eI 0, eI 0, eI 0, eI 0], cO 2 [eI 0, eR ((w0.length + 45)), eR ((w0.length + 46)), eR ((w0.length + 47)), eR ((w0.length + 48)), eR ((w0.length + 49)), eR ((w0.length + 50)), eR ((w0.length + 51)), eI 0, eI 0, eI 0, eI 0, eI 0, eI 0], cI 0 6 (fun _ => 0), cI 0 6 (fun _ => 0), cI 0 6 (fun _ => 0), cI 0 6 (fun _ => 0), cI 0 72 (fun _ => 0), cI 0 6 (fun _ => 0), cI 0 3 (fun _ => 0), cO 3 [eI 0, eR ((w0.length + 53))], cI 0 200 (fun _ => 0), cI 0 600 (fun _ => 0), cI 0 5 (fun _ => 0)]) (n := w0.length + 56) (List.length_append)) rfl ⟨Nat.le_of_ble_eq_true rfl, Nat.le_of_ble_eq_true rfl⟩ (Nat.le_of_ble_eq_true rfl) (fun r w2 hq _ _ => ?_)
  obtain ⟨rfl, rfl⟩ := hq
  refine WW_w (w2 := w0 ++ [cO 6 [eR ((w0.length + 1)), eR ((w0.length + 42)), eR ((w0.length + 43)), eN, eN, eN, eN, eN], cO 5 [eR ((w0.length + 2)), eI 0, eI 0, eI ((-1)), eR ((w0.length + 3)), eR ((w0.length + 4)), eR ((w0.length + 5))], cI 0 600 (fun _ => 0), cI 0 6 (fun _ => 0), cQ 2 2 (va_up (va_up (fun _ => none) 0 (some (w0.length + 6))) 1 (some (w0.length + 14))), cQ 3 10 (va_up (va_up (va_up (va_up (va_up (va_up (va_up (va_up (va_up (va_up (fun _ => none) 0 (some (w0.length + 22))) 1 (some (w0.length + 24))) 2 (some (w0.length + 26))) 3 (some (w0.length + 28))) 4 (some (w0.length + 30))) 5 (some (w0.length + 32))) 6 (some (w0.length + 34))) 7 (some (w0.length + 36))) 8 (some (w0.length + 38))) 9 (some (w0.length + 40))), cO 2 [eI 0, eR ((w0.length + 7)), eR ((w0.length + 8)), eR ((w0.length + 9)), eR ((w0.length + 10)), eR ((w0.length + 11)), eR ((w0.length + 12)), eR ((w0.length + 13)), eI 0, eI 0, eI 0, eI 0, eI 0, eI 0], cI 0 6 (fun _ => 0), cI 0 6 (fun _ => 0), cI 0 6 (fun _ => 0), cI 0 6 (fun _ => 0), cI 0 72 (fun _ => 0), cI 0 6 (fun _ => 0), cI 0 3 (fun _ => 0), cO 2 [eI 0, eR ((w0.length + 15)), eR ((w0.length + 16)), eR ((w0.length + 17)), eR ((w0.length + 18)), eR ((w0.length + 19)), eR ((w0.length + 20)), eR ((w0.length + 21)), eI 0, eI 0, eI 0, eI 0, eI 0, eI 0], cI 0 6 (fun _ => 0), cI 0 6 (fun _ => 0), cI 0 6 (fun _ => 0), cI 0 6 (fun _ => 0), cI 0 72 (fun _ => 0), cI 0 6 (fun _ => 0), cI 0 3 (fun _ => 0), cO 3 [eI 0, eR ((w0.length + 23))], cI 0 200 (fun _ => 0), cO 3 [eI 0, eR ((w0.length + 25))], cI 0 200 (fun _ => 0), cO 3 [eI 0, eR ((w0.length + 27))], cI 0 200 (fun _ => 0), cO 3 [eI 0, eR ((w0.length + 29))], cI 0 200 (fun _ => 0), cO 3 [eI 0, eR ((w0.length + 31))], cI 0 200 (fun _ => 0), cO 3 [eI 0, eR ((w0.length + 33))], cI 0 200 (fun _ => 0), cO 3 [eI 0, eR ((w0.length + 35))], cI 0 200 (fun _ => 0), cO 3 [eI 0, eR ((w0.length + 37))], cI 0 200 (fun _ => 0), cO 3 [eI 0, eR ((w0.length + 39))], cI 0 200 (fun _ => 0), cO 3 [eI 0, eR ((w0.length + 41))], cI 0 200 (fun _ => 0), cQ 4 3 (fun _ => none), cO 1 [eR ((w0.length + 44)), eR ((w0.length + 52)), eI 0, eI 0, eR ((w0.length + 54)), eR ((w0.length + 55)), eI 0, eI 0, eI 0, eI 0, eI 0, eI 0], cO 2 [eI 0, eR ((w0.length + 45)), eR ((w0.length + 46)), eR ((w0.length + 47)), eR ((w0.length + 48)), eR ((w0.length + 49)), eR ((w0.length + 50)), eR ((w0.length + 51)), eI 0, eI 0, eI 0, eI 0, eI 0, eI 0], cI 0 6 (fun _ => 0), cI 0 6 (fun _ => 0), cI 0 6 (fun _ => 0), cI 0 6 (fun _ => 0), cI 0 72 (fun _ => 0), cI 0 6 (fun _ => 0), cI 0 3 (fun _ => 0), cO 3 [eI 0, eR ((w0.length + 53))], cI 0 200 (fun _ => 0), cI 0 600 (fun _ => 0), cI 0 5 (fun _ => 0), cO 0 [eR ((w0.length + 57)), eI 0, eI 0, eI 0, eR ((w0.length + 58)), eR ((w0.length + 59)), eI 0, eI 0, eI 0, eI 0, eI 0, eI 0, eI 0], cO 4 [eI 0, eI 0, eI 0], cI 0 6 (fun _ => 0), cI 0 3 (fun _ => 0)]) (wc_assoc w0 [cO 6 [eR ((w0.length + 1)), eR ((w0.length + 42)), eR ((w0.length + 43)), eN, eN, eN, eN, eN], cO 5 [eR ((w0.length + 2)), eI 0, eI 0, eI ((-1)), eR ((w0.length + 3)), eR ((w0.length + 4)), eR ((w0.length + 5))], cI 0 600 (fun _ => 0), cI 0 6 (fun _ => 0), cQ 2 2 (va_up (va_up (fun _ => none) 0 (some (w0.length + 6))) 1 (some (w0.length + 14))), cQ 3 10 (va_up (va_up (va_up (va_up (va_up (va_up (va_up (va_up (va_up (va_up (fun _ => none) 0 (some (w0.length + 22))) 1 (some (w0.length + 24))) 2 (some (w0.length + 26))) 3 (some (w0.length + 28))) 4 (some (w0.length + 30))) 5 (some (w0.length + 32))) 6 (some (w0.length + 34))) 7 (some (w0.length + 36))) 8 (some (w0.length + 38))) 9 (some (w0.length + 40))), cO 2 [eI 0, eR ((w0.length + 7)), eR ((w0.length + 8)), eR ((w0.length + 9)), eR ((w0.length + 10)), eR ((w0.length + 11)), eR ((w0.length + 12)), eR ((w0.length + 13)), eI 0, eI 0, eI 0, eI 0, eI 0, eI 0], cI 0 6 (fun _ => 0), cI 0 6 (fun _ => 0), cI 0 6 (fun _ => 0), cI 0 6 (fun _ => 0), cI 0 72 (fun _ => 0), cI 0 6 (fun _ => 0), cI 0 3 (fun _ => 0), cO 2 [eI 0, eR ((w0.length + 15)), eR ((w0.length + 16)), eR ((w0.length + 17)), eR ((w0.length + 18)), eR ((w0.length + 19)), eR ((w0.length + 20)), eR ((w0.length + 21)), eI 0, eI 0, eI 0, eI 0, eI 0, eI 0], cI 0 6 (fun _ => 0), cI 0 6 (fun _ => 0), cI 0 6 (fun _ => 0), cI 0 6 (fun _ => 0), cI 0 72 (fun _ => 0), cI 0 6 (fun _ => 0), cI 0 3 (fun _ => 0), cO 3 [eI 0, eR ((w0.length + 23))], cI 0 200 (fun _ => 0), cO 3 [eI 0, eR ((w0.length + 25))], cI 0 200 (fun _ => 0), cO 3 [eI 0, eR ((w0.length + 27))], cI 0 200 (fun _ => 0), cO 3 [eI 0, eR ((w0.length + 29))], cI 0 200 (fun _ => 0), cO 3 [eI 0, eR ((w0.length + 31))], cI 0 200 (fun _ => 0), cO 3 [eI 0, eR ((w0.length + 33))], cI 0 200 (fun _ => 0), cO 3 [eI 0, eR ((w0.length + 35))], cI 0 200 (fun _ => 0), cO 3 [eI 0, eR ((w0.length + 37))], cI 0 200 (fun _ => 0), cO 3 [eI 0, eR ((w0.length + 39))], cI 0 200 (fun _ => 0), cO 3 [eI 0, eR ((w0.length + 41))], cI 0 200 (fun _ => 0), cQ 4 3 (fun _ => none), cO 1 [eR ((w0.length + 44)), eR ((w0.length + 52)), eI 0, eI 0, eR ((w0.length + 54)), eR ((w0.length + 55)), eI 0, eI 0, eI 0, eI 0, eI 0, eI 0], cO 2 [eI 0, eR ((w0.length + 45)), eR ((w0.length + 46)), eR ((w0.length + 47)), eR ((w0.length + 48)), eR ((w0.length + 49)), eR ((w0.length + 50)), eR ((w0.length + 51)), eI 0, eI 0, eI 0, eI 0, eI 0, eI 0], cI 0 6 (fun _ => 0), cI 0 6 (fun _ => 0), cI 0 6 (fun _ => 0), cI 0 6 (fun _ => 0), cI 0 72 (fun _ => 0), cI 0 6 (fun _ => 0), cI 0 3 (fun _ => 0), cO 3 [eI 0, eR ((w0.length + 53))], cI 0 200 (fun _ => 0), cI 0 600 (fun _ => 0), cI 0 5 (fun _ => 0)] [cO 0 [eR ((w0.length + 57)), eI 0, eI 0, eI 0, eR ((w0.length + 58)), eR ((w0.length + 59)), eI 0, eI 0, eI 0, eI 0, eI 0, eI 0, eI 0], cO 4 [eI 0, eI 0, eI 0], cI 0 6 (fun _ => 0), cI 0 3 (fun _ => 0)]) ?_
  refine ww_putFA (L2 := [cO 6 [eR ((w0.length + 1)), eR ((w0.length + 42)), eR ((w0.length + 43)), eR ((w0.length + 56)), eN, eN, eN, eN], cO 5 [eR ((w0.length + 2)), eI 0, eI 0, eI ((-1)), eR ((w0.length + 3)), eR ((w0.length + 4)), eR ((w0.length + 5))], cI 0 600 (fun _ => 0), cI 0 6 (fun _ => 0), cQ 2 2 (va_up (va_up (fun _ => none) 0 (some (w0.length + 6))) 1 (some (w0.length + 14))), cQ 3 10 (va_up (va_up (va_up (va_up (va_up (va_up (va_up (va_up (va_up (va_up (fun _ => none) 0 (some (w0.length + 22))) 1 (some (w0.length + 24))) 2 (some (w0.length + 26))) 3 (some (w0.length + 28))) 4 (some (w0.length + 30))) 5 (some (w0.length + 32))) 6 (some (w0.length + 34))) 7 (some (w0.length + 36))) 8 (some (w0.length + 38))) 9 (some (w0.length + 40))), cO 2 [eI 0, eR ((w0.length + 7)), eR ((w0.length + 8)), eR ((w0.length + 9)), eR ((w0.length + 10)), eR ((w0.length + 11)), eR ((w0.length + 12)), eR ((w0.length + 13)), eI 0, eI 0, eI 0, eI 0, eI 0, eI 0], cI 0 6 (fun _ => 0), cI 0 6 (fun _ => 0), cI 0 6 (fun _ => 0), cI 0 6 (fun _ => 0), cI 0 72 (fun _ => 0), cI 0 6 (fun _ => 0), cI 0 3 (fun _ => 0), cO 2 [eI 0, eR ((w0.length + 15)), eR ((w0.length + 16)), eR ((w0.length + 17)), eR ((w0.length + 18)), eR ((w0.length + 19)), eR ((w0.length + 20)), eR ((w0.length + 21)), eI 0, eI 0, eI 0, eI 0, eI 0, eI 0], cI 0 6 (fun _ => 0), cI 0 6 (fun _ => 0), cI 0 6 (fun _ => 0), cI 0 6 (fun _ => 0), cI 0 72 (fun _ => 0), cI 0 6 (fun _ => 0), cI 0 3 (fun _ => 0), cO 3 [eI 0, eR ((w0.length + 23))], cI 0 200 (fun _ => 0), cO 3 [eI 0, eR ((w0.length + 25))], cI 0 200 (fun _ => 0), cO 3 [eI 0, eR ((w0.length + 27))], cI 0 200 (fun _ => 0), cO 3 [eI 0, eR ((w0.length + 29))], cI 0 200 (fun _ => 0), cO 3 [eI 0, eR ((w0.length + 31))], cI 0 200 (fun _ => 0), cO 3 [eI 0, eR ((w0.length + 33))], cI 0 200 (fun _ => 0), cO 3 [eI 0, eR ((w0.length + 35))], cI 0 200 (fun _ => 0), cO 3 [eI 0, eR ((w0.length + 37))], cI 0 200 (fun _ => 0), cO 3 [eI 0, eR ((w0.length + 39))], cI 0 200 (fun _ => 0), cO 3 [eI 0, eR ((w0.length + 41))], cI 0 200 (fun _ => 0), cQ 4 3 (fun _ => none), cO 1 [eR ((w0.length + 44)), eR ((w0.length + 52)), eI 0, eI 0, eR ((w0.length + 54)), eR ((w0.length + 55)), eI 0, eI 0, eI 0, eI 0, eI 0, eI 0], cO 2 [eI 0, eR ((w0.length + 45)), eR ((w0.length + 46)), eR ((w0.length + 47)), eR ((w0.length + 48)), eR ((w0.length + 49)), eR ((w0.length + 50)), eR ((w0.length + 51)), eI 0, eI 0, eI 0, eI 0, eI 0, eI 0], cI 0 6 (fun _ => 0), cI 0 6 (fun _ => 0), cI 0 6 (fun _ => 0), cI 0 6 (fun _ => 0), cI 0 72 (fun _ => 0), cI 0 6 (fun _ => 0), cI 0 3 (fun _ => 0), cO 3 [eI 0, eR ((w0.length + 53))], cI 0 200 (fun _ => 0), cI 0 600 (fun _ => 0), cI 0 5 (fun _ => 0), cO 0 [eR ((w0.length + 57)), eI 0, eI 0, eI 0, eR ((w0.length + 58)), eR ((w0.length + 59)), eI 0, eI 0, eI 0, eI 0, eI 0, eI 0, eI 0], cO 4 [eI 0, eI 0, eI 0], cI 0 6 (fun _ => 0), cI 0 3 (fun _ => 0)]) K hin dX6_init_42 lp_X6_30 (fun q h => by cases h; rfl) rfl (Nat.le_of_ble_eq_true rfl) rfl rfl rfl ?_
  refine ww_aload_n K dX6_init_45 rfl ?_
  refine ww_newA (rc := 3) (rs := 1256) (L2 := [cO 6 [eR ((w0.length + 1)), eR ((w0.length + 42)), eR ((w0.length + 43)), eR ((w0.length + 56)), eN, eN, eN, eN], cO 5 [eR ((w0.length + 2)), eI 0, eI 0, eI ((-1)), eR ((w0.length + 3)), eR ((w0.length + 4)), eR ((w0.length + 5))], cI 0 600 (fun _ => 0), cI 0 6 (fun _ => 0), cQ 2 2 (va_up (va_up (fun _ => none) 0 (some (w0.length + 6))) 1 (some (w0.length + 14))), cQ 3 10 (va_up (va_up (va_up (va_up (va_up (va_up (va_up (va_up (va_up (va_up (fun _ => none) 0 (some (w0.length + 22))) 1 (some (w0.length + 24))) 2 (some (w0.length + 26))) 3 (some (w0.length + 28))) 4 (some (w0.length + 30))) 5 (some (w0.length + 32))) 6 (some (w0.length + 34))) 7 (some (w0.length + 36))) 8 (some (w0.length + 38))) 9 (some (w0.length + 40))), cO 2 [eI 0, eR ((w0.length + 7)), eR ((w0.length + 8)), eR ((w0.length + 9)), eR ((w0.length + 10)), eR ((w0.length + 11)), eR ((w0.length + 12)), eR ((w0.length + 13)), eI 0, eI 0, eI 0, eI 0, eI 0, eI 0], cI 0 6 (fun _ => 0), cI 0 6 (fun _ => 0), cI 0 6 (fun _ => 0), cI 0 6 (fun _ => 0), cI 0 72 (fun _ => 0), cI 0 6 (fun _ => 0), cI 0 3 (fun _ => 0), cO 2 [eI 0, eR ((w0.length + 15)), eR ((w0.length + 16)), eR ((w0.length + 17)), eR ((w0.length + 18)), eR ((w0.length + 19)), eR ((w0.length + 20)), eR ((w0.length + 21)), eI 0, eI 0, eI 0, eI 0, eI 0, eI 0], cI 0 6 (fun _ => 0), cI 0 6 (fun _ => 0), cI 0 6 (fun _ => 0), cI 0 6 (fun _ => 0), cI 0 72 (fun _ => 0), cI 0 6 (fun _ => 0), cI 0 3 (fun _ => 0), cO 3 [eI 0, eR ((w0.length + 23))], cI 0 200 (fun _ => 0), cO 3 [eI 0, eR ((w0.length + 25))], cI 0 200 (fun _ => 0), cO 3 [eI 0, eR ((w0.length + 27))], cI 0 200 (fun _ => 0), cO 3 [eI 0, eR ((w0.length + 29))], cI 0 200 (fun _ => 0), cO 3 [eI 0, eR ((w0.length + 31))], cI 0 200 (fun _ => 0), cO 3 [eI 0, eR ((w0.length + 33))], cI 0 200 (fun _ => 0), cO 3 [eI 0, eR ((w0.length + 35))], cI 0 200 (fun _ => 0), cO 3 [eI 0, eR ((w0.length + 37))], cI 0 200 (fun _ => 0), cO 3 [eI 0, eR ((w0.length + 39))], cI 0 200 (fun _ => 0), cO 3 [eI 0, eR ((w0.length + 41))], cI 0 200 (fun _ => 0), cQ 4 3 (fun _ => none), cO 1 [eR ((w0.length + 44)), eR ((w0.length + 52)), eI 0, eI 0, eR ((w0.length + 54)), eR ((w0.length + 55)), eI 0, eI 0, eI 0, eI 0, eI 0, eI 0], cO 2 [eI 0, eR ((w0.length + 45)), eR ((w0.length + 46)), eR ((w0.length + 47)), eR ((w0.length + 48)), eR ((w0.length + 49)), eR ((w0.length + 50)), eR ((w0.length + 51)), eI 0, eI 0, eI 0, eI 0, eI 0, eI 0], cI 0 6 (fun _ => 0), cI 0 6 (fun _ => 0), cI 0 6 (fun _ => 0), cI 0 6 (fun _ => 0), cI 0 72 (fun _ => 0), cI 0 6 (fun _ => 0), cI 0 3 (fun _ => 0), cO 3 [eI 0, eR ((w0.length + 53))], cI 0 200 (fun _ => 0), cI 0 600 (fun _ => 0), cI 0 5 (fun _ => 0), cO 0 [eR ((w0.length + 57)), eI 0, eI 0, eI 0, eR ((w0.length + 58)), eR ((w0.length + 59)), eI 0, eI 0, eI 0, eI 0, eI 0, eI 0, eI 0], cO 4 [eI 0, eI 0, eI 0], cI 0 6 (fun _ => 0), cI 0 3 (fun _ => 0), cO 4 [eI 0, eI 0, eI 0]]) K dX6_init_46 ln_X6_34 rfl rfl ?_
  refine ww_dup K dX6_init_49 trivial ?_
  refine WW_w (w2 := (w0 ++ [cO 6 [eR ((w0.length + 1)), eR ((w0.length + 42)), eR ((w0.length + 43)), eR ((w0.length + 56)), eN, eN, eN, eN], cO 5 [eR ((w0.length + 2)), eI 0, eI 0, eI ((-1)), eR ((w0.length + 3)), eR ((w0.length + 4)), eR ((w0.length + 5))], cI 0 600 (fun _ => 0), cI 0 6 (fun _ => 0), cQ 2 2 (va_up (va_up (fun _ => none) 0 (some (w0.length + 6))) 1 (some (w0.length + 14))), cQ 3 10 (va_up (va_up (va_up (va_up (va_up (va_up (va_up (va_up (va_up (va_up (fun _ => none) 0 (some (w0.length + 22))) 1 (some (w0.length + 24))) 2 (some (w0.length + 26))) 3 (some (w0.length + 28))) 4 (some (w0.length + 30))) 5 (some (w0.length + 32))) 6 (some (w0.length + 34))) 7 (some (w0.length + 36))) 8 (some (w0.length + 38))) 9 (some (w0.length + 40))), cO 2 [eI 0, eR ((w0.length + 7)), eR ((w0.length + 8)), eR ((w0.length + 9)), eR ((w0.length + 10)), eR ((w0.length + 11)), eR ((w0.length + 12)), eR ((w0.length + 13)), eI 0, eI 0, eI 0, eI 0, eI 0, eI 0], cI 0 6 (fun _ => 0), cI 0 6 (fun _ => 0), cI 0 6 (fun _ => 0), cI 0 6 (fun _ => 0), cI 0 72 (fun _ => 0), cI 0 6 (fun _ => 0), cI 0 3 (fun _ => 0), cO 2 [eI 0, eR ((w0.length + 15)), eR ((w0.length + 16)), eR ((w0.length + 17)), eR ((w0.length + 18)), eR ((w0.length + 19)), eR ((w0.length + 20)), eR ((w0.length + 21)), eI 0, eI 0, eI 0, eI 0, eI 0, eI 0], cI 0 6 (fun _ => 0), cI 0 6 (fun _ => 0), cI 0 6 (fun _ => 0), cI 0 6 (fun _ => 0), cI 0 72 (fun _ => 0), cI 0 6 (fun _ => 0), cI 0 3 (fun _ => 0), cO 3 [eI 0, eR ((w0.length + 23))], cI 0 200 (fun _ => 0), cO 3 [eI 0, eR ((w0.length + 25))], cI 0 200 (fun _ => 0), cO 3 [eI 0, eR ((w0.length + 27))], cI 0 200 (fun _ => 0), cO 3 [eI 0, eR ((w0.length + 29))], cI 0 200 (fun _ => 0), cO 3 [eI 0, eR ((w0.length + 31))], cI 0 200 (fun _ => 0), cO 3 [eI 0, eR ((w0.length + 33))], cI 0 200 (fun _ => 0), cO 3 [eI 0, eR ((w0.length + 35))], cI 0 200 (fun _ => 0), cO 3 [eI 0, eR ((w0.length + 37))], cI 0 200 (fun _ => 0), cO 3 [eI 0, eR ((w0.length + 39))], cI 0 200 (fun _ => 0), cO 3 [eI 0, eR ((w0.length + 41))], cI 0 200 (fun _ => 0), cQ 4 3 (fun _ => none), cO 1 [eR ((w0.length + 44)), eR ((w0.length + 52)), eI 0, eI 0, eR ((w0.length + 54)), eR ((w0.length + 55)), eI 0, eI 0, eI 0, eI 0, eI 0, eI 0], cO 2 [eI 0, eR ((w0.length + 45)), eR ((w0.length + 46)), eR ((w0.length + 47)), eR ((w0.length + 48)), eR ((w0.length + 49)), eR ((w0.length + 50)), eR ((w0.length + 51)), eI 0, eI 0, eI 0, eI 0, eI 0, eI 0], cI 0 6 (fun _ => 0), cI 0 6 (fun _ => 0), cI 0 6 (fun _ => 0), cI 0 6 (fun _ => 0), cI 0 72 (fun _ => 0), cI 0 6 (fun _ => 0), cI 0 3 (fun _ => 0), cO 3 [eI 0, eR ((w0.length + 53))], cI 0 200 (fun _ => 0), cI 0 600 (fun _ => 0), cI 0 5 (fun _ => 0), cO 0 [eR ((w0.length + 57)), eI 0, eI 0, eI 0, eR ((w0.length + 58)), eR ((w0.length + 59)), eI 0, eI 0, eI 0, eI 0, eI 0, eI 0, eI 0], cO 4 [eI 0, eI 0, eI 0], cI 0 6 (fun _ => 0), cI 0 3 (fun _ => 0)]) ++ [cO 4 [eI 0, eI 0, eI 0]]) ((wc_assoc w0 [cO 6 [eR ((w0.length + 1)), eR ((w0.length + 42)), eR ((w0.length + 43)), eR ((w0.length + 56)), eN, eN, eN, eN], cO 5 [eR ((w0.length + 2)), eI 0, eI 0, eI ((-1)), eR ((w0.length + 3)), eR ((w0.length + 4)), eR ((w0.length + 5))], cI 0 600 (fun _ => 0), cI 0 6 (fun _ => 0), cQ 2 2 (va_up (va_up (fun _ => none) 0 (some (w0.length + 6))) 1 (some (w0.length + 14))), cQ 3 10 (va_up (va_up (va_up (va_up (va_up (va_up (va_up (va_up (va_up (va_up (fun _ => none) 0 (some (w0.length + 22))) 1 (some (w0.length + 24))) 2 (some (w0.length + 26))) 3 (some (w0.length + 28))) 4 (some (w0.length + 30))) 5 (some (w0.length + 32))) 6 (some (w0.length + 34))) 7 (some (w0.length + 36))) 8 (some (w0.length + 38))) 9 (some (w0.length + 40))), cO 2 [eI 0, eR ((w0.length + 7)), eR ((w0.length + 8)), eR ((w0.length + 9)), eR ((w0.length + 10)), eR ((w0.length + 11)), eR ((w0.length + 12)), eR ((w0.length + 13)), eI 0, eI 0, eI 0, eI 0, eI 0, eI 0], cI 0 6 (fun _ => 0), cI 0 6 (fun _ => 0), cI 0 6 (fun _ => 0), cI 0 6 (fun _ => 0), cI 0 72 (fun _ => 0), cI 0 6 (fun _ => 0), cI 0 3 (fun _ => 0), cO 2 [eI 0, eR ((w0.length + 15)), eR ((w0.length + 16)), eR ((w0.length + 17)), eR ((w0.length + 18)), eR ((w0.length + 19)), eR ((w0.length + 20)), eR ((w0.length + 21)), eI 0, eI 0, eI 0, eI 0, eI 0, eI 0], cI 0 6 (fun _ => 0), cI 0 6 (fun _ => 0), cI 0 6 (fun _ => 0), cI 0 6 (fun _ => 0), cI 0 72 (fun _ => 0), cI 0 6 (fun _ => 0), cI 0 3 (fun _ => 0), cO 3 [eI 0, eR ((w0.length + 23))], cI 0 200 (fun _ => 0), cO 3 [eI 0, eR ((w0.length + 25))], cI 0 200 (fun _ => 0), cO 3 [eI 0, eR ((w0.length + 27))], cI 0 200 (fun _ => 0), cO 3 [eI 0, eR ((w0.length + 29))], cI 0 200 (fun _ => 0), cO 3 [eI 0, eR ((w0.length + 31))], cI 0 200 (fun _ => 0), cO 3 [eI 0, eR ((w0.length + 33))], cI 0 200 (fun _ => 0), cO 3 [eI 0, eR ((w0.length + 35))], cI 0 200 (fun _ => 0), cO 3 [eI 0, eR ((w0.length + 37))], cI 0 200 (fun _ => 0), cO 3 [eI 0, eR ((w0.length + 39))], cI 0 200 (fun _ => 0), cO 3 [eI 0, eR ((w0.length + 41))], cI 0 200 (fun _ => 0), cQ 4 3 (fun _ => none), cO 1 [eR ((w0.length + 44)), eR ((w0.length + 52)), eI 0, eI 0, eR ((w0.length + 54)), eR ((w0.length + 55)), eI 0, eI 0, eI 0, eI 0, eI 0, eI 0], cO 2 [eI 0, eR ((w0.length + 45)), eR ((w0.length + 46)), eR ((w0.length + 47)), eR ((w0.length + 48)), eR ((w0.length + 49)), eR ((w0.length + 50)), eR ((w0.length + 51)), eI 0, eI 0, eI 0, eI 0, eI 0, eI 0], cI 0 6 (fun _ => 0), cI 0 6 (fun _ => 0), cI 0 6 (fun _ => 0), cI 0 6 (fun _ => 0), cI 0 72 (fun _ => 0), cI 0 6 (fun _ => 0), cI 0 3 (fun _ => 0), cO 3 [eI 0, eR ((w0.length + 53))], cI 0 200 (fun _ => 0), cI 0 600 (fun _ => 0), cI 0 5 (fun _ => 0), cO 0 [eR ((w0.length + 57)), eI 0, eI 0, eI 0, eR ((w0.length + 58)), eR ((w0.length + 59)), eI 0, eI 0, eI 0, eI 0, eI 0, eI 0, eI 0], cO 4 [eI 0, eI 0, eI 0], cI 0 6 (fun _ => 0), cI 0 3 (fun _ => 0)] [cO 4 [eI 0, eI 0, eI 0]]).symm) ?_
  refine ww_callIN (rc := 3) (rs := 1256) K dX6_init_50 lc_X6_36 (ct_X4_init G l (w0 := w0 ++ [cO 6 [eR ((w0.length + 1)), eR ((w0.length + 42)), eR ((w0.length + 43)), eR ((w0.length + 56)), eN, eN, eN, eN], cO 5 [eR ((w0.length + 2)), eI 0, eI 0, eI ((-1)), eR ((w0.length + 3)), eR ((w0.length + 4)), eR ((w0.length + 5))], cI 0 600 (fun _ => 0), cI 0 6 (fun _ => 0), cQ 2 2 (va_up (va_up (fun _ => none) 0 (some (w0.length + 6))) 1 (some (w0.length + 14))), cQ 3 10 (va_up (va_up (va_up (va_up (va_up (va_up (va_up (va_up (va_up (va_up (fun _ => none) 0 (some (w0.length + 22))) 1 (some (w0.length + 24))) 2 (some (w0.length + 26))) 3 (some (w0.length + 28))) 4 (some (w0.length + 30))) 5 (some (w0.length + 32))) 6 (some (w0.length + 34))) 7 (some (w0.length + 36))) 8 (some (w0.length + 38))) 9 (some (w0.length + 40))), cO 2 [eI 0, eR ((w0.length + 7)), eR ((w0.length + 8)), eR ((w0.length + 9)), eR ((w0.length + 10)), eR ((w0.length + 11)), eR ((w0.length + 12)), eR ((w0.length + 13)), eI 0, eI 0, eI 0, eI 0, eI 0, eI 0], cI 0 6 (fun _ => 0), cI 0 6 (fun _ => 0), cI 0 6 (fun _ => 0), cI 0 6 (fun _ => 0), cI 0 72 (fun _ => 0), cI 0 6 (fun _ => 0), cI 0 3 (fun _ => 0), cO 2 [eI 0, eR ((w0.length + 15)), eR ((w0.length + 16)), eR ((w0.length + 17)), eR ((w0.length + 18)), eR ((w0.length + 19)), eR ((w0.length + 20)), eR ((w0.length + 21)), eI 0, eI 0, eI 0, eI 0, eI 0, eI 0], cI 0 6 (fun _ => 0), cI 0 6 (fun _ => 0), cI 0 6 (fun _ => 0), cI 0 6 (fun _ => 0), cI 0 72 (fun _ => 0), cI 0 6 (fun _ => 0), cI 0 3 (fun _ => 0), cO 3 [eI 0, eR ((w0.length + 23))], cI 0 200 (fun _ => 0), cO 3 [eI 0, eR ((w0.length + 25))], cI 0 200 (fun _ => 0), cO 3 [eI 0, eR ((w0.length + 27))], cI 0 200 (fun _ => 0), cO 3 [eI 0, eR ((w0.length + 29))], cI 0 200 (fun _ => 0), cO 3 [eI 0, eR ((w0.length + 31))], cI 0 200 (fun _ => 0), cO 3 [eI 0, eR ((w0.length + 33))], cI 0 200 (fun _ => 0), cO 3 [eI 0, eR ((w0.length + 35))], cI 0 200 (fun _ => 0), cO 3 [eI 0, eR ((w0.length + 37))], cI 0 200 (fun _ => 0), cO 3 [eI 0, eR ((w0.length + 39))], cI 0 200 (fun _ => 0), cO 3 [eI 0, eR ((w0.length + 41))], cI 0 200 (fun _ => 0), cQ 4 3 (fun _ => none), cO 1 [eR ((w0.length + 44)), eR ((w0.length + 52)), eI 0, eI 0, eR ((w0.length + 54)), eR ((w0.length + 55)), eI 0, eI 0, eI 0, eI 0, eI 0, eI 0], cO 2 [eI 0, eR ((w0.length + 45)), eR ((w0.length + 46)), eR ((w0.length + 47)), eR ((w0.length + 48)), eR ((w0.length + 49)), eR ((w0.length + 50)), eR ((w0.length + 51)), eI 0, eI 0, eI 0, eI 0, eI 0, eI 0], cI 0 6 (fun _ => 0), cI 0 6 (fun _ => 0), cI 0 6 (fun _ => 0), cI 0 6 (fun _ => 0), cI 0 72 (fun _ => 0), cI 0 6 (fun _ => 0), cI 0 3 (fun _ => 0), cO 3 [eI 0, eR ((w0.length + 53))], cI 0 200 (fun _ => 0), cI 0 600 (fun _ => 0), cI 0 5 (fun _ => 0), cO 0 [eR ((w0.length + 57)), eI 0, eI 0, eI 0, eR ((w0.length + 58)), eR ((w0.length + 59)), eI 0, eI 0, eI 0, eI 0, eI 0, eI 0, eI 0], cO 4 [eI 0, eI 0, eI 0], cI 0 6 (fun _ => 0), cI 0 3 (fun _ => 0)]) (n := w0.length + 60) (List.length_append)) rfl ⟨Nat.le_of_ble_eq_true rfl, Nat.le_of_ble_eq_true rfl⟩ (Nat.le_of_ble_eq_true rfl) (fun r w2 hq _ _ => ?_)
  obtain ⟨rfl, rfl⟩ := hq
  refine WW_w (w2 := w0 ++ [cO 6 [eR ((w0.length + 1)), eR ((w0.length + 42)), eR ((w0.length + 43)), eR ((w0.length + 56)), eN, eN, eN, eN], cO 5 [eR ((w0.length + 2)), eI 0, eI 0, eI ((-1)), eR ((w0.length + 3)), eR ((w0.length + 4)), eR ((w0.length + 5))], cI 0 600 (fun _ => 0), cI 0 6 (fun _ => 0), cQ 2 2 (va_up (va_up (fun _ => none) 0 (some (w0.length + 6))) 1 (some (w0.length + 14))), cQ 3 10 (va_up (va_up (va_up (va_up (va_up (va_up (va_up (va_up (va_up (va_up (fun _ => none) 0 (some (w0.length + 22))) 1 (some (w0.length + 24))) 2 (some (w0.length + 26))) 3 (some (w0.length + 28))) 4 (some (w0.length + 30))) 5 (some (w0.length + 32))) 6 (some (w0.length + 34))) 7 (some (w0.length + 36))) 8 (some (w0.length + 38))) 9 (some (w0.length + 40))), cO 2 [eI 0, eR ((w0.length + 7)), eR ((w0.length + 8)), eR ((w0.length + 9)), eR ((w0.length + 10)), eR ((w0.length + 11)), eR ((w0.length + 12)), eR ((w0.length + 13)), eI 0, eI 0, eI 0, eI 0, eI 0, eI 0], cI 0 6 (fun _ => 0), cI 0 6 (fun _ => 0), cI 0 6 (fun _ => 0), cI 0 6 (fun _ => 0), cI 0 72 (fun _ => 0), cI 0 6 (fun _ => 0), cI 0 3 (fun _ => 0), cO 2 [eI 0, eR ((w0.length + 15)), eR ((w0.length + 16)), eR ((w0.length + 17)), eR ((w0.length + 18)), eR ((w0.length + 19)), eR ((w0.length + 20)), eR ((w0.length + 21)), eI 0, eI 0, eI 0, eI 0, eI 0, eI 0], cI 0 6 (fun _ => 0), cI 0 6 (fun _ => 0), cI 0 6 (fun _ => 0), cI 0 6 (fun _ => 0), cI 0 72 (fun _ => 0), cI 0 6 (fun _ => 0), cI 0 3 (fun _ => 0), cO 3 [eI 0, eR ((w0.length + 23))], cI 0 200 (fun _ => 0), cO 3 [eI 0, eR ((w0.length + 25))], cI 0 200 (fun _ => 0), cO 3 [eI 0, eR ((w0.length + 27))], cI 0 200 (fun _ => 0), cO 3 [eI 0, eR ((w0.length + 29))], cI 0 200 (fun _ => 0), cO 3 [eI 0, eR ((w0.length + 31))], cI 0 200 (fun _ => 0), cO 3 [eI 0, eR ((w0.length + 33))], cI 0 200 (fun _ => 0), cO 3 [eI 0, eR ((w0.length + 35))], cI 0 200 (fun _ => 0), cO 3 [eI 0, eR ((w0.length + 37))], cI 0 200 (fun _ => 0), cO 3 [eI 0, eR ((w0.length + 39))], cI 0 200 (fun _ => 0), cO 3 [eI 0, eR ((w0.length + 41))], cI 0 200 (fun _ => 0), cQ 4 3 (fun _ => none), cO 1 [eR ((w0.length + 44)), eR ((w0.length + 52)), eI 0, eI 0, eR ((w0.length + 54)), eR ((w0.length + 55)), eI 0, eI 0, eI 0, eI 0, eI 0, eI 0], cO 2 [eI 0, eR ((w0.length + 45)), eR ((w0.length + 46)), eR ((w0.length + 47)), eR ((w0.length + 48)), eR ((w0.length + 49)), eR ((w0.length + 50)), eR ((w0.length + 51)), eI 0, eI 0, eI 0, eI 0, eI 0, eI 0], cI 0 6 (fun _ => 0), cI 0 6 (fun _ => 0), cI 0 6 (fun _ => 0), cI 0 6 (fun _ => 0), cI 0 72 (fun _ => 0), cI 0 6 (fun _ => 0), cI 0 3 (fun _ => 0), cO 3 [eI 0, eR ((w0.length + 53))], cI 0 200 (fun _ => 0), cI 0 600 (fun _ => 0), cI 0 5 (fun _ => 0), cO 0 [eR ((w0.length + 57)), eI 0, eI 0, eI 0, eR ((w0.length + 58)), eR ((w0.length + 59)), eI 0, eI 0, eI 0, eI 0, eI 0, eI 0, eI 0], cO 4 [eI 0, eI 0, eI 0], cI 0 6 (fun _ => 0), cI 0 3 (fun _ => 0), cO 4 [eI 0, eI 0, eI 0]]) (wc_assoc w0 [cO 6 [eR ((w0.length + 1)), eR ((w0.length + 42)), eR ((w0.length + 43)), eR ((w0.length + 56)), eN, eN, eN, eN], cO 5 [eR ((w0.length + 2)), eI 0, eI 0, eI ((-1)), eR ((w0.length + 3)), eR ((w0.length + 4)), eR ((w0.length + 5))], cI 0 600 (fun _ => 0), cI 0 6 (fun _ => 0), cQ 2 2 (va_up (va_up (fun _ => none) 0 (some (w0.length + 6))) 1 (some (w0.length + 14))), cQ 3 10 (va_up (va_up (va_up (va_up (va_up (va_up (va_up (va_up (va_up (va_up (fun _ => none) 0 (some (w0.length + 22))) 1 (some (w0.length + 24))) 2 (some (w0.length + 26))) 3 (some (w0.length + 28))) 4 (some (w0.length + 30))) 5 (some (w0.length + 32))) 6 (some (w0.length + 34))) 7 (some (w0.length + 36))) 8 (some (w0.length + 38))) 9 (some (w0.length + 40))), cO 2 [eI 0, eR ((w0.length + 7)), eR ((w0.length + 8)), eR ((w0.length + 9)), eR ((w0.length + 10)), eR ((w0.length + 11)), eR ((w0.length + 12)), eR ((w0.length + 13)), eI 0, eI 0, eI 0, eI 0, eI 0, eI 0], cI 0 6 (fun _ => 0), cI 0 6 (fun _ => 0), cI 0 6 (fun _ => 0), cI 0 6 (fun _ => 0), cI 0 72 (fun _ => 0), cI 0 6 (fun _ => 0), cI 0 3 (fun _ => 0), cO 2 [eI 0, eR ((w0.length + 15)), eR ((w0.length + 16)), eR ((w0.length + 17)), eR ((w0.length + 18)), eR ((w0.length + 19)), eR ((w0.length + 20)), eR ((w0.length + 21)), eI 0, eI 0, eI 0, eI 0, eI 0, eI 0], cI 0 6 (fun _ => 0), cI 0 6 (fun _ => 0), cI 0 6 (fun _ => 0), cI 0 6 (fun _ => 0), cI 0 72 (fun _ => 0), cI 0 6 (fun _ => 0), cI 0 3 (fun _ => 0), cO 3 [eI 0, eR ((w0.length + 23))], cI 0 200 (fun _ => 0), cO 3 [eI 0, eR ((w0.length + 25))], cI 0 200 (fun _ => 0), cO 3 [eI 0, eR ((w0.length + 27))], cI 0 200 (fun _ => 0), cO 3 [eI 0, eR ((w0.length + 29))], cI 0 200 (fun _ => 0), cO 3 [eI 0, eR ((w0.length + 31))], cI 0 200 (fun _ => 0), cO 3 [eI 0, eR ((w0.length + 33))], cI 0 200 (fun _ => 0), cO 3 [eI 0, eR ((w0.length + 35))], cI 0 200 (fun _ => 0), cO 3 [eI 0, eR ((w0.length + 37))], cI 0 200 (fun _ => 0), cO 3 [eI 0, eR ((w0.length + 39))], cI 0 200 (fun _ => 0), cO 3 [eI 0, eR ((w0.length + 41))], cI 0 200 (fun _ => 0), cQ 4 3 (fun _ => none), cO 1 [eR ((w0.length + 44)), eR ((w0.length + 52)), eI 0, eI 0, eR ((w0.length + 54)), eR ((w0.length + 55)), eI 0, eI 0, eI 0, eI 0, eI 0, eI 0], cO 2 [eI 0, eR ((w0.length + 45)), eR ((w0.length + 46)), eR ((w0.length + 47)), eR ((w0.length + 48)), eR ((w0.length + 49)), eR ((w0.length + 50)), eR ((w0.length + 51)), eI 0, eI 0, eI 0, eI 0, eI 0, eI 0], cI 0 6 (fun _ => 0), cI 0 6 (fun _ => 0), cI 0 6 (fun _ => 0), cI 0 6 (fun _ => 0), cI 0 72 (fun _ => 0), cI 0 6 (fun _ => 0), cI 0 3 (fun _ => 0), cO 3 [eI 0, eR ((w0.length + 53))], cI 0 200 (fun _ => 0), cI 0 600 (fun _ => 0), cI 0 5 (fun _ => 0), cO 0 [eR ((w0.length + 57)), eI 0, eI 0, eI 0, eR ((w0.length + 58)), eR ((w0.length + 59)), eI 0, eI 0, eI 0, eI 0, eI 0, eI 0, eI 0], cO 4 [eI 0, eI 0, eI 0], cI 0 6 (fun _ => 0), cI 0 3 (fun _ => 0)] [cO 4 [eI 0, eI 0, eI 0]]) ?_
  refine ww_putFA (L2 := [cO 6 [eR ((w0.length + 1)), eR ((w0.length + 42)), eR ((w0.length + 43)), eR ((w0.length + 56)), eR ((w0.length + 60)), eN, eN, eN], cO 5 [eR ((w0.length + 2)), eI 0, eI 0, eI ((-1)), eR ((w0.length + 3)), eR ((w0.length + 4)), eR ((w0.length + 5))], cI 0 600 (fun _ => 0), cI 0 6 (fun _ => 0), cQ 2 2 (va_up (va_up (fun _ => none) 0 (some (w0.length + 6))) 1 (some (w0.length + 14))), cQ 3 10 (va_up (va_up (va_up (va_up (va_up (va_up (va_up (va_up (va_up (va_up (fun _ => none) 0 (some (w0.length + 22))) 1 (some (w0.length + 24))) 2 (some (w0.length + 26))) 3 (some (w0.length + 28))) 4 (some (w0.length + 30))) 5 (some (w0.length + 32))) 6 (some (w0.length + 34))) 7 (some (w0.length + 36))) 8 (some (w0.length + 38))) 9 (some (w0.length + 40))), cO 2 [eI 0, eR ((w0.length + 7)), eR ((w0.length + 8)), eR ((w0.length + 9)), eR ((w0.length + 10)), eR ((w0.length + 11)), eR ((w0.length + 12)), eR ((w0.length + 13)), eI 0, eI 0, eI 0, eI 0, eI 0, eI 0], cI 0 6 (fun _ => 0), cI 0 6 (fun _ => 0), cI 0 6 (fun _ => 0), cI 0 6 (fun _ => 0), cI 0 72 (fun _ => 0), cI 0 6 (fun _ => 0), cI 0 3 (fun _ => 0), cO 2 [eI 0, eR ((w0.length + 15)), eR ((w0.length + 16)), eR ((w0.length + 17)), eR ((w0.length + 18)), eR ((w0.length + 19)), eR ((w0.length + 20)), eR ((w0.length + 21)), eI 0, eI 0, eI 0, eI 0, eI 0, eI 0], cI 0 6 (fun _ => 0), cI 0 6 (fun _ => 0), cI 0 6 (fun _ => 0), cI 0 6 (fun _ => 0), cI 0 72 (fun _ => 0), cI 0 6 (fun _ => 0), cI 0 3 (fun _ => 0), cO 3 [eI 0, eR ((w0.length + 23))], cI 0 200 (fun _ => 0), cO 3 [eI 0, eR ((w0.length + 25))], cI 0 200 (fun _ => 0), cO 3 [eI 0, eR ((w0.length + 27))], cI 0 200 (fun _ => 0), cO 3 [eI 0, eR ((w0.length + 29))], cI 0 200 (fun _ => 0), cO 3 [eI 0, eR ((w0.length + 31))], cI 0 200 (fun _ => 0), cO 3 [eI 0, eR ((w0.length + 33))], cI 0 200 (fun _ => 0), cO 3 [eI 0, eR ((w0.length + 35))], cI 0 200 (fun _ => 0), cO 3 [eI 0, eR ((w0.length + 37))], cI 0 200 (fun _ => 0), cO 3 [eI 0, eR ((w0.length + 39))], cI 0 200 (fun _ => 0), cO 3 [eI 0, eR ((w0.length + 41))], cI 0 200 (fun _ => 0), cQ 4 3 (fun _ => none), cO 1 [eR ((w0.length + 44)), eR ((w0.length + 52)), eI 0, eI 0, eR ((w0.length + 54)), eR ((w0.length + 55)), eI 0, eI 0, eI 0, eI 0, eI 0, eI 0], cO 2 [eI 0, eR ((w0.length + 45)), eR ((w0.length + 46)), eR ((w0.length + 47)), eR ((w0.length + 48)), eR ((w0.length + 49)), eR ((w0.length + 50)), eR ((w0.length + 51)), eI 0, eI 0, eI 0, eI 0, eI 0, eI 0], cI 0 6 (fun _ => 0), cI 0 6 (fun _ => 0), cI 0 6 (fun _ => 0), cI 0 6 (fun _ => 0), cI 0 72 (fun _ => 0), cI 0 6 (fun _ => 0), cI 0 3 (fun _ => 0), cO 3 [eI 0, eR ((w0.length + 53))], cI 0 200 (fun _ => 0), cI 0 600 (fun _ => 0), cI 0 5 (fun _ => 0), cO 0 [eR ((w0.length + 57)), eI 0, eI 0, eI 0, eR ((w0.length + 58)), eR ((w0.length + 59)), eI 0, eI 0, eI 0, eI 0, eI 0, eI 0, eI 0], cO 4 [eI 0, eI 0, eI 0], cI 0 6 (fun _ => 0), cI 0 3 (fun _ => 0), cO 4 [eI 0, eI 0, eI 0]]) K hin dX6_init_53 lp_X6_37 (fun q h => by cases h; rfl) rfl (Nat.le_of_ble_eq_true rfl) rfl rfl rfl ?_
  refine ww_aload_n K dX6_init_56 rfl ?_
  refine ww_bipush (v := 40) K dX6_init_57 rfl ?_
  refine ww_newIA (N := 40) (rc := 2) (rs := 1216) (L2 := [cO 6 [eR ((w0.length + 1)), eR ((w0.length + 42)), eR ((w0.length + 43)), eR ((w0.length + 56)), eR ((w0.length + 60)), eN, eN, eN], cO 5 [eR ((w0.length + 2)), eI 0, eI 0, eI ((-1)), eR ((w0.length + 3)), eR ((w0.length + 4)), eR ((w0.length + 5))], cI 0 600 (fun _ => 0), cI 0 6 (fun _ => 0), cQ 2 2 (va_up (va_up (fun _ => none) 0 (some (w0.length + 6))) 1 (some (w0.length + 14))), cQ 3 10 (va_up (va_up (va_up (va_up (va_up (va_up (va_up (va_up (va_up (va_up (fun _ => none) 0 (some (w0.length + 22))) 1 (some (w0.length + 24))) 2 (some (w0.length + 26))) 3 (some (w0.length + 28))) 4 (some (w0.length + 30))) 5 (some (w0.length + 32))) 6 (some (w0.length + 34))) 7 (some (w0.length + 36))) 8 (some (w0.length + 38))) 9 (some (w0.length + 40))), cO 2 [eI 0, eR ((w0.length + 7)), eR ((w0.length + 8)), eR ((w0.length + 9)), eR ((w0.length + 10)), eR ((w0.length + 11)), eR ((w0.length + 12)), eR ((w0.length + 13)), eI 0, eI 0, eI 0, eI 0, eI 0, eI 0], cI 0 6 (fun _ => 0), cI 0 6 (fun _ => 0), cI 0 6 (fun _ => 0), cI 0 6 (fun _ => 0), cI 0 72 (fun _ => 0), cI 0 6 (fun _ => 0), cI 0 3 (fun _ => 0), cO 2 [eI 0, eR ((w0.length + 15)), eR ((w0.length + 16)), eR ((w0.length + 17)), eR ((w0.length + 18)), eR ((w0.length + 19)), eR ((w0.length + 20)), eR ((w0.length + 21)), eI 0, eI 0, eI 0, eI 0, eI 0, eI 0], cI 0 6 (fun _ => 0), cI 0 6 (fun _ => 0), cI 0 6 (fun _ => 0), cI 0 6 (fun _ => 0), cI 0 72 (fun _ => 0), cI 0 6 (fun _ => 0), cI 0 3 (fun _ => 0), cO 3 [eI 0, eR ((w0.length + 23))], cI 0 200 (fun _ => 0), cO 3 [eI 0, eR ((w0.length + 25))], cI 0 200 (fun _ => 0), cO 3 [eI 0, eR ((w0.length + 27))], cI 0 200 (fun _ => 0), cO 3 [eI 0, eR ((w0.length + 29))], cI 0 200 (fun _ => 0), cO 3 [eI 0, eR ((w0.length + 31))], cI 0 200 (fun _ => 0), cO 3 [eI 0, eR ((w0.length + 33))], cI 0 200 (fun _ => 0), cO 3 [eI 0, eR ((w0.length + 35))], cI 0 200 (fun _ => 0), cO 3 [eI 0, eR ((w0.length + 37))], cI 0 200 (fun _ => 0), cO 3 [eI 0, eR ((w0.length + 39))], cI 0 200 (fun _ => 0), cO 3 [eI 0, eR ((w0.length + 41))], cI 0 200 (fun _ => 0), cQ 4 3 (fun _ => none), cO 1 [eR ((w0.length + 44)), eR ((w0.length + 52)), eI 0, eI 0, eR ((w0.length + 54)), eR ((w0.length + 55)), eI 0, eI 0, eI 0, eI 0, eI 0, eI 0], cO 2 [eI 0, eR ((w0.length + 45)), eR ((w0.length + 46)), eR ((w0.length + 47)), eR ((w0.length + 48)), eR ((w0.length + 49)), eR ((w0.length + 50)), eR ((w0.length + 51)), eI 0, eI 0, eI 0, eI 0, eI 0, eI 0], cI 0 6 (fun _ => 0), cI 0 6 (fun _ => 0), cI 0 6 (fun _ => 0), cI 0 6 (fun _ => 0), cI 0 72 (fun _ => 0), cI 0 6 (fun _ => 0), cI 0 3 (fun _ => 0), cO 3 [eI 0, eR ((w0.length + 53))], cI 0 200 (fun _ => 0), cI 0 600 (fun _ => 0), cI 0 5 (fun _ => 0), cO 0 [eR ((w0.length + 57)), eI 0, eI 0, eI 0, eR ((w0.length + 58)), eR ((w0.length + 59)), eI 0, eI 0, eI 0, eI 0, eI 0, eI 0, eI 0], cO 4 [eI 0, eI 0, eI 0], cI 0 6 (fun _ => 0), cI 0 3 (fun _ => 0), cO 4 [eI 0, eI 0, eI 0], cI 0 40 (fun _ => 0)]) K dX6_init_59 la_int (by decide) rfl (by decide) rfl rfl ?_
  refine ww_putFA (L2 := [cO 6 [eR ((w0.length + 1)), eR ((w0.length + 42)), eR ((w0.length + 43)), eR ((w0.length + 56)), eR ((w0.length + 60)), eR ((w0.length + 61)), eN, eN], cO 5 [eR ((w0.length + 2)), eI 0, eI 0, eI ((-1)), eR ((w0.length + 3)), eR ((w0.length + 4)), eR ((w0.length + 5))], cI 0 600 (fun _ => 0), cI 0 6 (fun _ => 0), cQ 2 2 (va_up (va_up (fun _ => none) 0 (some (w0.length + 6))) 1 (some (w0.length + 14))), cQ 3 10 (va_up (va_up (va_up (va_up (va_up (va_up (va_up (va_up (va_up (va_up (fun _ => none) 0 (some (w0.length + 22))) 1 (some (w0.length + 24))) 2 (some (w0.length + 26))) 3 (some (w0.length + 28))) 4 (some (w0.length + 30))) 5 (some (w0.length + 32))) 6 (some (w0.length + 34))) 7 (some (w0.length + 36))) 8 (some (w0.length + 38))) 9 (some (w0.length + 40))), cO 2 [eI 0, eR ((w0.length + 7)), eR ((w0.length + 8)), eR ((w0.length + 9)), eR ((w0.length + 10)), eR ((w0.length + 11)), eR ((w0.length + 12)), eR ((w0.length + 13)), eI 0, eI 0, eI 0, eI 0, eI 0, eI 0], cI 0 6 (fun _ => 0), cI 0 6 (fun _ => 0), cI 0 6 (fun _ => 0), cI 0 6 (fun _ => 0), cI 0 72 (fun _ => 0), cI 0 6 (fun _ => 0), cI 0 3 (fun _ => 0), cO 2 [eI 0, eR ((w0.length + 15)), eR ((w0.length + 16)), eR ((w0.length + 17)), eR ((w0.length + 18)), eR ((w0.length + 19)), eR ((w0.length + 20)), eR ((w0.length + 21)), eI 0, eI 0, eI 0, eI 0, eI 0, eI 0], cI 0 6 (fun _ => 0), cI 0 6 (fun _ => 0), cI 0 6 (fun _ => 0), cI 0 6 (fun _ => 0), cI 0 72 (fun _ => 0), cI 0 6 (fun _ => 0), cI 0 3 (fun _ => 0), cO 3 [eI 0, eR ((w0.length + 23))], cI 0 200 (fun _ => 0), cO 3 [eI 0, eR ((w0.length + 25))], cI 0 200 (fun _ => 0), cO 3 [eI 0, eR ((w0.length + 27))], cI 0 200 (fun _ => 0), cO 3 [eI 0, eR ((w0.length + 29))], cI 0 200 (fun _ => 0), cO 3 [eI 0, eR ((w0.length + 31))], cI 0 200 (fun _ => 0), cO 3 [eI 0, eR ((w0.length + 33))], cI 0 200 (fun _ => 0), cO 3 [eI 0, eR ((w0.length + 35))], cI 0 200 (fun _ => 0), cO 3 [eI 0, eR ((w0.length + 37))], cI 0 200 (fun _ => 0), cO 3 [eI 0, eR ((w0.length + 39))], cI 0 200 (fun _ => 0), cO 3 [eI 0, eR ((w0.length + 41))], cI 0 200 (fun _ => 0), cQ 4 3 (fun _ => none), cO 1 [eR ((w0.length + 44)), eR ((w0.length + 52)), eI 0, eI 0, eR ((w0.length + 54)), eR ((w0.length + 55)), eI 0, eI 0, eI 0, eI 0, eI 0, eI 0], cO 2 [eI 0, eR ((w0.length + 45)), eR ((w0.length + 46)), eR ((w0.length + 47)), eR ((w0.length + 48)), eR ((w0.length + 49)), eR ((w0.length + 50)), eR ((w0.length + 51)), eI 0, eI 0, eI 0, eI 0, eI 0, eI 0], cI 0 6 (fun _ => 0), cI 0 6 (fun _ => 0), cI 0 6 (fun _ => 0), cI 0 6 (fun _ => 0), cI 0 72 (fun _ => 0), cI 0 6 (fun _ => 0), cI 0 3 (fun _ => 0), cO 3 [eI 0, eR ((w0.length + 53))], cI 0 200 (fun _ => 0), cI 0 600 (fun _ => 0), cI 0 5 (fun _ => 0), cO 0 [eR ((w0.length + 57)), eI 0, eI 0, eI 0, eR ((w0.length + 58)), eR ((w0.length + 59)), eI 0, eI 0, eI 0, eI 0, eI 0, eI 0, eI 0], cO 4 [eI 0, eI 0, eI 0], cI 0 6 (fun _ => 0), cI 0 3 (fun _ => 0), cO 4 [eI 0, eI 0, eI 0], cI 0 40 (fun _ => 0)]) K hin dX6_init_61 lp_X6_41 (fun q h => by cases h; rfl) rfl (Nat.le_of_ble_eq_true rfl) rfl rfl rfl ?_
  refine ww_aload_n K dX6_init_64 rfl ?_
  refine ww_sipush (v := 216) K dX6_init_65 rfl ?_
  refine ww_newIA (N := 216) (rc := 1) (rs := 1000) (L2 := [cO 6 [eR ((w0.length + 1)), eR ((w0.length + 42)), eR ((w0.length + 43)), eR ((w0.length + 56)), eR ((w0.length + 60)), eR ((w0.length + 61)), eN, eN], cO 5 [eR ((w0.length + 2)), eI 0, eI 0, eI ((-1)), eR ((w0.length + 3)), eR ((w0.length + 4)), eR ((w0.length + 5))], cI 0 600 (fun _ => 0), cI 0 6 (fun _ => 0), cQ 2 2 (va_up (va_up (fun _ => none) 0 (some (w0.length + 6))) 1 (some (w0.length + 14))), cQ 3 10 (va_up (va_up (va_up (va_up (va_up (va_up (va_up (va_up (va_up (va_up (fun _ => none) 0 (some (w0.length + 22))) 1 (some (w0.length + 24))) 2 (some (w0.length + 26))) 3 (some (w0.length + 28))) 4 (some (w0.length + 30))) 5 (some (w0.length + 32))) 6 (some (w0.length + 34))) 7 (some (w0.length + 36))) 8 (some (w0.length + 38))) 9 (some (w0.length + 40))), cO 2 [eI 0, eR ((w0.length + 7)), eR ((w0.length + 8)), eR ((w0.length + 9)), eR ((w0.length + 10)), eR ((w0.length + 11)), eR ((w0.length + 12)), eR ((w0.length + 13)), eI 0, eI 0, eI 0, eI 0, eI 0, eI 0], cI 0 6 (fun _ => 0), cI 0 6 (fun _ => 0), cI 0 6 (fun _ => 0), cI 0 6 (fun _ => 0), cI 0 72 (fun _ => 0), cI 0 6 (fun _ => 0), cI 0 3 (fun _ => 0), cO 2 [eI 0, eR ((w0.length + 15)), eR ((w0.length + 16)), eR ((w0.length + 17)), eR ((w0.length + 18)), eR ((w0.length + 19)), eR ((w0.length + 20)), eR ((w0.length + 21)), eI 0, eI 0, eI 0, eI 0, eI 0, eI 0], cI 0 6 (fun _ => 0), cI 0 6 (fun _ => 0), cI 0 6 (fun _ => 0), cI 0 6 (fun _ => 0), cI 0 72 (fun _ => 0), cI 0 6 (fun _ => 0), cI 0 3 (fun _ => 0), cO 3 [eI 0, eR ((w0.length + 23))], cI 0 200 (fun _ => 0), cO 3 [eI 0, eR ((w0.length + 25))], cI 0 200 (fun _ => 0), cO 3 [eI 0, eR ((w0.length + 27))], cI 0 200 (fun _ => 0), cO 3 [eI 0, eR ((w0.length + 29))], cI 0 200 (fun _ => 0), cO 3 [eI 0, eR ((w0.length + 31))], cI 0 200 (fun _ => 0), cO 3 [eI 0, eR ((w0.length + 33))], cI 0 200 (fun _ => 0), cO 3 [eI 0, eR ((w0.length + 35))], cI 0 200 (fun _ => 0), cO 3 [eI 0, eR ((w0.length + 37))], cI 0 200 (fun _ => 0), cO 3 [eI 0, eR ((w0.length + 39))], cI 0 200 (fun _ => 0), cO 3 [eI 0, eR ((w0.length + 41))], cI 0 200 (fun _ => 0), cQ 4 3 (fun _ => none), cO 1 [eR ((w0.length + 44)), eR ((w0.length + 52)), eI 0, eI 0, eR ((w0.length + 54)), eR ((w0.length + 55)), eI 0, eI 0, eI 0, eI 0, eI 0, eI 0], cO 2 [eI 0, eR ((w0.length + 45)), eR ((w0.length + 46)), eR ((w0.length + 47)), eR ((w0.length + 48)), eR ((w0.length + 49)), eR ((w0.length + 50)), eR ((w0.length + 51)), eI 0, eI 0, eI 0, eI 0, eI 0, eI 0], cI 0 6 (fun _ => 0), cI 0 6 (fun _ => 0), cI 0 6 (fun _ => 0), cI 0 6 (fun _ => 0), cI 0 72 (fun _ => 0), cI 0 6 (fun _ => 0), cI 0 3 (fun _ => 0), cO 3 [eI 0, eR ((w0.length + 53))], cI 0 200 (fun _ => 0), cI 0 600 (fun _ => 0), cI 0 5 (fun _ => 0), cO 0 [eR ((w0.length + 57)), eI 0, eI 0, eI 0, eR ((w0.length + 58)), eR ((w0.length + 59)), eI 0, eI 0, eI 0, eI 0, eI 0, eI 0, eI 0], cO 4 [eI 0, eI 0, eI 0], cI 0 6 (fun _ => 0), cI 0 3 (fun _ => 0), cO 4 [eI 0, eI 0, eI 0], cI 0 40 (fun _ => 0), cI 0 216 (fun _ => 0)]) K dX6_init_68 la_int (by decide) rfl (by decide) rfl rfl ?_
  refine ww_putFA (L2 := [cO 6 [eR ((w0.length + 1)), eR ((w0.length + 42)), eR ((w0.length + 43)), eR ((w0.length + 56)), eR ((w0.length + 60)), eR ((w0.length + 61)), eR ((w0.length + 62)), eN], cO 5 [eR ((w0.length + 2)), eI 0, eI 0, eI ((-1)), eR ((w0.length + 3)), eR ((w0.length + 4)), eR ((w0.length + 5))], cI 0 600 (fun _ => 0), cI 0 6 (fun _ => 0), cQ 2 2 (va_up (va_up (fun _ => none) 0 (some (w0.length + 6))) 1 (some (w0.length + 14))), cQ 3 10 (va_up (va_up (va_up (va_up (va_up (va_up (va_up (va_up (va_up (va_up (fun _ => none) 0 (some (w0.length + 22))) 1 (some (w0.length + 24))) 2 (some (w0.length + 26))) 3 (some (w0.length + 28))) 4 (some (w0.length + 30))) 5 (some (w0.length + 32))) 6 (some (w0.length + 34))) 7 (some (w0.length + 36))) 8 (some (w0.length + 38))) 9 (some (w0.length + 40))), cO 2 [eI 0, eR ((w0.length + 7)), eR ((w0.length + 8)), eR ((w0.length + 9)), eR ((w0.length + 10)), eR ((w0.length + 11)), eR ((w0.length + 12)), eR ((w0.length + 13)), eI 0, eI 0, eI 0, eI 0, eI 0, eI 0], cI 0 6 (fun _ => 0), cI 0 6 (fun _ => 0), cI 0 6 (fun _ => 0), cI 0 6 (fun _ => 0), cI 0 72 (fun _ => 0), cI 0 6 (fun _ => 0), cI 0 3 (fun _ => 0), cO 2 [eI 0, eR ((w0.length + 15)), eR ((w0.length + 16)), eR ((w0.length + 17)), eR ((w0.length + 18)), eR ((w0.length + 19)), eR ((w0.length + 20)), eR ((w0.length + 21)), eI 0, eI 0, eI 0, eI 0, eI 0, eI 0], cI 0 6 (fun _ => 0), cI 0 6 (fun _ => 0), cI 0 6 (fun _ => 0), cI 0 6 (fun _ => 0), cI 0 72 (fun _ => 0), cI 0 6 (fun _ => 0), cI 0 3 (fun _ => 0), cO 3 [eI 0, eR ((w0.length + 23))], cI 0 200 (fun _ => 0), cO 3 [eI 0, eR ((w0.length + 25))], cI 0 200 (fun _ => 0), cO 3 [eI 0, eR ((w0.length + 27))], cI 0 200 (fun _ => 0), cO 3 [eI 0, eR ((w0.length + 29))], cI 0 200 (fun _ => 0), cO 3 [eI 0, eR ((w0.length + 31))], cI 0 200 (fun _ => 0), cO 3 [eI 0, eR ((w0.length + 33))], cI 0 200 (fun _ => 0), cO 3 [eI 0, eR ((w0.length + 35))], cI 0 200 (fun _ => 0), cO 3 [eI 0, eR ((w0.length + 37))], cI 0 200 (fun _ => 0), cO 3 [eI 0, eR ((w0.length + 39))], cI 0 200 (fun _ => 0), cO 3 [eI 0, eR ((w0.length + 41))], cI 0 200 (fun _ => 0), cQ 4 3 (fun _ => none), cO 1 [eR ((w0.length + 44)), eR ((w0.length + 52)), eI 0, eI 0, eR ((w0.length + 54)), eR ((w0.length + 55)), eI 0, eI 0, eI 0, eI 0, eI 0, eI 0], cO 2 [eI 0, eR ((w0.length + 45)), eR ((w0.length + 46)), eR ((w0.length + 47)), eR ((w0.length + 48)), eR ((w0.length + 49)), eR ((w0.length + 50)), eR ((w0.length + 51)), eI 0, eI 0, eI 0, eI 0, eI 0, eI 0], cI 0 6 (fun _ => 0), cI 0 6 (fun _ => 0), cI 0 6 (fun _ => 0), cI 0 6 (fun _ => 0), cI 0 72 (fun _ => 0), cI 0 6 (fun _ => 0), cI 0 3 (fun _ => 0), cO 3 [eI 0, eR ((w0.length + 53))], cI 0 200 (fun _ => 0), cI 0 600 (fun _ => 0), cI 0 5 (fun _ => 0), cO 0 [eR ((w0.length + 57)), eI 0, eI 0, eI 0, eR ((w0.length + 58)), eR ((w0.length + 59)), eI 0, eI 0, eI 0, eI 0, eI 0, eI 0, eI 0], cO 4 [eI 0, eI 0, eI 0], cI 0 6 (fun _ => 0), cI 0 3 (fun _ => 0), cO 4 [eI 0, eI 0, eI 0], cI 0 40 (fun _ => 0), cI 0 216 (fun _ => 0)]) K hin dX6_init_70 lp_X6_45 (fun q h => by cases h; rfl) rfl (Nat.le_of_ble_eq_true rfl) rfl rfl rfl ?_
  refine ww_aload_n K dX6_init_73 rfl ?_
  refine ww_sipush (v := 1000) K dX6_init_74 rfl ?_
  refine ww_newIA (N := 1000) (rc := 0) (rs := 0) (L2 := [cO 6 [eR ((w0.length + 1)), eR ((w0.length + 42)), eR ((w0.length + 43)), eR ((w0.length + 56)), eR ((w0.length + 60)), eR ((w0.length + 61)), eR ((w0.length + 62)), eN], cO 5 [eR ((w0.length + 2)), eI 0, eI 0, eI ((-1)), eR ((w0.length + 3)), eR ((w0.length + 4)), eR ((w0.length + 5))], cI 0 600 (fun _ => 0), cI 0 6 (fun _ => 0), cQ 2 2 (va_up (va_up (fun _ => none) 0 (some (w0.length + 6))) 1 (some (w0.length + 14))), cQ 3 10 (va_up (va_up (va_up (va_up (va_up (va_up (va_up (va_up (va_up (va_up (fun _ => none) 0 (some (w0.length + 22))) 1 (some (w0.length + 24))) 2 (some (w0.length + 26))) 3 (some (w0.length + 28))) 4 (some (w0.length + 30))) 5 (some (w0.length + 32))) 6 (some (w0.length + 34))) 7 (some (w0.length + 36))) 8 (some (w0.length + 38))) 9 (some (w0.length + 40))), cO 2 [eI 0, eR ((w0.length + 7)), eR ((w0.length + 8)), eR ((w0.length + 9)), eR ((w0.length + 10)), eR ((w0.length + 11)), eR ((w0.length + 12)), eR ((w0.length + 13)), eI 0, eI 0, eI 0, eI 0, eI 0, eI 0], cI 0 6 (fun _ => 0), cI 0 6 (fun _ => 0), cI 0 6 (fun _ => 0), cI 0 6 (fun _ => 0), cI 0 72 (fun _ => 0), cI 0 6 (fun _ => 0), cI 0 3 (fun _ => 0), cO 2 [eI 0, eR ((w0.length + 15)), eR ((w0.length + 16)), eR ((w0.length + 17)), eR ((w0.length + 18)), eR ((w0.length + 19)), eR ((w0.length + 20)), eR ((w0.length + 21)), eI 0, eI 0, eI 0, eI 0, eI 0, eI 0], cI 0 6 (fun _ => 0), cI 0 6 (fun _ => 0), cI 0 6 (fun _ => 0), cI 0 6 (fun _ => 0), cI 0 72 (fun _ => 0), cI 0 6 (fun _ => 0), cI 0 3 (fun _ => 0), cO 3 [eI 0, eR ((w0.length + 23))], cI 0 200 (fun _ => 0), cO 3 [eI 0, eR ((w0.length + 25))], cI 0 200 (fun _ => 0), cO 3 [eI 0, eR ((w0.length + 27))], cI 0 200 (fun _ => 0), cO 3 [eI 0, eR ((w0.length + 29))], cI 0 200 (fun _ => 0), cO 3 [eI 0, eR ((w0.length + 31))], cI 0 200 (fun _ => 0), cO 3 [eI 0, eR ((w0.length + 33))], cI 0 200 (fun _ => 0), cO 3 [eI 0, eR ((w0.length + 35))], cI 0 200 (fun _ => 0), cO 3 [eI 0, eR ((w0.length + 37))], cI 0 200 (fun _ => 0), cO 3 [eI 0, eR ((w0.length + 39))], cI 0 200 (fun _ => 0), cO 3 [eI 0, eR ((w0.length + 41))], cI 0 200 (fun _ => 0), cQ 4 3 (fun _ => none), cO 1 [eR ((w0.length + 44)), eR ((w0.length + 52)), eI 0, eI 0, eR ((w0.length + 54)), eR ((w0.length + 55)), eI 0, eI 0, eI 0, eI 0, eI 0, eI 0], cO 2 [eI 0, eR ((w0.length + 45)), eR ((w0.length + 46)), eR ((w0.length + 47)), eR ((w0.length + 48)), eR ((w0.length + 49)), eR ((w0.length + 50)), eR ((w0.length + 51)), eI 0, eI 0, eI 0, eI 0, eI 0, eI 0], cI 0 6 (fun _ => 0), cI 0 6 (fun _ => 0), cI 0 6 (fun _ => 0), cI 0 6 (fun _ => 0), cI 0 72 (fun _ => 0), cI 0 6 (fun _ => 0), cI 0 3 (fun _ => 0), cO 3 [eI 0, eR ((w0.length + 53))], cI 0 200 (fun _ => 0), cI 0 600 (fun _ => 0), cI 0 5 (fun _ => 0), cO 0 [eR ((w0.length + 57)), eI 0, eI 0, eI 0, eR ((w0.length + 58)), eR ((w0.length + 59)), eI 0, eI 0, eI 0, eI 0, eI 0, eI 0, eI 0], cO 4 [eI 0, eI 0, eI 0], cI 0 6 (fun _ => 0), cI 0 3 (fun _ => 0), cO 4 [eI 0, eI 0, eI 0], cI 0 40 (fun _ => 0), cI 0 216 (fun _ => 0), cI 0 1000 (fun _ => 0)]) K dX6_init_77 la_int (by decide) rfl (by decide) rfl rfl ?_
  refine ww_putFA (L2 := [cO 6 [eR ((w0.length + 1)), eR ((w0.length + 42)), eR ((w0.length + 43)), eR ((w0.length + 56)), eR ((w0.length + 60)), eR ((w0.length + 61)), eR ((w0.length + 62)), eR ((w0.length + 63))], cO 5 [eR ((w0.length + 2)), eI 0, eI 0, eI ((-1)), eR ((w0.length + 3)), eR ((w0.length + 4)), eR ((w0.length + 5))], cI 0 600 (fun _ => 0), cI 0 6 (fun _ => 0), cQ 2 2 (va_up (va_up (fun _ => none) 0 (some (w0.length + 6))) 1 (some (w0.length + 14))), cQ 3 10 (va_up (va_up (va_up (va_up (va_up (va_up (va_up (va_up (va_up (va_up (fun _ => none) 0 (some (w0.length + 22))) 1 (some (w0.length + 24))) 2 (some (w0.length + 26))) 3 (some (w0.length + 28))) 4 (some (w0.length + 30))) 5 (some (w0.length + 32))) 6 (some (w0.length + 34))) 7 (some (w0.length + 36))) 8 (some (w0.length + 38))) 9 (some (w0.length + 40))), cO 2 [eI 0, eR ((w0.length + 7)), eR ((w0.length + 8)), eR ((w0.length + 9)), eR ((w0.length + 10)), eR ((w0.length + 11)), eR ((w0.length + 12)), eR ((w0.length + 13)), eI 0, eI 0, eI 0, eI 0, eI 0, eI 0], cI 0 6 (fun _ => 0), cI 0 6 (fun _ => 0), cI 0 6 (fun _ => 0), cI 0 6 (fun _ => 0), cI 0 72 (fun _ => 0), cI 0 6 (fun _ => 0), cI 0 3 (fun _ => 0), cO 2 [eI 0, eR ((w0.length + 15)), eR ((w0.length + 16)), eR ((w0.length + 17)), eR ((w0.length + 18)), eR ((w0.length + 19)), eR ((w0.length + 20)), eR ((w0.length + 21)), eI 0, eI 0, eI 0, eI 0, eI 0, eI 0], cI 0 6 (fun _ => 0), cI 0 6 (fun _ => 0), cI 0 6 (fun _ => 0), cI 0 6 (fun _ => 0), cI 0 72 (fun _ => 0), cI 0 6 (fun _ => 0), cI 0 3 (fun _ => 0), cO 3 [eI 0, eR ((w0.length + 23))], cI 0 200 (fun _ => 0), cO 3 [eI 0, eR ((w0.length + 25))], cI 0 200 (fun _ => 0), cO 3 [eI 0, eR ((w0.length + 27))], cI 0 200 (fun _ => 0), cO 3 [eI 0, eR ((w0.length + 29))], cI 0 200 (fun _ => 0), cO 3 [eI 0, eR ((w0.length + 31))], cI 0 200 (fun _ => 0), cO 3 [eI 0, eR ((w0.length + 33))], cI 0 200 (fun _ => 0), cO 3 [eI 0, eR ((w0.length + 35))], cI 0 200 (fun _ => 0), cO 3 [eI 0, eR ((w0.length + 37))], cI 0 200 (fun _ => 0), cO 3 [eI 0, eR ((w0.length + 39))], cI 0 200 (fun _ => 0), cO 3 [eI 0, eR ((w0.length + 41))], cI 0 200 (fun _ => 0), cQ 4 3 (fun _ => none), cO 1 [eR ((w0.length + 44)), eR ((w0.length + 52)), eI 0, eI 0, eR ((w0.length + 54)), eR ((w0.length + 55)), eI 0, eI 0, eI 0, eI 0, eI 0, eI 0], cO 2 [eI 0, eR ((w0.length + 45)), eR ((w0.length + 46)), eR ((w0.length + 47)), eR ((w0.length + 48)), eR ((w0.length + 49)), eR ((w0.length + 50)), eR ((w0.length + 51)), eI 0, eI 0, eI 0, eI 0, eI 0, eI 0], cI 0 6 (fun _ => 0), cI 0 6 (fun _ => 0), cI 0 6 (fun _ => 0), cI 0 6 (fun _ => 0), cI 0 72 (fun _ => 0), cI 0 6 (fun _ => 0), cI 0 3 (fun _ => 0), cO 3 [eI 0, eR ((w0.length + 53))], cI 0 200 (fun _ => 0), cI 0 600 (fun _ => 0), cI 0 5 (fun _ => 0), cO 0 [eR ((w0.length + 57)), eI 0, eI 0, eI 0, eR ((w0.length + 58)), eR ((w0.length + 59)), eI 0, eI 0, eI 0, eI 0, eI 0, eI 0, eI 0], cO 4 [eI 0, eI 0, eI 0], cI 0 6 (fun _ => 0), cI 0 3 (fun _ => 0), cO 4 [eI 0, eI 0, eI 0], cI 0 40 (fun _ => 0), cI 0 216 (fun _ => 0), cI 0 1000 (fun _ => 0)]) K hin dX6_init_79 lp_X6_48 (fun q h => by cases h; rfl) rfl (Nat.le_of_ble_eq_true rfl) rfl rfl rfl ?_
  exact ww_vret K dX6_init_82 hr ⟨rfl, rfl⟩
set_option maxRecDepth 100000 in
set_option maxHeartbeats 4000000 in
theorem ct_X7_init (G : EG) (l : Launch) {w0 : EW} {n : Nat} (hn : w0.length = n) : Ct G l yX7_init cX7_init 1 none 1 7 8772 [eR n] (w0 ++ [cO 7 [eN, eN, eI 0, eI 0, eI 0, eI 0, eI 0, eI 0, eI 0, eI 0, eN, eI 0, eI 0, eI 0, eI 0, eI 0, eI 0, eI 0, eI 0, eI 0, eI 0, eI 0, eI 0, eI 0, eI 0, eI 0, eI 0, eN, eN, eI 0, eI 0, eN, eN, eI 0, eI 0]]) (fun r w2 => r = none ∧ w2 = w0 ++ [cO 7 [eR ((n + 1)), eR ((n + 2)), eI 0, eI 0, eI 0, eI 0, eI 0, eI 0, eI 0, eI 0, eR ((n + 3)), eI 0, eI 0, eI 0, eI 0, eI 0, eI 0, eI 0, eI 0, eI 0, eI 0, eI 0, eI 0, eI 0, eI 0, eI 0, eI 0, eR ((n + 4)), eR ((n + 5)), eI 0, eI 0, eR ((n + 6)), eR ((n + 7)), eI 0, eI 0], cI 0 5768 (upd (fun _ => 0) 8 (-1)), cI 1 3 (fun _ => 0), cI 0 201 (fun _ => 0), cI 0 3 (fun _ => 0), cI 0 6 (fun _ => 0), cI 0 1791 (fun _ => 0), cI 1 1000 (fun _ => 0)]) := by
  subst hn
  refine Ct_of (by decide +kernel) (Nat.le_of_ble_eq_true rfl) ?_
  intro p_ e_ s_ m_ a_ b_ t_ c_ K0 hr hin
  have K : wc_C p_ s_ m_ a_ t_ c_ G RX7 cX7_init 1 (w0 ++ [cO 7 [eN, eN, eI 0, eI 0, eI 0, eI 0, eI 0, eI 0, eI 0, eI 0, eN, eI 0, eI 0, eI 0, eI 0, eI 0, eI 0, eI 0, eI 0, eI 0, eI 0, eI 0, eI 0, eI 0, eI 0, eI 0, eI 0, eN, eN, eI 0, eI 0, eN, eN, eI 0, eI 0]]).length := K0
  clear K0
  refine WW_ls (ls2 := [some (eR ((w0.length + 0)))]) rfl ?_
  refine ww_aload_n K dX7_init_0 rfl ?_
  refine ww_objInit K dX7_init_1 lo_X7_1 ⟨Nat.le_of_ble_eq_true rfl, Nat.le_of_ble_eq_true rfl⟩ ?_
  refine ww_aload_n K dX7_init_4 rfl ?_
  refine ww_sipush (v := 5768) K dX7_init_5 rfl ?_
  refine ww_newIA (N := 5768) (rc := 6) (rs := 3004) (L2 := [cO 7 [eN, eN, eI 0, eI 0, eI 0, eI 0, eI 0, eI 0, eI 0, eI 0, eN, eI 0, eI 0, eI 0, eI 0, eI 0, eI 0, eI 0, eI 0, eI 0, eI 0, eI 0, eI 0, eI 0, eI 0, eI 0, eI 0, eN, eN, eI 0, eI 0, eN, eN, eI 0, eI 0], cI 0 5768 (fun _ => 0)]) K dX7_init_8 la_int (by decide) rfl (by decide) rfl rfl ?_
  refine ww_putFA (L2 := [cO 7 [eR ((w0.length + 1)), eN, eI 0, eI 0, eI 0, eI 0, eI 0, eI 0, eI 0, eI 0, eN, eI 0, eI 0, eI 0, eI 0, eI 0, eI 0, eI 0, eI 0, eI 0, eI 0, eI 0, eI 0, eI 0, eI 0, eI 0, eI 0, eN, eN, eI 0, eI 0, eN, eN, eI 0, eI 0], cI 0 5768 (fun _ => 0)]) K hin dX7_init_10 lp_X7_7 (fun q h => by cases h; rfl) rfl (Nat.le_of_ble_eq_true rfl) rfl rfl rfl ?_
  refine ww_aload_n K dX7_init_13 rfl ?_
  refine ww_iconst (v := 3) K dX7_init_14 rfl ?_
  refine ww_newZA (N := 3) (rc := 5) (rs := 3001) (L2 := [cO 7 [eR ((w0.length + 1)), eN, eI 0, eI 0, eI 0, eI 0, eI 0, eI 0, eI 0, eI 0, eN, eI 0, eI 0, eI 0, eI 0, eI 0, eI 0, eI 0, eI 0, eI 0, eI 0, eI 0, eI 0, eI 0, eI 0, eI 0, eI 0, eN, eN, eI 0, eI 0, eN, eN, eI 0, eI 0], cI 0 5768 (fun _ => 0), cI 1 3 (fun _ => 0)]) K dX7_init_15 la_bool (by decide) rfl (by decide) rfl rfl ?_
  refine ww_putFA (L2 := [cO 7 [eR ((w0.length + 1)), eR ((w0.length + 2)), eI 0, eI 0, eI 0, eI 0, eI 0, eI 0, eI 0, eI 0, eN, eI 0, eI 0, eI 0, eI 0, eI 0, eI 0, eI 0, eI 0, eI 0, eI 0, eI 0, eI 0, eI 0, eI 0, eI 0, eI 0, eN, eN, eI 0, eI 0, eN, eN, eI 0, eI 0], cI 0 5768 (fun _ => 0), cI 1 3 (fun _ => 0)]) K hin dX7_init_17 lp_X7_13 (fun q h => by cases h; rfl) rfl (Nat.le_of_ble_eq_true rfl) rfl rfl rfl ?_
  refine ww_aload_n K dX7_init_20 rfl ?_
  refine ww_sipush (v := 201) K dX7_init_21 rfl ?_
  refine ww_newIA (N := 201) (rc := 4) (rs := 2800) (L2 := [cO 7 [eR ((w0.length + 1)), eR ((w0.length + 2)), eI 0, eI 0, eI 0, eI 0, eI 0, eI 0, eI 0, eI 0, eN, eI 0, eI 0, eI 0, eI 0, eI 0, eI 0, eI 0, eI 0, eI 0, eI 0, eI 0, eI 0, eI 0, eI 0, eI 0, eI 0, eN, eN, eI 0, eI 0, eN, eN, eI 0, eI 0], cI 0 5768 (fun _ => 0), cI 1 3 (fun _ => 0), cI 0 201 (fun _ => 0)]) K dX7_init_24 la_int (by decide) rfl (by decide) rfl rfl ?_
  refine ww_putFA (L2 := [cO 7 [eR ((w0.length + 1)), eR ((w0.length + 2)), eI 0, eI 0, eI 0, eI 0, eI 0, eI 0, eI 0, eI 0, eR ((w0.length + 3)), eI 0, eI 0, eI 0, eI 0, eI 0, eI 0, eI 0, eI 0, eI 0, eI 0, eI 0, eI 0, eI 0, eI 0, eI 0, eI 0, eN, eN, eI 0, eI 0, eN, eN, eI 0, eI 0], cI 0 5768 (fun _ => 0), cI 1 3 (fun _ => 0), cI 0 201 (fun _ => 0)]) K hin dX7_init_26 lp_X7_17 (fun q h => by cases h; rfl) rfl (Nat.le_of_ble_eq_true rfl) rfl rfl rfl ?_
  refine ww_aload_n K dX7_init_29 rfl ?_
  refine ww_iconst (v := 3) K dX7_init_30 rfl ?_
  refine ww_newIA (N := 3) (rc := 3) (rs := 2797) (L2 := [cO 7 [eR ((w0.length + 1)), eR ((w0.length + 2)), eI 0, eI 0, eI 0, eI 0, eI 0, eI 0, eI 0, eI 0, eR ((w0.length + 3)), eI 0, eI 0, eI 0, eI 0, eI 0, eI 0, eI 0, eI 0, eI 0, eI 0, eI 0, eI 0, eI 0, eI 0, eI 0, eI 0, eN, eN, eI 0, eI 0, eN, eN, eI 0, eI 0], cI 0 5768 (fun _ => 0), cI 1 3 (fun _ => 0), cI 0 201 (fun _ => 0), cI 0 3 (fun _ => 0)]) K dX7_init_31 la_int (by decide) rfl (by decide) rfl rfl ?_
  refine ww_putFA (L2 := [cO 7 [eR ((w0.length + 1)), eR ((w0.length + 2)), eI 0, eI 0, eI 0, eI 0, eI 0, eI 0, eI 0, eI 0, eR ((w0.length + 3)), eI 0, eI 0, eI 0, eI 0, eI 0, eI 0, eI 0, eI 0, eI 0, eI 0, eI 0, eI 0, eI 0, eI 0, eI 0, eI 0, eR ((w0.length + 4)), eN, eI 0, eI 0, eN, eN, eI 0, eI 0], cI 0 5768 (fun _ => 0), cI 1 3 (fun _ => 0), cI 0 201 (fun _ => 0), cI 0 3 (fun _ => 0)]) K hin dX7_init_33 lp_X7_20 (fun q h => by cases h; rfl) rfl (Nat.le_of_ble_eq_true rfl) rfl rfl rfl ?_
  refine ww_aload_n K dX7_init_36 rfl ?_
  refine ww_bipush (v := 6) K dX7_init_37 rfl ?_
  refine ww_newIA (N := 6) (rc := 2) (rs := 2791) (L2 := [cO 7 [eR ((w0.length + 1)), eR ((w0.length + 2)), eI 0, eI 0, eI 0, eI 0, eI 0, eI 0, eI 0, eI 0, eR ((w0.length + 3)), eI 0, eI 0, eI 0, eI 0, eI 0, eI 0, eI 0, eI 0, eI 0, eI 0, eI 0, eI 0, eI 0, eI 0, eI 0, eI 0, eR ((w0.length + 4)), eN, eI 0, eI 0, eN, eN, eI 0, eI 0], cI 0 5768 (fun _ => 0), cI 1 3 (fun _ => 0), cI 0 201 (fun _ => 0), cI 0 3 (fun _ => 0), cI 0 6 (fun _ => 0)]) K dX7_init_39 la_int (by decide) rfl (by decide) rfl rfl ?_
  refine ww_putFA (L2 := [cO 7 [eR ((w0.length + 1)), eR ((w0.length + 2)), eI 0, eI 0, eI 0, eI 0, eI 0, eI 0, eI 0, eI 0, eR ((w0.length + 3)), eI 0, eI 0, eI 0, eI 0, eI 0, eI 0, eI 0, eI 0, eI 0, eI 0, eI 0, eI 0, eI 0, eI 0, eI 0, eI 0, eR ((w0.length + 4)), eR ((w0.length + 5)), eI 0, eI 0, eN, eN, eI 0, eI 0], cI 0 5768 (fun _ => 0), cI 1 3 (fun _ => 0), cI 0 201 (fun _ => 0), cI 0 3 (fun _ => 0), cI 0 6 (fun _ => 0)]) K hin dX7_init_41 lp_X7_23 (fun q h => by cases h; rfl) rfl (Nat.le_of_ble_eq_true rfl) rfl rfl rfl ?_
  refine ww_aload_n K dX7_init_44 rfl ?_
  refine ww_sipush (v := 1791) K dX7_init_45 rfl ?_
  refine ww_newIA (N := 1791) (rc := 1) (rs := 1000) (L2 := [cO 7 [eR ((w0.length + 1)), eR ((w0.length + 2)), eI 0, eI 0, eI 0, eI 0, eI 0, eI 0, eI 0, eI 0, eR ((w0.length + 3)), eI 0, eI 0, eI 0, eI 0, eI 0, eI 0, eI 0, eI 0, eI 0, eI 0, eI 0, eI 0, eI 0, eI 0, eI 0, eI 0, eR ((w0.length + 4)), eR ((w0.length + 5)), eI 0, eI 0, eN, eN, eI 0, eI 0], cI 0 5768 (fun _ => 0), cI 1 3 (fun _ => 0), cI 0 201 (fun _ => 0), cI 0 3 (fun _ => 0), cI 0 6 (fun _ => 0), cI 0 1791 (fun _ => 0)]) K dX7_init_48 la_int (by decide) rfl (by decide) rfl rfl ?_
  refine ww_putFA (L2 := [cO 7 [eR ((w0.length + 1)), eR ((w0.length + 2)), eI 0, eI 0, eI 0, eI 0, eI 0, eI 0, eI 0, eI 0, eR ((w0.length + 3)), eI 0, eI 0, eI 0, eI 0, eI 0, eI 0, eI 0, eI 0, eI 0, eI 0, eI 0, eI 0, eI 0, eI 0, eI 0, eI 0, eR ((w0.length + 4)), eR ((w0.length + 5)), eI 0, eI 0, eR ((w0.length + 6)), eN, eI 0, eI 0], cI 0 5768 (fun _ => 0), cI 1 3 (fun _ => 0), cI 0 201 (fun _ => 0), cI 0 3 (fun _ => 0), cI 0 6 (fun _ => 0), cI 0 1791 (fun _ => 0)]) K hin dX7_init_50 lp_X7_26 (fun q h => by cases h; rfl) rfl (Nat.le_of_ble_eq_true rfl) rfl rfl rfl ?_
  refine ww_aload_n K dX7_init_53 rfl ?_
  refine ww_sipush (v := 1000) K dX7_init_54 rfl ?_
  refine ww_newZA (N := 1000) (rc := 0) (rs := 0) (L2 := [cO 7 [eR ((w0.length + 1)), eR ((w0.length + 2)), eI 0, eI 0, eI 0, eI 0, eI 0, eI 0, eI 0, eI 0, eR ((w0.length + 3)), eI 0, eI 0, eI 0, eI 0, eI 0, eI 0, eI 0, eI 0, eI 0, eI 0, eI 0, eI 0, eI 0, eI 0, eI 0, eI 0, eR ((w0.length + 4)), eR ((w0.length + 5)), eI 0, eI 0, eR ((w0.length + 6)), eN, eI 0, eI 0], cI 0 5768 (fun _ => 0), cI 1 3 (fun _ => 0), cI 0 201 (fun _ => 0), cI 0 3 (fun _ => 0), cI 0 6 (fun _ => 0), cI 0 1791 (fun _ => 0), cI 1 1000 (fun _ => 0)]) K dX7_init_57 la_bool (by decide) rfl (by decide) rfl rfl ?_
  refine ww_putFA (L2 := [cO 7 [eR ((w0.length + 1)), eR ((w0.length + 2)), eI 0, eI 0, eI 0, eI 0, eI 0, eI 0, eI 0, eI 0, eR ((w0.length + 3)), eI 0, eI 0, eI 0, eI 0, eI 0, eI 0, eI 0, eI 0, eI 0, eI 0, eI 0, eI 0, eI 0, eI 0, eI 0, eI 0, eR ((w0.length + 4)), eR ((w0.length + 5)), eI 0, eI 0, eR ((w0.length + 6)), eR ((w0.length + 7)), eI 0, eI 0], cI 0 5768 (fun _ => 0), cI 1 3 (fun _ => 0), cI 0 201 (fun _ => 0), cI 0 3 (fun _ => 0), cI 0 6 (fun _ => 0), cI 0 1791 (fun _ => 0), cI 1 1000 (fun _ => 0)]) K hin dX7_init_59 lp_X7_29 (fun q h => by cases h; rfl) rfl (Nat.le_of_ble_eq_true rfl) rfl rfl rfl ?_
  refine ww_aload_n K dX7_init_62 rfl ?_
  refine ww_getA K dX7_init_63 lf_X7_7 rfl rfl ?_
  refine ww_bipush (v := 8) K dX7_init_66 rfl ?_
  refine ww_iconst (v := (-1)) K dX7_init_68 rfl ?_
  refine ww_iastA (L2 := [cO 7 [eR ((w0.length + 1)), eR ((w0.length + 2)), eI 0, eI 0, eI 0, eI 0, eI 0, eI 0, eI 0, eI 0, eR ((w0.length + 3)), eI 0, eI 0, eI 0, eI 0, eI 0, eI 0, eI 0, eI 0, eI 0, eI 0, eI 0, eI 0, eI 0, eI 0, eI 0, eI 0, eR ((w0.length + 4)), eR ((w0.length + 5)), eI 0, eI 0, eR ((w0.length + 6)), eR ((w0.length + 7)), eI 0, eI 0], cI 0 5768 (upd (fun _ => 0) 8 (-1)), cI 1 3 (fun _ => 0), cI 0 201 (fun _ => 0), cI 0 3 (fun _ => 0), cI 0 6 (fun _ => 0), cI 0 1791 (fun _ => 0), cI 1 1000 (fun _ => 0)]) K dX7_init_69 rfl (wc_vin (by decide)) rfl ?_
  exact ww_vret K dX7_init_70 hr ⟨rfl, rfl⟩
end
section
theorem ct_fill (G : EG) (l : Launch) {w : EW} {k n : Nat} {f : Nat → Int32} {v : Int32} (hk : w[k]? = some (cI 0 n f)) (hn : n < 2147483648) : Ct G l yJ7_fill_53178 cJ7_fill_53178 4 none 0 0 0 [eR k, eI v] w (fun r w2 => r = none ∧ ((∃ F : Nat → Int32, (∀ j, j < n → F j = v) ∧ w2[k]? = some (cI 0 n F)) ∧ wc_same [k] w w2)) := by
  refine Ct_of (by decide +kernel) (Nat.le_of_ble_eq_true rfl) ?_
  intro p_ e_ s_ m_ a_ b_ t_ c_ K0 hr hin
  have K : wc_C p_ s_ m_ a_ t_ c_ G RJ7 cJ7_fill_53178 4 w.length := K0
  clear K0
  refine WW_ls (ls2 := [some (eR k), some (eI v), none, none]) rfl ?_
  refine ww_iconst (v := 0) K dJ7_fill_53178_0 rfl ?_
  refine ww_istore_n (ls2 := [some (eR k), some (eI v), some (eI (nI 0)), none]) K dJ7_fill_53178_1 (by decide) rfl ?_
  refine ww_aload_n K dJ7_fill_53178_2 rfl ?_
  refine ww_alen K dJ7_fill_53178_3 hk (by decide) ?_
  refine ww_istore_n (ls2 := [some (eR k), some (eI v), some (eI (nI 0)), some (eI (nI n))]) K dJ7_fill_53178_4 (by decide) rfl ?_
  have loop : ∀ (d i : Nat), i + d = n → ∀ (w1 : EW) (f1 : Nat → Int32), w1[k]? = some (cI 0 n f1) → (∀ j, j < i → f1 j = v) → wc_same [k] w w1 → WW p_ l e_ (wc_rm 0 0 0) s_ m_ a_ b_ t_ c_ (MQ b_ (wc_Q G w 0 0 (fun r w2 => r = none ∧ ((∃ F : Nat → Int32, (∀ j, j < n → F j = v) ∧ w2[k]? = some (cI 0 n F)) ∧ wc_same [k] w w2))) a_ s_ 0 0 (wc_A G)) G 4 w.length (wc_SL w) 0 0 5 [some (eR k), some (eI v), some (eI (nI i)), some (eI (nI n))] [] w1 := by
    intro d
    induction d with
    | zero =>
      intro i hi w1 f1 h1 hv hS
      have : i = n := by omega
      subst this
      refine ww_iload_n K dJ7_fill_53178_5 rfl ?_
      refine ww_iload_n K dJ7_fill_53178_6 rfl ?_
      refine ww_icmp_ge (tgt := 20) K dJ7_fill_53178_7 rfl (fun _ => ?_) (fun q => absurd (nI_le (Nat.le_refl _) hn) q)
      exact ww_vret K dJ7_fill_53178_20 hr ⟨rfl, ⟨f1, hv, h1⟩, hS⟩
    | succ d ih =>
      intro i hi w1 f1 h1 hv hS
      have hlt : i < n := by omega
      refine ww_iload_n K dJ7_fill_53178_5 rfl ?_
      refine ww_iload_n K dJ7_fill_53178_6 rfl ?_
      refine ww_icmp_ge (tgt := 20) K dJ7_fill_53178_7 rfl (fun q => absurd q (nI_ge hlt hn)) (fun _ => ?_)
      refine ww_aload_n K dJ7_fill_53178_10 rfl ?_
      refine ww_iload_n K dJ7_fill_53178_11 rfl ?_
      refine ww_iload_n K dJ7_fill_53178_12 rfl ?_
      refine ww_iastX K dJ7_fill_53178_13 h1 (vp_in_nI hlt hn) (fun w3 hln h3 hne => ?_)
      refine ww_iinc (ls2 := [some (eR k), some (eI v), some (eI (nI (i + 1))), some (eI (nI n))]) K dJ7_fill_53178_14 (by decide) rfl (by rw [nI_succ]; rfl) ?_
      refine ww_goto (tgt := 5) K dJ7_fill_53178_17 rfl ?_
      refine ih (i + 1) (by omega) w3 _ h3 (fun j hj => ?_) (hS.put (by simp) hne)
      rw [nI_clamp (by omega)]
      by_cases e : j = i
      · rw [e]; exact pk_us
      · rw [pk_un e]; exact hv j (by omega)
  exact loop n 0 (by omega) w f hk (fun j hj => absurd hj (Nat.not_lt_zero _)) wc_same.rf
set_option maxRecDepth 100000 in
theorem ct_copy (G : EG) (l : Launch) {w : EW} {k0 k1 n : Nat} {f g : Nat → Int32} (h0 : w[k0]? = some (cI 0 n f)) (h1 : w[k1]? = some (cI 0 n g)) (hn : n < 2147483648) : Ct G l yX6_copy cX6_copy 2 none 1 0 0 [eR k0, eR k1] w (fun r w2 => r = none ∧ ((∃ F : Nat → Int32, (∀ j, j < n → F j = f j) ∧ w2[k1]? = some (cI 0 n F)) ∧ wc_same [k1] w w2)) := by
  refine Ct_of (by decide +kernel) (Nat.le_of_ble_eq_true rfl) ?_
  intro p_ e_ s_ m_ a_ b_ t_ c_ K0 hr hin
  have K : wc_C p_ s_ m_ a_ t_ c_ G RX6 cX6_copy 2 w.length := K0
  clear K0
  refine WW_ls (ls2 := [some (eR k0), some (eR k1)]) rfl ?_
  refine ww_aload_n K dX6_copy_0 rfl ?_
  refine ww_iconst (v := 0) K dX6_copy_1 rfl ?_
  refine ww_aload_n K dX6_copy_2 rfl ?_
  refine ww_iconst (v := 0) K dX6_copy_3 rfl ?_
  refine ww_aload_n K dX6_copy_4 rfl ?_
  refine ww_alen K dX6_copy_5 h0 (by decide) ?_
  refine ww_aload_n K dX6_copy_6 rfl ?_
  refine ww_alen K dX6_copy_7 h1 (by decide) ?_
  refine ww_mmin K dX6_copy_8 lm_X6_366 ⟨Nat.le_of_ble_eq_true rfl, Nat.le_of_ble_eq_true rfl⟩ ?_
  rw [ite_self]
  have hc : (Int32.ofNat n).toNatClampNeg = n := nI_clamp hn
  refine ww_copyX K dX6_copy_11 lm_X6_422 h0 h1 (by decide) (by decide) (nI_pos hn) (by rw [hc]; show 0 + n ≤ n; omega) (by rw [hc]; show 0 + n ≤ n; omega) ⟨Nat.le_of_ble_eq_true rfl, by decide +kernel⟩ (fun w2 hln h2 hne => ?_)
  rw [hc] at h2
  exact ww_vret K dX6_copy_14 hr ⟨rfl, ⟨_, fun j hj => sb_cpy0 hj, h2⟩, wc_same.put wc_same.rf (by simp) hne⟩
end
