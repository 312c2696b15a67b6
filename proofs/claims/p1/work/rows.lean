section
-- ===== PART A: goes FIRST, ahead of the names: the tables' words, and 'selects' of the private methods out of them =====
/-- a private method of a class that the tables say can be made, by its rows of tables_1 -/
def lw_okq (q : MethodName × Nat) : Prop := (q.1.cls ≠ "java/lang/invoke/MethodHandle" ∧ q.1.cls ≠ "java/lang/invoke/VarHandle") ∧ Cond.instantiable q.1.cls q.2 ∈ tables_1 ∧ Cond.privateMethod q.1 ∈ tables_1 ∧ Cond.instanceMethod q.1 ∈ tables_1
theorem lw_p0 : lw_okq (⟨"WindCabinet", "feedNumber", "(I)V"⟩, 8) := ⟨⟨by decide +kernel, by decide +kernel⟩, List.mem_of_getElem? (i := 18) (by decide +kernel), List.mem_of_getElem? (i := 305) (by decide +kernel), List.mem_of_getElem? (i := 306) (by decide +kernel)⟩
theorem lw_p1 : lw_okq (⟨"WindCabinet", "placeFor", "(II)I"⟩, 8) := ⟨⟨by decide +kernel, by decide +kernel⟩, List.mem_of_getElem? (i := 18) (by decide +kernel), List.mem_of_getElem? (i := 320) (by decide +kernel), List.mem_of_getElem? (i := 321) (by decide +kernel)⟩
theorem lw_p2 : lw_okq (⟨"WindCabinet$Reader", "startOn", "(I)V"⟩, 12) := ⟨⟨by decide +kernel, by decide +kernel⟩, List.mem_of_getElem? (i := 146) (by decide +kernel), List.mem_of_getElem? (i := 340) (by decide +kernel), List.mem_of_getElem? (i := 341) (by decide +kernel)⟩
theorem lw_p3 : lw_okq (⟨"WindCabinet$Reader", "advance", "()V"⟩, 12) := ⟨⟨by decide +kernel, by decide +kernel⟩, List.mem_of_getElem? (i := 146) (by decide +kernel), List.mem_of_getElem? (i := 356) (by decide +kernel), List.mem_of_getElem? (i := 357) (by decide +kernel)⟩
theorem lw_p4 : lw_okq (⟨"WindCabinet$Reader", "readLine", "(I)Z"⟩, 12) := ⟨⟨by decide +kernel, by decide +kernel⟩, List.mem_of_getElem? (i := 146) (by decide +kernel), List.mem_of_getElem? (i := 370) (by decide +kernel), List.mem_of_getElem? (i := 371) (by decide +kernel)⟩
theorem lw_p5 : lw_okq (⟨"WindCabinet$Reader", "chosen", "(Ljava/lang/String;)I"⟩, 12) := ⟨⟨by decide +kernel, by decide +kernel⟩, List.mem_of_getElem? (i := 146) (by decide +kernel), List.mem_of_getElem? (i := 384) (by decide +kernel), List.mem_of_getElem? (i := 385) (by decide +kernel)⟩
theorem lw_p6 : lw_okq (⟨"WindCabinet$Reader", "isToken", "(Ljava/lang/String;II)Z"⟩, 12) := ⟨⟨by decide +kernel, by decide +kernel⟩, List.mem_of_getElem? (i := 146) (by decide +kernel), List.mem_of_getElem? (i := 436) (by decide +kernel), List.mem_of_getElem? (i := 437) (by decide +kernel)⟩
theorem lw_p7 : lw_okq (⟨"WindCabinet$Reader", "refuse", "()Z"⟩, 12) := ⟨⟨by decide +kernel, by decide +kernel⟩, List.mem_of_getElem? (i := 146) (by decide +kernel), List.mem_of_getElem? (i := 440) (by decide +kernel), List.mem_of_getElem? (i := 441) (by decide +kernel)⟩
theorem lw_p8 : lw_okq (⟨"WindCabinet$Reader", "note", "(II)V"⟩, 12) := ⟨⟨by decide +kernel, by decide +kernel⟩, List.mem_of_getElem? (i := 146) (by decide +kernel), List.mem_of_getElem? (i := 444) (by decide +kernel), List.mem_of_getElem? (i := 445) (by decide +kernel)⟩
theorem lw_p9 : lw_okq (⟨"WindCabinet$Reader", "countLine", "(II)V"⟩, 12) := ⟨⟨by decide +kernel, by decide +kernel⟩, List.mem_of_getElem? (i := 146) (by decide +kernel), List.mem_of_getElem? (i := 448) (by decide +kernel), List.mem_of_getElem? (i := 449) (by decide +kernel)⟩
theorem lw_p10 : lw_okq (⟨"WindCabinet$Reader", "readPart", "(CI)Z"⟩, 12) := ⟨⟨by decide +kernel, by decide +kernel⟩, List.mem_of_getElem? (i := 146) (by decide +kernel), List.mem_of_getElem? (i := 467) (by decide +kernel), List.mem_of_getElem? (i := 468) (by decide +kernel)⟩
theorem lw_p11 : lw_okq (⟨"WindCabinet$Reader", "readSemicolon", "()Z"⟩, 12) := ⟨⟨by decide +kernel, by decide +kernel⟩, List.mem_of_getElem? (i := 146) (by decide +kernel), List.mem_of_getElem? (i := 471) (by decide +kernel), List.mem_of_getElem? (i := 472) (by decide +kernel)⟩
theorem lw_p12 : lw_okq (⟨"WindCabinet$Reader", "readNumber", "(CI)Z"⟩, 12) := ⟨⟨by decide +kernel, by decide +kernel⟩, List.mem_of_getElem? (i := 146) (by decide +kernel), List.mem_of_getElem? (i := 487) (by decide +kernel), List.mem_of_getElem? (i := 488) (by decide +kernel)⟩
theorem lw_p13 : lw_okq (⟨"WindCabinet$Reader", "take", "(II)V"⟩, 12) := ⟨⟨by decide +kernel, by decide +kernel⟩, List.mem_of_getElem? (i := 146) (by decide +kernel), List.mem_of_getElem? (i := 498) (by decide +kernel), List.mem_of_getElem? (i := 499) (by decide +kernel)⟩
theorem lw_p14 : lw_okq (⟨"WindCabinet$Republic", "addMinister", "([I)V"⟩, 14) := ⟨⟨by decide +kernel, by decide +kernel⟩, List.mem_of_getElem? (i := 35) (by decide +kernel), List.mem_of_getElem? (i := 507) (by decide +kernel), List.mem_of_getElem? (i := 508) (by decide +kernel)⟩
theorem lw_p15 : lw_okq (⟨"WindCabinet$Republic", "setNumber", "(II)V"⟩, 14) := ⟨⟨by decide +kernel, by decide +kernel⟩, List.mem_of_getElem? (i := 35) (by decide +kernel), List.mem_of_getElem? (i := 512) (by decide +kernel), List.mem_of_getElem? (i := 513) (by decide +kernel)⟩
def lw_privs_1 : List (MethodName × Nat) := [(⟨"WindCabinet", "feedNumber", "(I)V"⟩, 8), (⟨"WindCabinet", "placeFor", "(II)I"⟩, 8), (⟨"WindCabinet$Reader", "startOn", "(I)V"⟩, 12), (⟨"WindCabinet$Reader", "advance", "()V"⟩, 12), (⟨"WindCabinet$Reader", "readLine", "(I)Z"⟩, 12), (⟨"WindCabinet$Reader", "chosen", "(Ljava/lang/String;)I"⟩, 12), (⟨"WindCabinet$Reader", "isToken", "(Ljava/lang/String;II)Z"⟩, 12), (⟨"WindCabinet$Reader", "refuse", "()Z"⟩, 12), (⟨"WindCabinet$Reader", "note", "(II)V"⟩, 12), (⟨"WindCabinet$Reader", "countLine", "(II)V"⟩, 12), (⟨"WindCabinet$Reader", "readPart", "(CI)Z"⟩, 12), (⟨"WindCabinet$Reader", "readSemicolon", "()Z"⟩, 12), (⟨"WindCabinet$Reader", "readNumber", "(CI)Z"⟩, 12), (⟨"WindCabinet$Reader", "take", "(II)V"⟩, 12), (⟨"WindCabinet$Republic", "addMinister", "([I)V"⟩, 14), (⟨"WindCabinet$Republic", "setNumber", "(II)V"⟩, 14)]
theorem lw_r1 : ∀ q ∈ lw_privs_1, lw_okq q := List.forall_mem_cons.mpr ⟨lw_p0, List.forall_mem_cons.mpr ⟨lw_p1, List.forall_mem_cons.mpr ⟨lw_p2, List.forall_mem_cons.mpr ⟨lw_p3, List.forall_mem_cons.mpr ⟨lw_p4, List.forall_mem_cons.mpr ⟨lw_p5, List.forall_mem_cons.mpr ⟨lw_p6, List.forall_mem_cons.mpr ⟨lw_p7, List.forall_mem_cons.mpr ⟨lw_p8, List.forall_mem_cons.mpr ⟨lw_p9, List.forall_mem_cons.mpr ⟨lw_p10, List.forall_mem_cons.mpr ⟨lw_p11, List.forall_mem_cons.mpr ⟨lw_p12, List.forall_mem_cons.mpr ⟨lw_p13, List.forall_mem_cons.mpr ⟨lw_p14, List.forall_mem_cons.mpr ⟨lw_p15, fun _ h => absurd h List.not_mem_nil⟩⟩⟩⟩⟩⟩⟩⟩⟩⟩⟩⟩⟩⟩⟩⟩
theorem lw_p16 : lw_okq (⟨"WindCabinet$Reader", "takeToldOf", "(I)V"⟩, 12) := ⟨⟨by decide +kernel, by decide +kernel⟩, List.mem_of_getElem? (i := 146) (by decide +kernel), List.mem_of_getElem? (i := 516) (by decide +kernel), List.mem_of_getElem? (i := 517) (by decide +kernel)⟩
theorem lw_p17 : lw_okq (⟨"WindCabinet$Reader", "takeOrder", "(I)V"⟩, 12) := ⟨⟨by decide +kernel, by decide +kernel⟩, List.mem_of_getElem? (i := 146) (by decide +kernel), List.mem_of_getElem? (i := 520) (by decide +kernel), List.mem_of_getElem? (i := 521) (by decide +kernel)⟩
theorem lw_p18 : lw_okq (⟨"WindCabinet", "keep", "(II)V"⟩, 8) := ⟨⟨by decide +kernel, by decide +kernel⟩, List.mem_of_getElem? (i := 18) (by decide +kernel), List.mem_of_getElem? (i := 535) (by decide +kernel), List.mem_of_getElem? (i := 536) (by decide +kernel)⟩
theorem lw_p19 : lw_okq (⟨"WindCabinet", "republicAt", "(I)LWindCabinet$Republic;"⟩, 8) := ⟨⟨by decide +kernel, by decide +kernel⟩, List.mem_of_getElem? (i := 18) (by decide +kernel), List.mem_of_getElem? (i := 588) (by decide +kernel), List.mem_of_getElem? (i := 589) (by decide +kernel)⟩
theorem lw_p20 : lw_okq (⟨"WindCabinet", "rowsAt", "(II)LWindCabinet$Rows;"⟩, 8) := ⟨⟨by decide +kernel, by decide +kernel⟩, List.mem_of_getElem? (i := 18) (by decide +kernel), List.mem_of_getElem? (i := 611) (by decide +kernel), List.mem_of_getElem? (i := 612) (by decide +kernel)⟩
theorem lw_p21 : lw_okq (⟨"WindCabinet", "movedIn", "(IIII)LWindCabinet$Republic;"⟩, 8) := ⟨⟨by decide +kernel, by decide +kernel⟩, List.mem_of_getElem? (i := 18) (by decide +kernel), List.mem_of_getElem? (i := 647) (by decide +kernel), List.mem_of_getElem? (i := 648) (by decide +kernel)⟩
theorem lw_p22 : lw_okq (⟨"WindCabinet$Course", "open", "(LWindCabinet$Republic;)V"⟩, 13) := ⟨⟨by decide +kernel, by decide +kernel⟩, List.mem_of_getElem? (i := 197) (by decide +kernel), List.mem_of_getElem? (i := 709) (by decide +kernel), List.mem_of_getElem? (i := 710) (by decide +kernel)⟩
theorem lw_p23 : lw_okq (⟨"WindCabinet$Course", "happens", "(LWindCabinet$Republic;LWindCabinet$Rows;LWindCabinet$Rows;I)Z"⟩, 13) := ⟨⟨by decide +kernel, by decide +kernel⟩, List.mem_of_getElem? (i := 197) (by decide +kernel), List.mem_of_getElem? (i := 720) (by decide +kernel), List.mem_of_getElem? (i := 721) (by decide +kernel)⟩
theorem lw_p24 : lw_okq (⟨"WindCabinet$Course", "decide", "(LWindCabinet$Republic;II)V"⟩, 13) := ⟨⟨by decide +kernel, by decide +kernel⟩, List.mem_of_getElem? (i := 197) (by decide +kernel), List.mem_of_getElem? (i := 738) (by decide +kernel), List.mem_of_getElem? (i := 739) (by decide +kernel)⟩
theorem lw_p25 : lw_okq (⟨"WindCabinet$Course", "record", "(I)V"⟩, 13) := ⟨⟨by decide +kernel, by decide +kernel⟩, List.mem_of_getElem? (i := 197) (by decide +kernel), List.mem_of_getElem? (i := 744) (by decide +kernel), List.mem_of_getElem? (i := 745) (by decide +kernel)⟩
theorem lw_p26 : lw_okq (⟨"WindCabinet$Course", "bear", "(LWindCabinet$Republic;IZ)V"⟩, 13) := ⟨⟨by decide +kernel, by decide +kernel⟩, List.mem_of_getElem? (i := 197) (by decide +kernel), List.mem_of_getElem? (i := 755) (by decide +kernel), List.mem_of_getElem? (i := 756) (by decide +kernel)⟩
theorem lw_p27 : lw_okq (⟨"WindCabinet$Course", "committee", "()V"⟩, 13) := ⟨⟨by decide +kernel, by decide +kernel⟩, List.mem_of_getElem? (i := 197) (by decide +kernel), List.mem_of_getElem? (i := 761) (by decide +kernel), List.mem_of_getElem? (i := 762) (by decide +kernel)⟩
theorem lw_p28 : lw_okq (⟨"WindCabinet$Course", "takesOffice", "(II)Z"⟩, 13) := ⟨⟨by decide +kernel, by decide +kernel⟩, List.mem_of_getElem? (i := 197) (by decide +kernel), List.mem_of_getElem? (i := 767) (by decide +kernel), List.mem_of_getElem? (i := 768) (by decide +kernel)⟩
theorem lw_p29 : lw_okq (⟨"WindCabinet$Course", "isDismissed", "(I)Z"⟩, 13) := ⟨⟨by decide +kernel, by decide +kernel⟩, List.mem_of_getElem? (i := 197) (by decide +kernel), List.mem_of_getElem? (i := 771) (by decide +kernel), List.mem_of_getElem? (i := 772) (by decide +kernel)⟩
theorem lw_p30 : lw_okq (⟨"WindCabinet$Course", "isRecalled", "(LWindCabinet$Republic;I)Z"⟩, 13) := ⟨⟨by decide +kernel, by decide +kernel⟩, List.mem_of_getElem? (i := 197) (by decide +kernel), List.mem_of_getElem? (i := 775) (by decide +kernel), List.mem_of_getElem? (i := 776) (by decide +kernel)⟩
theorem lw_p31 : lw_okq (⟨"WindCabinet", "stateTold", "(LWindCabinet$Republic;I)I"⟩, 8) := ⟨⟨by decide +kernel, by decide +kernel⟩, List.mem_of_getElem? (i := 18) (by decide +kernel), List.mem_of_getElem? (i := 784) (by decide +kernel), List.mem_of_getElem? (i := 785) (by decide +kernel)⟩
def lw_privs_2 : List (MethodName × Nat) := [(⟨"WindCabinet$Reader", "takeToldOf", "(I)V"⟩, 12), (⟨"WindCabinet$Reader", "takeOrder", "(I)V"⟩, 12), (⟨"WindCabinet", "keep", "(II)V"⟩, 8), (⟨"WindCabinet", "republicAt", "(I)LWindCabinet$Republic;"⟩, 8), (⟨"WindCabinet", "rowsAt", "(II)LWindCabinet$Rows;"⟩, 8), (⟨"WindCabinet", "movedIn", "(IIII)LWindCabinet$Republic;"⟩, 8), (⟨"WindCabinet$Course", "open", "(LWindCabinet$Republic;)V"⟩, 13), (⟨"WindCabinet$Course", "happens", "(LWindCabinet$Republic;LWindCabinet$Rows;LWindCabinet$Rows;I)Z"⟩, 13), (⟨"WindCabinet$Course", "decide", "(LWindCabinet$Republic;II)V"⟩, 13), (⟨"WindCabinet$Course", "record", "(I)V"⟩, 13), (⟨"WindCabinet$Course", "bear", "(LWindCabinet$Republic;IZ)V"⟩, 13), (⟨"WindCabinet$Course", "committee", "()V"⟩, 13), (⟨"WindCabinet$Course", "takesOffice", "(II)Z"⟩, 13), (⟨"WindCabinet$Course", "isDismissed", "(I)Z"⟩, 13), (⟨"WindCabinet$Course", "isRecalled", "(LWindCabinet$Republic;I)Z"⟩, 13), (⟨"WindCabinet", "stateTold", "(LWindCabinet$Republic;I)I"⟩, 8)]
theorem lw_r2 : ∀ q ∈ lw_privs_2, lw_okq q := List.forall_mem_cons.mpr ⟨lw_p16, List.forall_mem_cons.mpr ⟨lw_p17, List.forall_mem_cons.mpr ⟨lw_p18, List.forall_mem_cons.mpr ⟨lw_p19, List.forall_mem_cons.mpr ⟨lw_p20, List.forall_mem_cons.mpr ⟨lw_p21, List.forall_mem_cons.mpr ⟨lw_p22, List.forall_mem_cons.mpr ⟨lw_p23, List.forall_mem_cons.mpr ⟨lw_p24, List.forall_mem_cons.mpr ⟨lw_p25, List.forall_mem_cons.mpr ⟨lw_p26, List.forall_mem_cons.mpr ⟨lw_p27, List.forall_mem_cons.mpr ⟨lw_p28, List.forall_mem_cons.mpr ⟨lw_p29, List.forall_mem_cons.mpr ⟨lw_p30, List.forall_mem_cons.mpr ⟨lw_p31, fun _ h => absurd h List.not_mem_nil⟩⟩⟩⟩⟩⟩⟩⟩⟩⟩⟩⟩⟩⟩⟩⟩
theorem lw_p32 : lw_okq (⟨"WindCabinet$Course", "drawMotion", "(LWindCabinet$Republic;)V"⟩, 13) := ⟨⟨by decide +kernel, by decide +kernel⟩, List.mem_of_getElem? (i := 197) (by decide +kernel), List.mem_of_getElem? (i := 797) (by decide +kernel), List.mem_of_getElem? (i := 798) (by decide +kernel)⟩
theorem lw_p33 : lw_okq (⟨"WindCabinet$Course", "drawBelow", "(I)I"⟩, 13) := ⟨⟨by decide +kernel, by decide +kernel⟩, List.mem_of_getElem? (i := 197) (by decide +kernel), List.mem_of_getElem? (i := 807) (by decide +kernel), List.mem_of_getElem? (i := 808) (by decide +kernel)⟩
theorem lw_p34 : lw_okq (⟨"WindCabinet$Course", "oneThere", "(I)I"⟩, 13) := ⟨⟨by decide +kernel, by decide +kernel⟩, List.mem_of_getElem? (i := 197) (by decide +kernel), List.mem_of_getElem? (i := 812) (by decide +kernel), List.mem_of_getElem? (i := 813) (by decide +kernel)⟩
theorem lw_p35 : lw_okq (⟨"WindCabinet", "manyAgreed", "(LWindCabinet$Republic;LWindCabinet$Rows;II)I"⟩, 8) := ⟨⟨by decide +kernel, by decide +kernel⟩, List.mem_of_getElem? (i := 18) (by decide +kernel), List.mem_of_getElem? (i := 820) (by decide +kernel), List.mem_of_getElem? (i := 821) (by decide +kernel)⟩
theorem lw_p36 : lw_okq (⟨"WindCabinet", "isAgreed", "(LWindCabinet$Republic;LWindCabinet$Rows;III)Z"⟩, 8) := ⟨⟨by decide +kernel, by decide +kernel⟩, List.mem_of_getElem? (i := 18) (by decide +kernel), List.mem_of_getElem? (i := 824) (by decide +kernel), List.mem_of_getElem? (i := 825) (by decide +kernel)⟩
theorem lw_p37 : lw_okq (⟨"WindCabinet", "bestAgreed", "(LWindCabinet$Republic;LWindCabinet$Rows;IIZ)I"⟩, 8) := ⟨⟨by decide +kernel, by decide +kernel⟩, List.mem_of_getElem? (i := 18) (by decide +kernel), List.mem_of_getElem? (i := 830) (by decide +kernel), List.mem_of_getElem? (i := 831) (by decide +kernel)⟩
theorem lw_p38 : lw_okq (⟨"WindCabinet", "firstWrong", "(LWindCabinet$Republic;LWindCabinet$Rows;)I"⟩, 8) := ⟨⟨by decide +kernel, by decide +kernel⟩, List.mem_of_getElem? (i := 18) (by decide +kernel), List.mem_of_getElem? (i := 901) (by decide +kernel), List.mem_of_getElem? (i := 902) (by decide +kernel)⟩
theorem lw_p39 : lw_okq (⟨"WindCabinet", "mend", "(LWindCabinet$Republic;LWindCabinet$Rows;)I"⟩, 8) := ⟨⟨by decide +kernel, by decide +kernel⟩, List.mem_of_getElem? (i := 18) (by decide +kernel), List.mem_of_getElem? (i := 907) (by decide +kernel), List.mem_of_getElem? (i := 908) (by decide +kernel)⟩
theorem lw_p40 : lw_okq (⟨"WindCabinet", "findFitting", "(LWindCabinet$Republic;LWindCabinet$Rows;)I"⟩, 8) := ⟨⟨by decide +kernel, by decide +kernel⟩, List.mem_of_getElem? (i := 18) (by decide +kernel), List.mem_of_getElem? (i := 915) (by decide +kernel), List.mem_of_getElem? (i := 916) (by decide +kernel)⟩
theorem lw_p41 : lw_okq (⟨"WindCabinet", "tellingSeason", "(LWindCabinet$Republic;I)I"⟩, 8) := ⟨⟨by decide +kernel, by decide +kernel⟩, List.mem_of_getElem? (i := 18) (by decide +kernel), List.mem_of_getElem? (i := 933) (by decide +kernel), List.mem_of_getElem? (i := 934) (by decide +kernel)⟩
theorem lw_p42 : lw_okq (⟨"WindCabinet", "unlikeProposals", "(LWindCabinet$Republic;II)I"⟩, 8) := ⟨⟨by decide +kernel, by decide +kernel⟩, List.mem_of_getElem? (i := 18) (by decide +kernel), List.mem_of_getElem? (i := 937) (by decide +kernel), List.mem_of_getElem? (i := 938) (by decide +kernel)⟩
theorem lw_p43 : lw_okq (⟨"WindCabinetModel", "isOf", "(II)Z"⟩, 35) := ⟨⟨by decide +kernel, by decide +kernel⟩, List.mem_of_getElem? (i := 971) (by decide +kernel), List.mem_of_getElem? (i := 1099) (by decide +kernel), List.mem_of_getElem? (i := 1100) (by decide +kernel)⟩
theorem lw_p44 : lw_okq (⟨"WindCabinetModel", "clears", "(I)V"⟩, 35) := ⟨⟨by decide +kernel, by decide +kernel⟩, List.mem_of_getElem? (i := 971) (by decide +kernel), List.mem_of_getElem? (i := 1103) (by decide +kernel), List.mem_of_getElem? (i := 1104) (by decide +kernel)⟩
theorem lw_p45 : lw_okq (⟨"WindCabinetModel", "advance", "()V"⟩, 35) := ⟨⟨by decide +kernel, by decide +kernel⟩, List.mem_of_getElem? (i := 971) (by decide +kernel), List.mem_of_getElem? (i := 1107) (by decide +kernel), List.mem_of_getElem? (i := 1108) (by decide +kernel)⟩
theorem lw_p46 : lw_okq (⟨"WindCabinetModel", "byteAt", "(I)I"⟩, 35) := ⟨⟨by decide +kernel, by decide +kernel⟩, List.mem_of_getElem? (i := 971) (by decide +kernel), List.mem_of_getElem? (i := 1111) (by decide +kernel), List.mem_of_getElem? (i := 1112) (by decide +kernel)⟩
theorem lw_p47 : lw_okq (⟨"WindCabinetModel", "republicLine", "()V"⟩, 35) := ⟨⟨by decide +kernel, by decide +kernel⟩, List.mem_of_getElem? (i := 971) (by decide +kernel), List.mem_of_getElem? (i := 1139) (by decide +kernel), List.mem_of_getElem? (i := 1140) (by decide +kernel)⟩
def lw_privs_3 : List (MethodName × Nat) := [(⟨"WindCabinet$Course", "drawMotion", "(LWindCabinet$Republic;)V"⟩, 13), (⟨"WindCabinet$Course", "drawBelow", "(I)I"⟩, 13), (⟨"WindCabinet$Course", "oneThere", "(I)I"⟩, 13), (⟨"WindCabinet", "manyAgreed", "(LWindCabinet$Republic;LWindCabinet$Rows;II)I"⟩, 8), (⟨"WindCabinet", "isAgreed", "(LWindCabinet$Republic;LWindCabinet$Rows;III)Z"⟩, 8), (⟨"WindCabinet", "bestAgreed", "(LWindCabinet$Republic;LWindCabinet$Rows;IIZ)I"⟩, 8), (⟨"WindCabinet", "firstWrong", "(LWindCabinet$Republic;LWindCabinet$Rows;)I"⟩, 8), (⟨"WindCabinet", "mend", "(LWindCabinet$Republic;LWindCabinet$Rows;)I"⟩, 8), (⟨"WindCabinet", "findFitting", "(LWindCabinet$Republic;LWindCabinet$Rows;)I"⟩, 8), (⟨"WindCabinet", "tellingSeason", "(LWindCabinet$Republic;I)I"⟩, 8), (⟨"WindCabinet", "unlikeProposals", "(LWindCabinet$Republic;II)I"⟩, 8), (⟨"WindCabinetModel", "isOf", "(II)Z"⟩, 35), (⟨"WindCabinetModel", "clears", "(I)V"⟩, 35), (⟨"WindCabinetModel", "advance", "()V"⟩, 35), (⟨"WindCabinetModel", "byteAt", "(I)I"⟩, 35), (⟨"WindCabinetModel", "republicLine", "()V"⟩, 35)]
theorem lw_r3 : ∀ q ∈ lw_privs_3, lw_okq q := List.forall_mem_cons.mpr ⟨lw_p32, List.forall_mem_cons.mpr ⟨lw_p33, List.forall_mem_cons.mpr ⟨lw_p34, List.forall_mem_cons.mpr ⟨lw_p35, List.forall_mem_cons.mpr ⟨lw_p36, List.forall_mem_cons.mpr ⟨lw_p37, List.forall_mem_cons.mpr ⟨lw_p38, List.forall_mem_cons.mpr ⟨lw_p39, List.forall_mem_cons.mpr ⟨lw_p40, List.forall_mem_cons.mpr ⟨lw_p41, List.forall_mem_cons.mpr ⟨lw_p42, List.forall_mem_cons.mpr ⟨lw_p43, List.forall_mem_cons.mpr ⟨lw_p44, List.forall_mem_cons.mpr ⟨lw_p45, List.forall_mem_cons.mpr ⟨lw_p46, List.forall_mem_cons.mpr ⟨lw_p47, fun _ h => absurd h List.not_mem_nil⟩⟩⟩⟩⟩⟩⟩⟩⟩⟩⟩⟩⟩⟩⟩⟩
theorem lw_p48 : lw_okq (⟨"WindCabinetModel", "takes", "(II)I"⟩, 35) := ⟨⟨by decide +kernel, by decide +kernel⟩, List.mem_of_getElem? (i := 971) (by decide +kernel), List.mem_of_getElem? (i := 1143) (by decide +kernel), List.mem_of_getElem? (i := 1144) (by decide +kernel)⟩
theorem lw_p49 : lw_okq (⟨"WindCabinetModel", "ends", "()V"⟩, 35) := ⟨⟨by decide +kernel, by decide +kernel⟩, List.mem_of_getElem? (i := 971) (by decide +kernel), List.mem_of_getElem? (i := 1147) (by decide +kernel), List.mem_of_getElem? (i := 1148) (by decide +kernel)⟩
theorem lw_p50 : lw_okq (⟨"WindCabinetModel", "ministerLine", "(I)V"⟩, 35) := ⟨⟨by decide +kernel, by decide +kernel⟩, List.mem_of_getElem? (i := 971) (by decide +kernel), List.mem_of_getElem? (i := 1151) (by decide +kernel), List.mem_of_getElem? (i := 1152) (by decide +kernel)⟩
theorem lw_p51 : lw_okq (⟨"WindCabinetModel", "also", "(II)V"⟩, 35) := ⟨⟨by decide +kernel, by decide +kernel⟩, List.mem_of_getElem? (i := 971) (by decide +kernel), List.mem_of_getElem? (i := 1155) (by decide +kernel), List.mem_of_getElem? (i := 1156) (by decide +kernel)⟩
theorem lw_p52 : lw_okq (⟨"WindCabinetModel", "numbered", "(II)I"⟩, 35) := ⟨⟨by decide +kernel, by decide +kernel⟩, List.mem_of_getElem? (i := 971) (by decide +kernel), List.mem_of_getElem? (i := 1159) (by decide +kernel), List.mem_of_getElem? (i := 1160) (by decide +kernel)⟩
theorem lw_p53 : lw_okq (⟨"WindCabinetModel", "wantLine", "()V"⟩, 35) := ⟨⟨by decide +kernel, by decide +kernel⟩, List.mem_of_getElem? (i := 971) (by decide +kernel), List.mem_of_getElem? (i := 1163) (by decide +kernel), List.mem_of_getElem? (i := 1164) (by decide +kernel)⟩
theorem lw_p54 : lw_okq (⟨"WindCabinetModel", "ministerTold", "()I"⟩, 35) := ⟨⟨by decide +kernel, by decide +kernel⟩, List.mem_of_getElem? (i := 971) (by decide +kernel), List.mem_of_getElem? (i := 1167) (by decide +kernel), List.mem_of_getElem? (i := 1168) (by decide +kernel)⟩
theorem lw_p55 : lw_okq (⟨"WindCabinetModel", "seasonTold", "()I"⟩, 35) := ⟨⟨by decide +kernel, by decide +kernel⟩, List.mem_of_getElem? (i := 971) (by decide +kernel), List.mem_of_getElem? (i := 1171) (by decide +kernel), List.mem_of_getElem? (i := 1172) (by decide +kernel)⟩
theorem lw_p56 : lw_okq (⟨"WindCabinetModel", "feudLine", "()V"⟩, 35) := ⟨⟨by decide +kernel, by decide +kernel⟩, List.mem_of_getElem? (i := 971) (by decide +kernel), List.mem_of_getElem? (i := 1175) (by decide +kernel), List.mem_of_getElem? (i := 1176) (by decide +kernel)⟩
theorem lw_p57 : lw_okq (⟨"WindCabinetModel", "kindTold", "()I"⟩, 35) := ⟨⟨by decide +kernel, by decide +kernel⟩, List.mem_of_getElem? (i := 971) (by decide +kernel), List.mem_of_getElem? (i := 1179) (by decide +kernel), List.mem_of_getElem? (i := 1180) (by decide +kernel)⟩
theorem lw_p58 : lw_okq (⟨"WindCabinetModel", "endsLine", "()V"⟩, 35) := ⟨⟨by decide +kernel, by decide +kernel⟩, List.mem_of_getElem? (i := 971) (by decide +kernel), List.mem_of_getElem? (i := 1183) (by decide +kernel), List.mem_of_getElem? (i := 1184) (by decide +kernel)⟩
theorem lw_p59 : lw_okq (⟨"WindCabinetModel", "orderLine", "()V"⟩, 35) := ⟨⟨by decide +kernel, by decide +kernel⟩, List.mem_of_getElem? (i := 971) (by decide +kernel), List.mem_of_getElem? (i := 1187) (by decide +kernel), List.mem_of_getElem? (i := 1188) (by decide +kernel)⟩
theorem lw_p60 : lw_okq (⟨"WindCabinetModel", "noLine", "()V"⟩, 35) := ⟨⟨by decide +kernel, by decide +kernel⟩, List.mem_of_getElem? (i := 971) (by decide +kernel), List.mem_of_getElem? (i := 1191) (by decide +kernel), List.mem_of_getElem? (i := 1192) (by decide +kernel)⟩
theorem lw_p61 : lw_okq (⟨"WindCabinetModel", "adds", "(IIIIII)V"⟩, 35) := ⟨⟨by decide +kernel, by decide +kernel⟩, List.mem_of_getElem? (i := 971) (by decide +kernel), List.mem_of_getElem? (i := 1195) (by decide +kernel), List.mem_of_getElem? (i := 1196) (by decide +kernel)⟩
theorem lw_p62 : lw_okq (⟨"WindCabinetModel", "yearLine", "()V"⟩, 35) := ⟨⟨by decide +kernel, by decide +kernel⟩, List.mem_of_getElem? (i := 971) (by decide +kernel), List.mem_of_getElem? (i := 1199) (by decide +kernel), List.mem_of_getElem? (i := 1200) (by decide +kernel)⟩
theorem lw_p63 : lw_okq (⟨"WindCabinetModel", "leakLine", "()V"⟩, 35) := ⟨⟨by decide +kernel, by decide +kernel⟩, List.mem_of_getElem? (i := 971) (by decide +kernel), List.mem_of_getElem? (i := 1203) (by decide +kernel), List.mem_of_getElem? (i := 1204) (by decide +kernel)⟩
def lw_privs_4 : List (MethodName × Nat) := [(⟨"WindCabinetModel", "takes", "(II)I"⟩, 35), (⟨"WindCabinetModel", "ends", "()V"⟩, 35), (⟨"WindCabinetModel", "ministerLine", "(I)V"⟩, 35), (⟨"WindCabinetModel", "also", "(II)V"⟩, 35), (⟨"WindCabinetModel", "numbered", "(II)I"⟩, 35), (⟨"WindCabinetModel", "wantLine", "()V"⟩, 35), (⟨"WindCabinetModel", "ministerTold", "()I"⟩, 35), (⟨"WindCabinetModel", "seasonTold", "()I"⟩, 35), (⟨"WindCabinetModel", "feudLine", "()V"⟩, 35), (⟨"WindCabinetModel", "kindTold", "()I"⟩, 35), (⟨"WindCabinetModel", "endsLine", "()V"⟩, 35), (⟨"WindCabinetModel", "orderLine", "()V"⟩, 35), (⟨"WindCabinetModel", "noLine", "()V"⟩, 35), (⟨"WindCabinetModel", "adds", "(IIIIII)V"⟩, 35), (⟨"WindCabinetModel", "yearLine", "()V"⟩, 35), (⟨"WindCabinetModel", "leakLine", "()V"⟩, 35)]
theorem lw_r4 : ∀ q ∈ lw_privs_4, lw_okq q := List.forall_mem_cons.mpr ⟨lw_p48, List.forall_mem_cons.mpr ⟨lw_p49, List.forall_mem_cons.mpr ⟨lw_p50, List.forall_mem_cons.mpr ⟨lw_p51, List.forall_mem_cons.mpr ⟨lw_p52, List.forall_mem_cons.mpr ⟨lw_p53, List.forall_mem_cons.mpr ⟨lw_p54, List.forall_mem_cons.mpr ⟨lw_p55, List.forall_mem_cons.mpr ⟨lw_p56, List.forall_mem_cons.mpr ⟨lw_p57, List.forall_mem_cons.mpr ⟨lw_p58, List.forall_mem_cons.mpr ⟨lw_p59, List.forall_mem_cons.mpr ⟨lw_p60, List.forall_mem_cons.mpr ⟨lw_p61, List.forall_mem_cons.mpr ⟨lw_p62, List.forall_mem_cons.mpr ⟨lw_p63, fun _ h => absurd h List.not_mem_nil⟩⟩⟩⟩⟩⟩⟩⟩⟩⟩⟩⟩⟩⟩⟩⟩
theorem lw_p64 : lw_okq (⟨"WindCabinetModel", "summerLine", "()V"⟩, 35) := ⟨⟨by decide +kernel, by decide +kernel⟩, List.mem_of_getElem? (i := 971) (by decide +kernel), List.mem_of_getElem? (i := 1207) (by decide +kernel), List.mem_of_getElem? (i := 1208) (by decide +kernel)⟩
theorem lw_p65 : lw_okq (⟨"WindCabinetModel", "bargainLine", "()V"⟩, 35) := ⟨⟨by decide +kernel, by decide +kernel⟩, List.mem_of_getElem? (i := 971) (by decide +kernel), List.mem_of_getElem? (i := 1211) (by decide +kernel), List.mem_of_getElem? (i := 1212) (by decide +kernel)⟩
theorem lw_p66 : lw_okq (⟨"WindCabinetModel", "isRepublic", "(I)Z"⟩, 35) := ⟨⟨by decide +kernel, by decide +kernel⟩, List.mem_of_getElem? (i := 971) (by decide +kernel), List.mem_of_getElem? (i := 1229) (by decide +kernel), List.mem_of_getElem? (i := 1230) (by decide +kernel)⟩
theorem lw_p67 : lw_okq (⟨"WindCabinetModel", "begins", "()V"⟩, 35) := ⟨⟨by decide +kernel, by decide +kernel⟩, List.mem_of_getElem? (i := 971) (by decide +kernel), List.mem_of_getElem? (i := 1233) (by decide +kernel), List.mem_of_getElem? (i := 1234) (by decide +kernel)⟩
theorem lw_p68 : lw_okq (⟨"WindCabinetModel", "ministers", "()I"⟩, 35) := ⟨⟨by decide +kernel, by decide +kernel⟩, List.mem_of_getElem? (i := 971) (by decide +kernel), List.mem_of_getElem? (i := 1237) (by decide +kernel), List.mem_of_getElem? (i := 1238) (by decide +kernel)⟩
theorem lw_p69 : lw_okq (⟨"WindCabinetModel", "of", "(I)I"⟩, 35) := ⟨⟨by decide +kernel, by decide +kernel⟩, List.mem_of_getElem? (i := 971) (by decide +kernel), List.mem_of_getElem? (i := 1241) (by decide +kernel), List.mem_of_getElem? (i := 1242) (by decide +kernel)⟩
theorem lw_p70 : lw_okq (⟨"WindCabinetModel", "isMinister", "(I)Z"⟩, 35) := ⟨⟨by decide +kernel, by decide +kernel⟩, List.mem_of_getElem? (i := 971) (by decide +kernel), List.mem_of_getElem? (i := 1249) (by decide +kernel), List.mem_of_getElem? (i := 1250) (by decide +kernel)⟩
theorem lw_p71 : lw_okq (⟨"WindCabinetModel", "ofMinister", "(II)I"⟩, 35) := ⟨⟨by decide +kernel, by decide +kernel⟩, List.mem_of_getElem? (i := 971) (by decide +kernel), List.mem_of_getElem? (i := 1253) (by decide +kernel), List.mem_of_getElem? (i := 1254) (by decide +kernel)⟩
theorem lw_p72 : lw_okq (⟨"WindCabinetModel", "isMotion", "(IIIIII)Z"⟩, 35) := ⟨⟨by decide +kernel, by decide +kernel⟩, List.mem_of_getElem? (i := 971) (by decide +kernel), List.mem_of_getElem? (i := 1261) (by decide +kernel), List.mem_of_getElem? (i := 1262) (by decide +kernel)⟩
theorem lw_p73 : lw_okq (⟨"WindCabinetModel", "talksOf", "(I)V"⟩, 35) := ⟨⟨by decide +kernel, by decide +kernel⟩, List.mem_of_getElem? (i := 971) (by decide +kernel), List.mem_of_getElem? (i := 1268) (by decide +kernel), List.mem_of_getElem? (i := 1269) (by decide +kernel)⟩
theorem lw_p74 : lw_okq (⟨"WindCabinetModel", "offOf", "(I)I"⟩, 35) := ⟨⟨by decide +kernel, by decide +kernel⟩, List.mem_of_getElem? (i := 971) (by decide +kernel), List.mem_of_getElem? (i := 1272) (by decide +kernel), List.mem_of_getElem? (i := 1273) (by decide +kernel)⟩
theorem lw_p75 : lw_okq (⟨"WindCabinetModel", "wants", "(III)I"⟩, 35) := ⟨⟨by decide +kernel, by decide +kernel⟩, List.mem_of_getElem? (i := 971) (by decide +kernel), List.mem_of_getElem? (i := 1276) (by decide +kernel), List.mem_of_getElem? (i := 1277) (by decide +kernel)⟩
theorem lw_p76 : lw_okq (⟨"WindCabinetModel", "agreeing", "()I"⟩, 35) := ⟨⟨by decide +kernel, by decide +kernel⟩, List.mem_of_getElem? (i := 971) (by decide +kernel), List.mem_of_getElem? (i := 1287) (by decide +kernel), List.mem_of_getElem? (i := 1288) (by decide +kernel)⟩
theorem lw_p77 : lw_okq (⟨"WindCabinetModel", "agrees", "(I)Z"⟩, 35) := ⟨⟨by decide +kernel, by decide +kernel⟩, List.mem_of_getElem? (i := 971) (by decide +kernel), List.mem_of_getElem? (i := 1291) (by decide +kernel), List.mem_of_getElem? (i := 1292) (by decide +kernel)⟩
theorem lw_p78 : lw_okq (⟨"WindCabinetModel", "yields", "(I)I"⟩, 35) := ⟨⟨by decide +kernel, by decide +kernel⟩, List.mem_of_getElem? (i := 971) (by decide +kernel), List.mem_of_getElem? (i := 1295) (by decide +kernel), List.mem_of_getElem? (i := 1296) (by decide +kernel)⟩
theorem lw_p79 : lw_okq (⟨"WindCabinetModel", "isPassed", "(I)Z"⟩, 35) := ⟨⟨by decide +kernel, by decide +kernel⟩, List.mem_of_getElem? (i := 971) (by decide +kernel), List.mem_of_getElem? (i := 1299) (by decide +kernel), List.mem_of_getElem? (i := 1300) (by decide +kernel)⟩
def lw_privs_5 : List (MethodName × Nat) := [(⟨"WindCabinetModel", "summerLine", "()V"⟩, 35), (⟨"WindCabinetModel", "bargainLine", "()V"⟩, 35), (⟨"WindCabinetModel", "isRepublic", "(I)Z"⟩, 35), (⟨"WindCabinetModel", "begins", "()V"⟩, 35), (⟨"WindCabinetModel", "ministers", "()I"⟩, 35), (⟨"WindCabinetModel", "of", "(I)I"⟩, 35), (⟨"WindCabinetModel", "isMinister", "(I)Z"⟩, 35), (⟨"WindCabinetModel", "ofMinister", "(II)I"⟩, 35), (⟨"WindCabinetModel", "isMotion", "(IIIIII)Z"⟩, 35), (⟨"WindCabinetModel", "talksOf", "(I)V"⟩, 35), (⟨"WindCabinetModel", "offOf", "(I)I"⟩, 35), (⟨"WindCabinetModel", "wants", "(III)I"⟩, 35), (⟨"WindCabinetModel", "agreeing", "()I"⟩, 35), (⟨"WindCabinetModel", "agrees", "(I)Z"⟩, 35), (⟨"WindCabinetModel", "yields", "(I)I"⟩, 35), (⟨"WindCabinetModel", "isPassed", "(I)Z"⟩, 35)]
theorem lw_r5 : ∀ q ∈ lw_privs_5, lw_okq q := List.forall_mem_cons.mpr ⟨lw_p64, List.forall_mem_cons.mpr ⟨lw_p65, List.forall_mem_cons.mpr ⟨lw_p66, List.forall_mem_cons.mpr ⟨lw_p67, List.forall_mem_cons.mpr ⟨lw_p68, List.forall_mem_cons.mpr ⟨lw_p69, List.forall_mem_cons.mpr ⟨lw_p70, List.forall_mem_cons.mpr ⟨lw_p71, List.forall_mem_cons.mpr ⟨lw_p72, List.forall_mem_cons.mpr ⟨lw_p73, List.forall_mem_cons.mpr ⟨lw_p74, List.forall_mem_cons.mpr ⟨lw_p75, List.forall_mem_cons.mpr ⟨lw_p76, List.forall_mem_cons.mpr ⟨lw_p77, List.forall_mem_cons.mpr ⟨lw_p78, List.forall_mem_cons.mpr ⟨lw_p79, fun _ h => absurd h List.not_mem_nil⟩⟩⟩⟩⟩⟩⟩⟩⟩⟩⟩⟩⟩⟩⟩⟩
theorem lw_p80 : lw_okq (⟨"WindCabinetModel", "votesOf", "(I)I"⟩, 35) := ⟨⟨by decide +kernel, by decide +kernel⟩, List.mem_of_getElem? (i := 971) (by decide +kernel), List.mem_of_getElem? (i := 1303) (by decide +kernel), List.mem_of_getElem? (i := 1304) (by decide +kernel)⟩
theorem lw_p81 : lw_okq (⟨"WindCabinetModel", "vetoes", "()I"⟩, 35) := ⟨⟨by decide +kernel, by decide +kernel⟩, List.mem_of_getElem? (i := 971) (by decide +kernel), List.mem_of_getElem? (i := 1307) (by decide +kernel), List.mem_of_getElem? (i := 1308) (by decide +kernel)⟩
theorem lw_p82 : lw_okq (⟨"WindCabinetModel", "areOrders", "(I)Z"⟩, 35) := ⟨⟨by decide +kernel, by decide +kernel⟩, List.mem_of_getElem? (i := 971) (by decide +kernel), List.mem_of_getElem? (i := 1315) (by decide +kernel), List.mem_of_getElem? (i := 1316) (by decide +kernel)⟩
theorem lw_p83 : lw_okq (⟨"WindCabinetModel", "orderOf", "(II)I"⟩, 35) := ⟨⟨by decide +kernel, by decide +kernel⟩, List.mem_of_getElem? (i := 971) (by decide +kernel), List.mem_of_getElem? (i := 1319) (by decide +kernel), List.mem_of_getElem? (i := 1320) (by decide +kernel)⟩
theorem lw_p84 : lw_okq (⟨"WindCabinetModel", "firstBroken", "(I)I"⟩, 35) := ⟨⟨by decide +kernel, by decide +kernel⟩, List.mem_of_getElem? (i := 971) (by decide +kernel), List.mem_of_getElem? (i := 1327) (by decide +kernel), List.mem_of_getElem? (i := 1328) (by decide +kernel)⟩
theorem lw_p85 : lw_okq (⟨"WindCabinetModel", "isBroken", "(II)Z"⟩, 35) := ⟨⟨by decide +kernel, by decide +kernel⟩, List.mem_of_getElem? (i := 971) (by decide +kernel), List.mem_of_getElem? (i := 1331) (by decide +kernel), List.mem_of_getElem? (i := 1332) (by decide +kernel)⟩
theorem lw_p86 : lw_okq (⟨"WindCabinetModel", "amount", "(I)I"⟩, 35) := ⟨⟨by decide +kernel, by decide +kernel⟩, List.mem_of_getElem? (i := 971) (by decide +kernel), List.mem_of_getElem? (i := 1335) (by decide +kernel), List.mem_of_getElem? (i := 1336) (by decide +kernel)⟩
theorem lw_p87 : lw_okq (⟨"WindCabinetModel", "deeds", "()I"⟩, 35) := ⟨⟨by decide +kernel, by decide +kernel⟩, List.mem_of_getElem? (i := 971) (by decide +kernel), List.mem_of_getElem? (i := 1346) (by decide +kernel), List.mem_of_getElem? (i := 1347) (by decide +kernel)⟩
theorem lw_p88 : lw_okq (⟨"WindCabinetModel", "deedOf", "(II)I"⟩, 35) := ⟨⟨by decide +kernel, by decide +kernel⟩, List.mem_of_getElem? (i := 971) (by decide +kernel), List.mem_of_getElem? (i := 1350) (by decide +kernel), List.mem_of_getElem? (i := 1351) (by decide +kernel)⟩
theorem lw_p89 : lw_okq (⟨"WindCabinetModel", "areTold", "(III)Z"⟩, 35) := ⟨⟨by decide +kernel, by decide +kernel⟩, List.mem_of_getElem? (i := 971) (by decide +kernel), List.mem_of_getElem? (i := 1358) (by decide +kernel), List.mem_of_getElem? (i := 1359) (by decide +kernel)⟩
theorem lw_p90 : lw_okq (⟨"WindCabinetModel", "runs", "(I)V"⟩, 35) := ⟨⟨by decide +kernel, by decide +kernel⟩, List.mem_of_getElem? (i := 971) (by decide +kernel), List.mem_of_getElem? (i := 1362) (by decide +kernel), List.mem_of_getElem? (i := 1363) (by decide +kernel)⟩
theorem lw_p91 : lw_okq (⟨"WindCabinetModel", "can", "(I)Z"⟩, 35) := ⟨⟨by decide +kernel, by decide +kernel⟩, List.mem_of_getElem? (i := 971) (by decide +kernel), List.mem_of_getElem? (i := 1366) (by decide +kernel), List.mem_of_getElem? (i := 1367) (by decide +kernel)⟩
theorem lw_p92 : lw_okq (⟨"WindCabinetModel", "isThere", "(I)Z"⟩, 35) := ⟨⟨by decide +kernel, by decide +kernel⟩, List.mem_of_getElem? (i := 971) (by decide +kernel), List.mem_of_getElem? (i := 1370) (by decide +kernel), List.mem_of_getElem? (i := 1371) (by decide +kernel)⟩
theorem lw_p93 : lw_okq (⟨"WindCabinetModel", "canNature", "()Z"⟩, 35) := ⟨⟨by decide +kernel, by decide +kernel⟩, List.mem_of_getElem? (i := 971) (by decide +kernel), List.mem_of_getElem? (i := 1374) (by decide +kernel), List.mem_of_getElem? (i := 1375) (by decide +kernel)⟩
theorem lw_p94 : lw_okq (⟨"WindCabinetModel", "does", "(I)V"⟩, 35) := ⟨⟨by decide +kernel, by decide +kernel⟩, List.mem_of_getElem? (i := 971) (by decide +kernel), List.mem_of_getElem? (i := 1378) (by decide +kernel), List.mem_of_getElem? (i := 1379) (by decide +kernel)⟩
theorem lw_p95 : lw_okq (⟨"WindCabinetModel", "moves", "()V"⟩, 35) := ⟨⟨by decide +kernel, by decide +kernel⟩, List.mem_of_getElem? (i := 971) (by decide +kernel), List.mem_of_getElem? (i := 1382) (by decide +kernel), List.mem_of_getElem? (i := 1383) (by decide +kernel)⟩
def lw_privs_6 : List (MethodName × Nat) := [(⟨"WindCabinetModel", "votesOf", "(I)I"⟩, 35), (⟨"WindCabinetModel", "vetoes", "()I"⟩, 35), (⟨"WindCabinetModel", "areOrders", "(I)Z"⟩, 35), (⟨"WindCabinetModel", "orderOf", "(II)I"⟩, 35), (⟨"WindCabinetModel", "firstBroken", "(I)I"⟩, 35), (⟨"WindCabinetModel", "isBroken", "(II)Z"⟩, 35), (⟨"WindCabinetModel", "amount", "(I)I"⟩, 35), (⟨"WindCabinetModel", "deeds", "()I"⟩, 35), (⟨"WindCabinetModel", "deedOf", "(II)I"⟩, 35), (⟨"WindCabinetModel", "areTold", "(III)Z"⟩, 35), (⟨"WindCabinetModel", "runs", "(I)V"⟩, 35), (⟨"WindCabinetModel", "can", "(I)Z"⟩, 35), (⟨"WindCabinetModel", "isThere", "(I)Z"⟩, 35), (⟨"WindCabinetModel", "canNature", "()Z"⟩, 35), (⟨"WindCabinetModel", "does", "(I)V"⟩, 35), (⟨"WindCabinetModel", "moves", "()V"⟩, 35)]
theorem lw_r6 : ∀ q ∈ lw_privs_6, lw_okq q := List.forall_mem_cons.mpr ⟨lw_p80, List.forall_mem_cons.mpr ⟨lw_p81, List.forall_mem_cons.mpr ⟨lw_p82, List.forall_mem_cons.mpr ⟨lw_p83, List.forall_mem_cons.mpr ⟨lw_p84, List.forall_mem_cons.mpr ⟨lw_p85, List.forall_mem_cons.mpr ⟨lw_p86, List.forall_mem_cons.mpr ⟨lw_p87, List.forall_mem_cons.mpr ⟨lw_p88, List.forall_mem_cons.mpr ⟨lw_p89, List.forall_mem_cons.mpr ⟨lw_p90, List.forall_mem_cons.mpr ⟨lw_p91, List.forall_mem_cons.mpr ⟨lw_p92, List.forall_mem_cons.mpr ⟨lw_p93, List.forall_mem_cons.mpr ⟨lw_p94, List.forall_mem_cons.mpr ⟨lw_p95, fun _ h => absurd h List.not_mem_nil⟩⟩⟩⟩⟩⟩⟩⟩⟩⟩⟩⟩⟩⟩⟩⟩
theorem lw_p96 : lw_okq (⟨"WindCabinetModel", "committee", "()V"⟩, 35) := ⟨⟨by decide +kernel, by decide +kernel⟩, List.mem_of_getElem? (i := 971) (by decide +kernel), List.mem_of_getElem? (i := 1386) (by decide +kernel), List.mem_of_getElem? (i := 1387) (by decide +kernel)⟩
theorem lw_p97 : lw_okq (⟨"WindCabinetModel", "goes", "()V"⟩, 35) := ⟨⟨by decide +kernel, by decide +kernel⟩, List.mem_of_getElem? (i := 971) (by decide +kernel), List.mem_of_getElem? (i := 1390) (by decide +kernel), List.mem_of_getElem? (i := 1391) (by decide +kernel)⟩
theorem lw_p98 : lw_okq (⟨"WindCabinetModel", "angers", "(I)V"⟩, 35) := ⟨⟨by decide +kernel, by decide +kernel⟩, List.mem_of_getElem? (i := 971) (by decide +kernel), List.mem_of_getElem? (i := 1394) (by decide +kernel), List.mem_of_getElem? (i := 1395) (by decide +kernel)⟩
theorem lw_p99 : lw_okq (⟨"WindCabinetModel", "isAgreed", "(IZ)Z"⟩, 35) := ⟨⟨by decide +kernel, by decide +kernel⟩, List.mem_of_getElem? (i := 971) (by decide +kernel), List.mem_of_getElem? (i := 1406) (by decide +kernel), List.mem_of_getElem? (i := 1407) (by decide +kernel)⟩
theorem lw_p100 : lw_okq (⟨"WindCabinetModel", "everybody", "()I"⟩, 35) := ⟨⟨by decide +kernel, by decide +kernel⟩, List.mem_of_getElem? (i := 971) (by decide +kernel), List.mem_of_getElem? (i := 1417) (by decide +kernel), List.mem_of_getElem? (i := 1418) (by decide +kernel)⟩
theorem lw_p101 : lw_okq (⟨"WindCabinetModel", "isEnough", "(I)Z"⟩, 35) := ⟨⟨by decide +kernel, by decide +kernel⟩, List.mem_of_getElem? (i := 971) (by decide +kernel), List.mem_of_getElem? (i := 1421) (by decide +kernel), List.mem_of_getElem? (i := 1422) (by decide +kernel)⟩
theorem lw_p102 : lw_okq (⟨"WindCabinetModel", "key", "()I"⟩, 35) := ⟨⟨by decide +kernel, by decide +kernel⟩, List.mem_of_getElem? (i := 971) (by decide +kernel), List.mem_of_getElem? (i := 1441) (by decide +kernel), List.mem_of_getElem? (i := 1442) (by decide +kernel)⟩
theorem lw_p103 : lw_okq (⟨"WindCabinetModel", "isLeast", "(I)Z"⟩, 35) := ⟨⟨by decide +kernel, by decide +kernel⟩, List.mem_of_getElem? (i := 971) (by decide +kernel), List.mem_of_getElem? (i := 1445) (by decide +kernel), List.mem_of_getElem? (i := 1446) (by decide +kernel)⟩
theorem lw_p104 : lw_okq (⟨"WindCabinetModel", "costOf", "(I)I"⟩, 35) := ⟨⟨by decide +kernel, by decide +kernel⟩, List.mem_of_getElem? (i := 971) (by decide +kernel), List.mem_of_getElem? (i := 1453) (by decide +kernel), List.mem_of_getElem? (i := 1454) (by decide +kernel)⟩
theorem lw_p105 : lw_okq (⟨"WindCabinetModel", "isRest", "(II)Z"⟩, 35) := ⟨⟨by decide +kernel, by decide +kernel⟩, List.mem_of_getElem? (i := 971) (by decide +kernel), List.mem_of_getElem? (i := 1461) (by decide +kernel), List.mem_of_getElem? (i := 1462) (by decide +kernel)⟩
theorem lw_p106 : lw_okq (⟨"WindCabinetModel", "gainOf", "(IIZ)I"⟩, 35) := ⟨⟨by decide +kernel, by decide +kernel⟩, List.mem_of_getElem? (i := 971) (by decide +kernel), List.mem_of_getElem? (i := 1465) (by decide +kernel), List.mem_of_getElem? (i := 1466) (by decide +kernel)⟩
theorem lw_p107 : lw_okq (⟨"WindCabinetModel", "priceOf", "(I)I"⟩, 35) := ⟨⟨by decide +kernel, by decide +kernel⟩, List.mem_of_getElem? (i := 971) (by decide +kernel), List.mem_of_getElem? (i := 1469) (by decide +kernel), List.mem_of_getElem? (i := 1470) (by decide +kernel)⟩
theorem lw_p108 : lw_okq (⟨"WindCabinetModel", "isSummer", "(I)Z"⟩, 35) := ⟨⟨by decide +kernel, by decide +kernel⟩, List.mem_of_getElem? (i := 971) (by decide +kernel), List.mem_of_getElem? (i := 1481) (by decide +kernel), List.mem_of_getElem? (i := 1482) (by decide +kernel)⟩
theorem lw_p109 : lw_okq (⟨"WindCabinetModel", "summerDays", "()I"⟩, 35) := ⟨⟨by decide +kernel, by decide +kernel⟩, List.mem_of_getElem? (i := 971) (by decide +kernel), List.mem_of_getElem? (i := 1485) (by decide +kernel), List.mem_of_getElem? (i := 1486) (by decide +kernel)⟩
theorem lw_p110 : lw_okq (⟨"WindCabinetModel", "dayOf", "(II)I"⟩, 35) := ⟨⟨by decide +kernel, by decide +kernel⟩, List.mem_of_getElem? (i := 971) (by decide +kernel), List.mem_of_getElem? (i := 1489) (by decide +kernel), List.mem_of_getElem? (i := 1490) (by decide +kernel)⟩
theorem lw_p111 : lw_okq (⟨"WindCabinetModel", "wrongDay", "()I"⟩, 35) := ⟨⟨by decide +kernel, by decide +kernel⟩, List.mem_of_getElem? (i := 971) (by decide +kernel), List.mem_of_getElem? (i := 1497) (by decide +kernel), List.mem_of_getElem? (i := 1498) (by decide +kernel)⟩
def lw_privs_7 : List (MethodName × Nat) := [(⟨"WindCabinetModel", "committee", "()V"⟩, 35), (⟨"WindCabinetModel", "goes", "()V"⟩, 35), (⟨"WindCabinetModel", "angers", "(I)V"⟩, 35), (⟨"WindCabinetModel", "isAgreed", "(IZ)Z"⟩, 35), (⟨"WindCabinetModel", "everybody", "()I"⟩, 35), (⟨"WindCabinetModel", "isEnough", "(I)Z"⟩, 35), (⟨"WindCabinetModel", "key", "()I"⟩, 35), (⟨"WindCabinetModel", "isLeast", "(I)Z"⟩, 35), (⟨"WindCabinetModel", "costOf", "(I)I"⟩, 35), (⟨"WindCabinetModel", "isRest", "(II)Z"⟩, 35), (⟨"WindCabinetModel", "gainOf", "(IIZ)I"⟩, 35), (⟨"WindCabinetModel", "priceOf", "(I)I"⟩, 35), (⟨"WindCabinetModel", "isSummer", "(I)Z"⟩, 35), (⟨"WindCabinetModel", "summerDays", "()I"⟩, 35), (⟨"WindCabinetModel", "dayOf", "(II)I"⟩, 35), (⟨"WindCabinetModel", "wrongDay", "()I"⟩, 35)]
theorem lw_r7 : ∀ q ∈ lw_privs_7, lw_okq q := List.forall_mem_cons.mpr ⟨lw_p96, List.forall_mem_cons.mpr ⟨lw_p97, List.forall_mem_cons.mpr ⟨lw_p98, List.forall_mem_cons.mpr ⟨lw_p99, List.forall_mem_cons.mpr ⟨lw_p100, List.forall_mem_cons.mpr ⟨lw_p101, List.forall_mem_cons.mpr ⟨lw_p102, List.forall_mem_cons.mpr ⟨lw_p103, List.forall_mem_cons.mpr ⟨lw_p104, List.forall_mem_cons.mpr ⟨lw_p105, List.forall_mem_cons.mpr ⟨lw_p106, List.forall_mem_cons.mpr ⟨lw_p107, List.forall_mem_cons.mpr ⟨lw_p108, List.forall_mem_cons.mpr ⟨lw_p109, List.forall_mem_cons.mpr ⟨lw_p110, List.forall_mem_cons.mpr ⟨lw_p111, fun _ h => absurd h List.not_mem_nil⟩⟩⟩⟩⟩⟩⟩⟩⟩⟩⟩⟩⟩⟩⟩⟩
theorem lw_p112 : lw_okq (⟨"WindCabinetModel", "numberOf", "(I)I"⟩, 35) := ⟨⟨by decide +kernel, by decide +kernel⟩, List.mem_of_getElem? (i := 971) (by decide +kernel), List.mem_of_getElem? (i := 1501) (by decide +kernel), List.mem_of_getElem? (i := 1502) (by decide +kernel)⟩
theorem lw_p113 : lw_okq (⟨"WindCabinetModel", "isHeatRight", "()Z"⟩, 35) := ⟨⟨by decide +kernel, by decide +kernel⟩, List.mem_of_getElem? (i := 971) (by decide +kernel), List.mem_of_getElem? (i := 1505) (by decide +kernel), List.mem_of_getElem? (i := 1506) (by decide +kernel)⟩
theorem lw_p114 : lw_okq (⟨"WindCabinetModel", "mends", "()V"⟩, 35) := ⟨⟨by decide +kernel, by decide +kernel⟩, List.mem_of_getElem? (i := 971) (by decide +kernel), List.mem_of_getElem? (i := 1509) (by decide +kernel), List.mem_of_getElem? (i := 1510) (by decide +kernel)⟩
theorem lw_p115 : lw_okq (⟨"WindCabinetModel", "cloudAfter", "(III)I"⟩, 35) := ⟨⟨by decide +kernel, by decide +kernel⟩, List.mem_of_getElem? (i := 971) (by decide +kernel), List.mem_of_getElem? (i := 1513) (by decide +kernel), List.mem_of_getElem? (i := 1514) (by decide +kernel)⟩
theorem lw_p116 : lw_okq (⟨"WindCabinetModel", "fallsOn", "(I)I"⟩, 35) := ⟨⟨by decide +kernel, by decide +kernel⟩, List.mem_of_getElem? (i := 971) (by decide +kernel), List.mem_of_getElem? (i := 1517) (by decide +kernel), List.mem_of_getElem? (i := 1518) (by decide +kernel)⟩
theorem lw_p117 : lw_okq (⟨"WindCabinetModel", "unlike", "(I)I"⟩, 35) := ⟨⟨by decide +kernel, by decide +kernel⟩, List.mem_of_getElem? (i := 971) (by decide +kernel), List.mem_of_getElem? (i := 1525) (by decide +kernel), List.mem_of_getElem? (i := 1526) (by decide +kernel)⟩
theorem lw_p118 : lw_okq (⟨"WindCabinetModel", "isSat", "(I)Z"⟩, 35) := ⟨⟨by decide +kernel, by decide +kernel⟩, List.mem_of_getElem? (i := 971) (by decide +kernel), List.mem_of_getElem? (i := 1529) (by decide +kernel), List.mem_of_getElem? (i := 1530) (by decide +kernel)⟩
theorem lw_p119 : lw_okq (⟨"WindCabinetModel", "areSeats", "(I)Z"⟩, 35) := ⟨⟨by decide +kernel, by decide +kernel⟩, List.mem_of_getElem? (i := 971) (by decide +kernel), List.mem_of_getElem? (i := 1533) (by decide +kernel), List.mem_of_getElem? (i := 1534) (by decide +kernel)⟩
theorem lw_p120 : lw_okq (⟨"WindCabinetModel", "proposal", "(II)I"⟩, 35) := ⟨⟨by decide +kernel, by decide +kernel⟩, List.mem_of_getElem? (i := 971) (by decide +kernel), List.mem_of_getElem? (i := 1537) (by decide +kernel), List.mem_of_getElem? (i := 1538) (by decide +kernel)⟩
theorem lw_p121 : lw_okq (⟨"WindCabinetModel", "rainy", "(I)I"⟩, 35) := ⟨⟨by decide +kernel, by decide +kernel⟩, List.mem_of_getElem? (i := 971) (by decide +kernel), List.mem_of_getElem? (i := 1545) (by decide +kernel), List.mem_of_getElem? (i := 1546) (by decide +kernel)⟩
theorem lw_p122 : lw_okq (⟨"WindCabinetModel", "leakOf", "(II)I"⟩, 35) := ⟨⟨by decide +kernel, by decide +kernel⟩, List.mem_of_getElem? (i := 971) (by decide +kernel), List.mem_of_getElem? (i := 1553) (by decide +kernel), List.mem_of_getElem? (i := 1554) (by decide +kernel)⟩
theorem lw_p123 : lw_okq (⟨"WindCabinetModel", "fitting", "(I)I"⟩, 35) := ⟨⟨by decide +kernel, by decide +kernel⟩, List.mem_of_getElem? (i := 971) (by decide +kernel), List.mem_of_getElem? (i := 1561) (by decide +kernel), List.mem_of_getElem? (i := 1562) (by decide +kernel)⟩
theorem lw_p124 : lw_okq (⟨"WindCabinetModel", "isFit", "(II)Z"⟩, 35) := ⟨⟨by decide +kernel, by decide +kernel⟩, List.mem_of_getElem? (i := 971) (by decide +kernel), List.mem_of_getElem? (i := 1565) (by decide +kernel), List.mem_of_getElem? (i := 1566) (by decide +kernel)⟩
theorem lw_p125 : lw_okq (⟨"WindCabinetModel", "rainyFit", "()I"⟩, 35) := ⟨⟨by decide +kernel, by decide +kernel⟩, List.mem_of_getElem? (i := 971) (by decide +kernel), List.mem_of_getElem? (i := 1569) (by decide +kernel), List.mem_of_getElem? (i := 1570) (by decide +kernel)⟩
theorem lw_p126 : lw_okq (⟨"WindCabinetModel", "extreme", "(IZ)I"⟩, 35) := ⟨⟨by decide +kernel, by decide +kernel⟩, List.mem_of_getElem? (i := 971) (by decide +kernel), List.mem_of_getElem? (i := 1573) (by decide +kernel), List.mem_of_getElem? (i := 1574) (by decide +kernel)⟩
theorem lw_p127 : lw_okq (⟨"WindCabinetModel", "below", "(I)I"⟩, 35) := ⟨⟨by decide +kernel, by decide +kernel⟩, List.mem_of_getElem? (i := 971) (by decide +kernel), List.mem_of_getElem? (i := 1581) (by decide +kernel), List.mem_of_getElem? (i := 1582) (by decide +kernel)⟩
def lw_privs_8 : List (MethodName × Nat) := [(⟨"WindCabinetModel", "numberOf", "(I)I"⟩, 35), (⟨"WindCabinetModel", "isHeatRight", "()Z"⟩, 35), (⟨"WindCabinetModel", "mends", "()V"⟩, 35), (⟨"WindCabinetModel", "cloudAfter", "(III)I"⟩, 35), (⟨"WindCabinetModel", "fallsOn", "(I)I"⟩, 35), (⟨"WindCabinetModel", "unlike", "(I)I"⟩, 35), (⟨"WindCabinetModel", "isSat", "(I)Z"⟩, 35), (⟨"WindCabinetModel", "areSeats", "(I)Z"⟩, 35), (⟨"WindCabinetModel", "proposal", "(II)I"⟩, 35), (⟨"WindCabinetModel", "rainy", "(I)I"⟩, 35), (⟨"WindCabinetModel", "leakOf", "(II)I"⟩, 35), (⟨"WindCabinetModel", "fitting", "(I)I"⟩, 35), (⟨"WindCabinetModel", "isFit", "(II)Z"⟩, 35), (⟨"WindCabinetModel", "rainyFit", "()I"⟩, 35), (⟨"WindCabinetModel", "extreme", "(IZ)I"⟩, 35), (⟨"WindCabinetModel", "below", "(I)I"⟩, 35)]
theorem lw_r8 : ∀ q ∈ lw_privs_8, lw_okq q := List.forall_mem_cons.mpr ⟨lw_p112, List.forall_mem_cons.mpr ⟨lw_p113, List.forall_mem_cons.mpr ⟨lw_p114, List.forall_mem_cons.mpr ⟨lw_p115, List.forall_mem_cons.mpr ⟨lw_p116, List.forall_mem_cons.mpr ⟨lw_p117, List.forall_mem_cons.mpr ⟨lw_p118, List.forall_mem_cons.mpr ⟨lw_p119, List.forall_mem_cons.mpr ⟨lw_p120, List.forall_mem_cons.mpr ⟨lw_p121, List.forall_mem_cons.mpr ⟨lw_p122, List.forall_mem_cons.mpr ⟨lw_p123, List.forall_mem_cons.mpr ⟨lw_p124, List.forall_mem_cons.mpr ⟨lw_p125, List.forall_mem_cons.mpr ⟨lw_p126, List.forall_mem_cons.mpr ⟨lw_p127, fun _ h => absurd h List.not_mem_nil⟩⟩⟩⟩⟩⟩⟩⟩⟩⟩⟩⟩⟩⟩⟩⟩
theorem lw_p128 : lw_okq (⟨"WindCabinetModel", "thereAt", "(I)I"⟩, 35) := ⟨⟨by decide +kernel, by decide +kernel⟩, List.mem_of_getElem? (i := 971) (by decide +kernel), List.mem_of_getElem? (i := 1586) (by decide +kernel), List.mem_of_getElem? (i := 1587) (by decide +kernel)⟩
def lw_privs_9 : List (MethodName × Nat) := [(⟨"WindCabinetModel", "thereAt", "(I)I"⟩, 35)]
theorem lw_r9 : ∀ q ∈ lw_privs_9, lw_okq q := List.forall_mem_cons.mpr ⟨lw_p128, fun _ h => absurd h List.not_mem_nil⟩
def lw_privs : List (MethodName × Nat) := lw_privs_1 ++ (lw_privs_2 ++ (lw_privs_3 ++ (lw_privs_4 ++ (lw_privs_5 ++ (lw_privs_6 ++ (lw_privs_7 ++ (lw_privs_8 ++ (lw_privs_9))))))))
def lw_tbl : List Cond := k2_sels lw_privs ++ tables_1
theorem lw_privs_ok : ∀ q ∈ lw_privs, lw_okq q := by
  show ∀ q ∈ lw_privs_1 ++ (lw_privs_2 ++ (lw_privs_3 ++ (lw_privs_4 ++ (lw_privs_5 ++ (lw_privs_6 ++ (lw_privs_7 ++ (lw_privs_8 ++ (lw_privs_9)))))))), lw_okq q
  exact List.forall_mem_append.mpr ⟨lw_r1, List.forall_mem_append.mpr ⟨lw_r2, List.forall_mem_append.mpr ⟨lw_r3, List.forall_mem_append.mpr ⟨lw_r4, List.forall_mem_append.mpr ⟨lw_r5, List.forall_mem_append.mpr ⟨lw_r6, List.forall_mem_append.mpr ⟨lw_r7, List.forall_mem_append.mpr ⟨lw_r8, lw_r9⟩⟩⟩⟩⟩⟩⟩⟩
end
section
def RX0 : String := "WindCabinet$Course"
def TX0 : u_T := fun k => match k with
  | 0 => ("WindCabinet$Course", "sky", "LWindCabinet$Sky;", true)
  | 1 => ("WindCabinet$Course", "season", "I", false)
  | 2 => ("WindCabinet$Course", "there", "I", false)
  | 3 => ("WindCabinet$Course", "resigned", "I", false)
  | 4 => ("WindCabinet$Course", "anger", "[I", true)
  | 5 => ("WindCabinet$Course", "offices", "[I", true)
  | 6 => ("WindCabinet$Course", "days", "I", false)
  | 7 => ("WindCabinet$Course", "committees", "I", false)
  | 8 => ("WindCabinet$Course", "latest", "I", false)
  | 9 => ("WindCabinet$Course", "rain", "I", false)
  | 10 => ("WindCabinet$Course", "longestDry", "I", false)
  | 11 => ("WindCabinet$Course", "dry", "I", false)
  | _ => ("WindCabinet$Course", "chance", "I", false)
def tyX0 : Nat → FieldType := fun k => match k with
  | 0 => .object "WindCabinet$Sky"
  | 1 => .int
  | 2 => .int
  | 3 => .int
  | 4 => .array .int
  | 5 => .array .int
  | 6 => .int
  | 7 => .int
  | 8 => .int
  | 9 => .int
  | 10 => .int
  | 11 => .int
  | _ => .int
abbrev wsX00 : List Cond := u_ws RX0 TX0 13
theorem nmX0 : ∀ a, a < 13 → ∀ b, b < 13 → a ≠ b → (TX0 a).2.1 ≠ (TX0 b).2.1 := by decide +kernel
theorem tyX0_ok : ∀ k, k < 13 → parseFieldDescriptor (TX0 k).2.2.1 = some (tyX0 k) := by decide +kernel
abbrev cX0_init : ByteArray := prog_2_method_1_code
def yX0_init : MethodName := ⟨RX0, "<init>", "()V"⟩
abbrev cX0_open : ByteArray := prog_2_method_2_code
def yX0_open : MethodName := ⟨RX0, "open", "(LWindCabinet$Republic;)V"⟩
abbrev cX0_run : ByteArray := prog_2_method_3_code
def yX0_run : MethodName := ⟨RX0, "run", "(LWindCabinet$Republic;LWindCabinet$Rows;LWindCabinet$Rows;I)I"⟩
abbrev cX0_happens : ByteArray := prog_2_method_4_code
def yX0_happens : MethodName := ⟨RX0, "happens", "(LWindCabinet$Republic;LWindCabinet$Rows;LWindCabinet$Rows;I)Z"⟩
abbrev cX0_takesOffice : ByteArray := prog_2_method_5_code
def yX0_takesOffice : MethodName := ⟨RX0, "takesOffice", "(II)Z"⟩
abbrev cX0_isDismissed : ByteArray := prog_2_method_6_code
def yX0_isDismissed : MethodName := ⟨RX0, "isDismissed", "(I)Z"⟩
abbrev cX0_isRecalled : ByteArray := prog_2_method_7_code
def yX0_isRecalled : MethodName := ⟨RX0, "isRecalled", "(LWindCabinet$Republic;I)Z"⟩
abbrev cX0_decide : ByteArray := prog_2_method_8_code
def yX0_decide : MethodName := ⟨RX0, "decide", "(LWindCabinet$Republic;II)V"⟩
abbrev cX0_bear : ByteArray := prog_2_method_9_code
def yX0_bear : MethodName := ⟨RX0, "bear", "(LWindCabinet$Republic;IZ)V"⟩
abbrev cX0_committee : ByteArray := prog_2_method_10_code
def yX0_committee : MethodName := ⟨RX0, "committee", "()V"⟩
abbrev cX0_record : ByteArray := prog_2_method_11_code
def yX0_record : MethodName := ⟨RX0, "record", "(I)V"⟩
abbrev cX0_draw : ByteArray := prog_2_method_12_code
def yX0_draw : MethodName := ⟨RX0, "draw", "(LWindCabinet$Republic;II)V"⟩
abbrev cX0_drawMotion : ByteArray := prog_2_method_13_code
def yX0_drawMotion : MethodName := ⟨RX0, "drawMotion", "(LWindCabinet$Republic;)V"⟩
abbrev cX0_oneThere : ByteArray := prog_2_method_14_code
def yX0_oneThere : MethodName := ⟨RX0, "oneThere", "(I)I"⟩
abbrev cX0_drawBelow : ByteArray := prog_2_method_15_code
def yX0_drawBelow : MethodName := ⟨RX0, "drawBelow", "(I)I"⟩
def RX1 : String := "WindCabinet$Reader"
def TX1 : u_T := fun k => match k with
  | 0 => ("WindCabinet$Reader", "republic", "LWindCabinet$Republic;", true)
  | 1 => ("WindCabinet$Reader", "rows", "LWindCabinet$Rows;", true)
  | 2 => ("WindCabinet$Reader", "fault", "I", false)
  | 3 => ("WindCabinet$Reader", "place", "I", false)
  | 4 => ("WindCabinet$Reader", "tape", "[I", true)
  | 5 => ("WindCabinet$Reader", "parts", "[I", true)
  | 6 => ("WindCabinet$Reader", "length", "I", false)
  | 7 => ("WindCabinet$Reader", "token", "I", false)
  | 8 => ("WindCabinet$Reader", "start", "I", false)
  | 9 => ("WindCabinet$Reader", "end", "I", false)
  | 10 => ("WindCabinet$Reader", "lines", "I", false)
  | _ => ("WindCabinet$Reader", "toldOf", "I", false)
def tyX1 : Nat → FieldType := fun k => match k with
  | 0 => .object "WindCabinet$Republic"
  | 1 => .object "WindCabinet$Rows"
  | 2 => .int
  | 3 => .int
  | 4 => .array .int
  | 5 => .array .int
  | 6 => .int
  | 7 => .int
  | 8 => .int
  | 9 => .int
  | 10 => .int
  | _ => .int
abbrev wsX10 : List Cond := u_ws RX1 TX1 12
theorem nmX1 : ∀ a, a < 12 → ∀ b, b < 12 → a ≠ b → (TX1 a).2.1 ≠ (TX1 b).2.1 := by decide +kernel
theorem tyX1_ok : ∀ k, k < 12 → parseFieldDescriptor (TX1 k).2.2.1 = some (tyX1 k) := by decide +kernel
abbrev cX1_init : ByteArray := prog_3_method_1_code
def yX1_init : MethodName := ⟨RX1, "<init>", "()V"⟩
abbrev cX1_read : ByteArray := prog_3_method_2_code
def yX1_read : MethodName := ⟨RX1, "read", "([III)V"⟩
abbrev cX1_startOn : ByteArray := prog_3_method_3_code
def yX1_startOn : MethodName := ⟨RX1, "startOn", "(I)V"⟩
abbrev cX1_note : ByteArray := prog_3_method_4_code
def yX1_note : MethodName := ⟨RX1, "note", "(II)V"⟩
abbrev cX1_refuse : ByteArray := prog_3_method_5_code
def yX1_refuse : MethodName := ⟨RX1, "refuse", "()Z"⟩
abbrev cX1_wordsOf : ByteArray := prog_3_method_6_code
def yX1_wordsOf : MethodName := ⟨RX1, "wordsOf", "(I)Ljava/lang/String;"⟩
abbrev cX1_formsOf : ByteArray := prog_3_method_7_code
def yX1_formsOf : MethodName := ⟨RX1, "formsOf", "(I)Ljava/lang/String;"⟩
abbrev cX1_readLine : ByteArray := prog_3_method_8_code
def yX1_readLine : MethodName := ⟨RX1, "readLine", "(I)Z"⟩
abbrev cX1_countLine : ByteArray := prog_3_method_9_code
def yX1_countLine : MethodName := ⟨RX1, "countLine", "(II)V"⟩
abbrev cX1_readPart : ByteArray := prog_3_method_10_code
def yX1_readPart : MethodName := ⟨RX1, "readPart", "(CI)Z"⟩
abbrev cX1_choicesOf : ByteArray := prog_3_method_11_code
def yX1_choicesOf : MethodName := ⟨RX1, "choicesOf", "(C)Ljava/lang/String;"⟩
abbrev cX1_readSemicolon : ByteArray := prog_3_method_12_code
def yX1_readSemicolon : MethodName := ⟨RX1, "readSemicolon", "()Z"⟩
abbrev cX1_readNumber : ByteArray := prog_3_method_13_code
def yX1_readNumber : MethodName := ⟨RX1, "readNumber", "(CI)Z"⟩
abbrev cX1_leastOf : ByteArray := prog_3_method_14_code
def yX1_leastOf : MethodName := ⟨RX1, "leastOf", "(C)I"⟩
abbrev cX1_mostOf : ByteArray := prog_3_method_15_code
def yX1_mostOf : MethodName := ⟨RX1, "mostOf", "(C)I"⟩
abbrev cX1_take : ByteArray := prog_3_method_16_code
def yX1_take : MethodName := ⟨RX1, "take", "(II)V"⟩
abbrev cX1_takeToldOf : ByteArray := prog_3_method_17_code
def yX1_takeToldOf : MethodName := ⟨RX1, "takeToldOf", "(I)V"⟩
abbrev cX1_takeOrder : ByteArray := prog_3_method_18_code
def yX1_takeOrder : MethodName := ⟨RX1, "takeOrder", "(I)V"⟩
abbrev cX1_chosen : ByteArray := prog_3_method_19_code
def yX1_chosen : MethodName := ⟨RX1, "chosen", "(Ljava/lang/String;)I"⟩
abbrev cX1_isToken : ByteArray := prog_3_method_20_code
def yX1_isToken : MethodName := ⟨RX1, "isToken", "(Ljava/lang/String;II)Z"⟩
abbrev cX1_startOf : ByteArray := prog_3_method_21_code
def yX1_startOf : MethodName := ⟨RX1, "startOf", "(Ljava/lang/String;I)I"⟩
abbrev cX1_advance : ByteArray := prog_3_method_22_code
def yX1_advance : MethodName := ⟨RX1, "advance", "()V"⟩
abbrev cX1_isBlank : ByteArray := prog_3_method_23_code
def yX1_isBlank : MethodName := ⟨RX1, "isBlank", "(I)Z"⟩
abbrev cX1_isLetter : ByteArray := prog_3_method_24_code
def yX1_isLetter : MethodName := ⟨RX1, "isLetter", "(I)Z"⟩
abbrev cX1_isDigit : ByteArray := prog_3_method_25_code
def yX1_isDigit : MethodName := ⟨RX1, "isDigit", "(I)Z"⟩
def RX2 : String := "WindCabinet$Republic"
def TX2 : u_T := fun k => match k with
  | 0 => ("WindCabinet$Republic", "size", "I", false)
  | 1 => ("WindCabinet$Republic", "votes", "[I", true)
  | 2 => ("WindCabinet$Republic", "yields", "[I", true)
  | 3 => ("WindCabinet$Republic", "tempers", "[I", true)
  | 4 => ("WindCabinet$Republic", "prices", "[I", true)
  | 5 => ("WindCabinet$Republic", "wants", "[I", true)
  | 6 => ("WindCabinet$Republic", "feuds", "[I", true)
  | 7 => ("WindCabinet$Republic", "offices", "[I", true)
  | 8 => ("WindCabinet$Republic", "vetoes", "I", false)
  | 9 => ("WindCabinet$Republic", "quota", "I", false)
  | 10 => ("WindCabinet$Republic", "spite", "I", false)
  | 11 => ("WindCabinet$Republic", "cloud", "I", false)
  | 12 => ("WindCabinet$Republic", "ground", "I", false)
  | _ => ("WindCabinet$Republic", "heat", "I", false)
def tyX2 : Nat → FieldType := fun k => match k with
  | 0 => .int
  | 1 => .array .int
  | 2 => .array .int
  | 3 => .array .int
  | 4 => .array .int
  | 5 => .array .int
  | 6 => .array .int
  | 7 => .array .int
  | 8 => .int
  | 9 => .int
  | 10 => .int
  | 11 => .int
  | 12 => .int
  | _ => .int
abbrev wsX20 : List Cond := u_ws RX2 TX2 14
theorem nmX2 : ∀ a, a < 14 → ∀ b, b < 14 → a ≠ b → (TX2 a).2.1 ≠ (TX2 b).2.1 := by decide +kernel
theorem tyX2_ok : ∀ k, k < 14 → parseFieldDescriptor (TX2 k).2.2.1 = some (tyX2 k) := by decide +kernel
abbrev cX2_init : ByteArray := prog_4_method_1_code
def yX2_init : MethodName := ⟨RX2, "<init>", "()V"⟩
abbrev cX2_clear : ByteArray := prog_4_method_2_code
def yX2_clear : MethodName := ⟨RX2, "clear", "()V"⟩
abbrev cX2_copyRepublic : ByteArray := prog_4_method_3_code
def yX2_copyRepublic : MethodName := ⟨RX2, "copyRepublic", "(LWindCabinet$Republic;)V"⟩
abbrev cX2_takeLine : ByteArray := prog_4_method_4_code
def yX2_takeLine : MethodName := ⟨RX2, "takeLine", "(I[I)V"⟩
abbrev cX2_addMinister : ByteArray := prog_4_method_5_code
def yX2_addMinister : MethodName := ⟨RX2, "addMinister", "([I)V"⟩
abbrev cX2_setNumber : ByteArray := prog_4_method_6_code
def yX2_setNumber : MethodName := ⟨RX2, "setNumber", "(II)V"⟩
abbrev cX2_isMinister : ByteArray := prog_4_method_7_code
def yX2_isMinister : MethodName := ⟨RX2, "isMinister", "(I)Z"⟩
abbrev cX2_everybody : ByteArray := prog_4_method_8_code
def yX2_everybody : MethodName := ⟨RX2, "everybody", "()I"⟩
abbrev cX2_want : ByteArray := prog_4_method_9_code
def yX2_want : MethodName := ⟨RX2, "want", "(II)I"⟩
abbrev cX2_distance : ByteArray := prog_4_method_10_code
def yX2_distance : MethodName := ⟨RX2, "distance", "(III)I"⟩
abbrev cX2_patience : ByteArray := prog_4_method_11_code
def yX2_patience : MethodName := ⟨RX2, "patience", "(II)I"⟩
abbrev cX2_agreeing : ByteArray := prog_4_method_12_code
def yX2_agreeing : MethodName := ⟨RX2, "agreeing", "(III)I"⟩
abbrev cX2_votesOf : ByteArray := prog_4_method_13_code
def yX2_votesOf : MethodName := ⟨RX2, "votesOf", "(I)I"⟩
abbrev cX2_isPassed : ByteArray := prog_4_method_14_code
def yX2_isPassed : MethodName := ⟨RX2, "isPassed", "(II)Z"⟩
abbrev cX2_areSeats : ByteArray := prog_4_method_15_code
def yX2_areSeats : MethodName := ⟨RX2, "areSeats", "(I)Z"⟩
abbrev cX2_proposal : ByteArray := prog_4_method_16_code
def yX2_proposal : MethodName := ⟨RX2, "proposal", "(II)I"⟩
def RX3 : String := "WindCabinet$Rows"
def TX3 : u_T := fun k => match k with
  | 0 => ("WindCabinet$Rows", "size", "I", false)
  | _ => ("WindCabinet$Rows", "parts", "[I", true)
def tyX3 : Nat → FieldType := fun k => match k with
  | 0 => .int
  | _ => .array .int
abbrev wsX30 : List Cond := u_ws RX3 TX3 2
theorem nmX3 : ∀ a, a < 2 → ∀ b, b < 2 → a ≠ b → (TX3 a).2.1 ≠ (TX3 b).2.1 := by decide +kernel
theorem tyX3_ok : ∀ k, k < 2 → parseFieldDescriptor (TX3 k).2.2.1 = some (tyX3 k) := by decide +kernel
abbrev cX3_init : ByteArray := prog_5_method_1_code
def yX3_init : MethodName := ⟨RX3, "<init>", "()V"⟩
abbrev cX3_clear : ByteArray := prog_5_method_2_code
def yX3_clear : MethodName := ⟨RX3, "clear", "()V"⟩
abbrev cX3_copyRows : ByteArray := prog_5_method_3_code
def yX3_copyRows : MethodName := ⟨RX3, "copyRows", "(LWindCabinet$Rows;)V"⟩
abbrev cX3_part : ByteArray := prog_5_method_4_code
def yX3_part : MethodName := ⟨RX3, "part", "(II)I"⟩
abbrev cX3_set : ByteArray := prog_5_method_5_code
def yX3_set : MethodName := ⟨RX3, "set", "(III)V"⟩
abbrev cX3_dayFrom : ByteArray := prog_5_method_6_code
def yX3_dayFrom : MethodName := ⟨RX3, "dayFrom", "(II)I"⟩
abbrev cX3_add : ByteArray := prog_5_method_7_code
def yX3_add : MethodName := ⟨RX3, "add", "(I[II)V"⟩
def RX4 : String := "WindCabinet$Sky"
def TX4 : u_T := fun k => match k with
  | 0 => ("WindCabinet$Sky", "cloud", "I", false)
  | 1 => ("WindCabinet$Sky", "ground", "I", false)
  | _ => ("WindCabinet$Sky", "heat", "I", false)
def tyX4 : Nat → FieldType := fun k => match k with
  | 0 => .int
  | 1 => .int
  | _ => .int
abbrev wsX40 : List Cond := u_ws RX4 TX4 3
theorem nmX4 : ∀ a, a < 3 → ∀ b, b < 3 → a ≠ b → (TX4 a).2.1 ≠ (TX4 b).2.1 := by decide +kernel
theorem tyX4_ok : ∀ k, k < 3 → parseFieldDescriptor (TX4 k).2.2.1 = some (tyX4 k) := by decide +kernel
abbrev cX4_init : ByteArray := prog_6_method_1_code
def yX4_init : MethodName := ⟨RX4, "<init>", "()V"⟩
abbrev cX4_settle : ByteArray := prog_6_method_2_code
def yX4_settle : MethodName := ⟨RX4, "settle", "(LWindCabinet$Republic;)V"⟩
abbrev cX4_can : ByteArray := prog_6_method_3_code
def yX4_can : MethodName := ⟨RX4, "can", "(I)Z"⟩
abbrev cX4_bring : ByteArray := prog_6_method_4_code
def yX4_bring : MethodName := ⟨RX4, "bring", "(I)V"⟩
def RX5 : String := "WindCabinet$Told"
def TX5 : u_T := fun k => match k with
  | 0 => ("WindCabinet$Told", "tape", "[I", true)
  | 1 => ("WindCabinet$Told", "length", "I", false)
  | 2 => ("WindCabinet$Told", "fault", "I", false)
  | 3 => ("WindCabinet$Told", "place", "I", false)
  | 4 => ("WindCabinet$Told", "counts", "[I", true)
  | 5 => ("WindCabinet$Told", "republics", "[LWindCabinet$Republic;", true)
  | _ => ("WindCabinet$Told", "rows", "[LWindCabinet$Rows;", true)
def tyX5 : Nat → FieldType := fun k => match k with
  | 0 => .array .int
  | 1 => .int
  | 2 => .int
  | 3 => .int
  | 4 => .array .int
  | 5 => .array (.object "WindCabinet$Republic")
  | _ => .array (.object "WindCabinet$Rows")
abbrev wsX50 : List Cond := u_ws RX5 TX5 7
theorem nmX5 : ∀ a, a < 7 → ∀ b, b < 7 → a ≠ b → (TX5 a).2.1 ≠ (TX5 b).2.1 := by decide +kernel
theorem tyX5_ok : ∀ k, k < 7 → parseFieldDescriptor (TX5 k).2.2.1 = some (tyX5 k) := by decide +kernel
abbrev cX5_init : ByteArray := prog_7_method_1_code
def yX5_init : MethodName := ⟨RX5, "<init>", "()V"⟩
abbrev cX5_republicKept : ByteArray := prog_7_method_2_code
def yX5_republicKept : MethodName := ⟨RX5, "republicKept", "(I)LWindCabinet$Republic;"⟩
abbrev cX5_rowsKept : ByteArray := prog_7_method_3_code
def yX5_rowsKept : MethodName := ⟨RX5, "rowsKept", "(II)LWindCabinet$Rows;"⟩
abbrev cX5_copyTold : ByteArray := prog_7_method_4_code
def yX5_copyTold : MethodName := ⟨RX5, "copyTold", "(LWindCabinet$Told;)V"⟩
def RX6 : String := "WindCabinet"
def TX6 : u_T := fun k => match k with
  | 0 => ("WindCabinet", "told", "LWindCabinet$Told;", true)
  | 1 => ("WindCabinet", "images", "[LWindCabinet$Told;", true)
  | 2 => ("WindCabinet", "reader", "LWindCabinet$Reader;", true)
  | 3 => ("WindCabinet", "course", "LWindCabinet$Course;", true)
  | 4 => ("WindCabinet", "sky", "LWindCabinet$Sky;", true)
  | 5 => ("WindCabinet", "rainLeft", "[I", true)
  | 6 => ("WindCabinet", "fitting", "[I", true)
  | _ => ("WindCabinet", "seen", "[I", true)
def tyX6 : Nat → FieldType := fun k => match k with
  | 0 => .object "WindCabinet$Told"
  | 1 => .array (.object "WindCabinet$Told")
  | 2 => .object "WindCabinet$Reader"
  | 3 => .object "WindCabinet$Course"
  | 4 => .object "WindCabinet$Sky"
  | 5 => .array .int
  | 6 => .array .int
  | _ => .array .int
abbrev wsX60 : List Cond := u_ws RX6 TX6 8
theorem nmX6 : ∀ a, a < 8 → ∀ b, b < 8 → a ≠ b → (TX6 a).2.1 ≠ (TX6 b).2.1 := by decide +kernel
theorem tyX6_ok : ∀ k, k < 8 → parseFieldDescriptor (TX6 k).2.2.1 = some (tyX6 k) := by decide +kernel
abbrev cX6_init : ByteArray := prog_1_method_1_code
def yX6_init : MethodName := ⟨RX6, "<init>", "()V"⟩
abbrev cX6_feed : ByteArray := prog_1_method_2_code
def yX6_feed : MethodName := ⟨RX6, "feed", "(IIIII)I"⟩
abbrev cX6_feedNumber : ByteArray := prog_1_method_3_code
def yX6_feedNumber : MethodName := ⟨RX6, "feedNumber", "(I)V"⟩
abbrev cX6_end : ByteArray := prog_1_method_4_code
def yX6_end : MethodName := ⟨RX6, "end", "(I)I"⟩
abbrev cX6_text : ByteArray := prog_1_method_5_code
def yX6_text : MethodName := ⟨RX6, "text", "(II)I"⟩
abbrev cX6_placeFor : ByteArray := prog_1_method_6_code
def yX6_placeFor : MethodName := ⟨RX6, "placeFor", "(II)I"⟩
abbrev cX6_keep : ByteArray := prog_1_method_7_code
def yX6_keep : MethodName := ⟨RX6, "keep", "(II)V"⟩
abbrev cX6_fault : ByteArray := prog_1_method_8_code
def yX6_fault : MethodName := ⟨RX6, "fault", "(I)I"⟩
abbrev cX6_count : ByteArray := prog_1_method_9_code
def yX6_count : MethodName := ⟨RX6, "count", "(I)I"⟩
abbrev cX6_image : ByteArray := prog_1_method_10_code
def yX6_image : MethodName := ⟨RX6, "image", "(I)Z"⟩
abbrev cX6_again : ByteArray := prog_1_method_11_code
def yX6_again : MethodName := ⟨RX6, "again", "(I)Z"⟩
abbrev cX6_republicAt : ByteArray := prog_1_method_12_code
def yX6_republicAt : MethodName := ⟨RX6, "republicAt", "(I)LWindCabinet$Republic;"⟩
abbrev cX6_rowsAt : ByteArray := prog_1_method_13_code
def yX6_rowsAt : MethodName := ⟨RX6, "rowsAt", "(II)LWindCabinet$Rows;"⟩
abbrev cX6_republic : ByteArray := prog_1_method_14_code
def yX6_republic : MethodName := ⟨RX6, "republic", "(II)I"⟩
abbrev cX6_minister : ByteArray := prog_1_method_15_code
def yX6_minister : MethodName := ⟨RX6, "minister", "(III)I"⟩
abbrev cX6_order : ByteArray := prog_1_method_16_code
def yX6_order : MethodName := ⟨RX6, "order", "(III)I"⟩
abbrev cX6_deed : ByteArray := prog_1_method_17_code
def yX6_deed : MethodName := ⟨RX6, "deed", "(III)I"⟩
abbrev cX6_leak : ByteArray := prog_1_method_18_code
def yX6_leak : MethodName := ⟨RX6, "leak", "(III)I"⟩
abbrev cX6_was : ByteArray := prog_1_method_19_code
def yX6_was : MethodName := ⟨RX6, "was", "(III)I"⟩
abbrev cX6_rowTold : ByteArray := prog_1_method_20_code
def yX6_rowTold : MethodName := ⟨RX6, "rowTold", "(LWindCabinet$Rows;III)I"⟩
abbrev cX6_movedIn : ByteArray := prog_1_method_21_code
def yX6_movedIn : MethodName := ⟨RX6, "movedIn", "(IIII)LWindCabinet$Republic;"⟩
abbrev cX6_off : ByteArray := prog_1_method_22_code
def yX6_off : MethodName := ⟨RX6, "off", "(IIIIII)I"⟩
abbrev cX6_vote : ByteArray := prog_1_method_23_code
def yX6_vote : MethodName := ⟨RX6, "vote", "(IIIIIIZ)I"⟩
abbrev cX6_broken : ByteArray := prog_1_method_24_code
def yX6_broken : MethodName := ⟨RX6, "broken", "(IIIIII)I"⟩
abbrev cX6_firstBroken : ByteArray := prog_1_method_25_code
def yX6_firstBroken : MethodName := ⟨RX6, "firstBroken", "(LWindCabinet$Rows;III)I"⟩
abbrev cX6_isBroken : ByteArray := prog_1_method_26_code
def yX6_isBroken : MethodName := ⟨RX6, "isBroken", "(LWindCabinet$Rows;IIII)Z"⟩
abbrev cX6_stop : ByteArray := prog_1_method_27_code
def yX6_stop : MethodName := ⟨RX6, "stop", "(III)I"⟩
abbrev cX6_state : ByteArray := prog_1_method_28_code
def yX6_state : MethodName := ⟨RX6, "state", "(IIIII)I"⟩
abbrev cX6_stateTold : ByteArray := prog_1_method_29_code
def yX6_stateTold : MethodName := ⟨RX6, "stateTold", "(LWindCabinet$Republic;I)I"⟩
abbrev cX6_drawn : ByteArray := prog_1_method_30_code
def yX6_drawn : MethodName := ⟨RX6, "drawn", "(IIII)I"⟩
abbrev cX6_agreed : ByteArray := prog_1_method_31_code
def yX6_agreed : MethodName := ⟨RX6, "agreed", "(IIIII)I"⟩
abbrev cX6_isAgreed : ByteArray := prog_1_method_32_code
def yX6_isAgreed : MethodName := ⟨RX6, "isAgreed", "(LWindCabinet$Republic;LWindCabinet$Rows;III)Z"⟩
abbrev cX6_manyAgreed : ByteArray := prog_1_method_33_code
def yX6_manyAgreed : MethodName := ⟨RX6, "manyAgreed", "(LWindCabinet$Republic;LWindCabinet$Rows;II)I"⟩
abbrev cX6_bestAgreed : ByteArray := prog_1_method_34_code
def yX6_bestAgreed : MethodName := ⟨RX6, "bestAgreed", "(LWindCabinet$Republic;LWindCabinet$Rows;IIZ)I"⟩
abbrev cX6_rank : ByteArray := prog_1_method_35_code
def yX6_rank : MethodName := ⟨RX6, "rank", "(IZ)I"⟩
abbrev cX6_power : ByteArray := prog_1_method_36_code
def yX6_power : MethodName := ⟨RX6, "power", "(IIZ)I"⟩
abbrev cX6_rowsDecided : ByteArray := prog_1_method_37_code
def yX6_rowsDecided : MethodName := ⟨RX6, "rowsDecided", "(LWindCabinet$Republic;I)I"⟩
abbrev cX6_coalition : ByteArray := prog_1_method_38_code
def yX6_coalition : MethodName := ⟨RX6, "coalition", "(II)I"⟩
abbrev cX6_keyMinisters : ByteArray := prog_1_method_39_code
def yX6_keyMinisters : MethodName := ⟨RX6, "keyMinisters", "(LWindCabinet$Republic;)I"⟩
abbrev cX6_leastCoalition : ByteArray := prog_1_method_40_code
def yX6_leastCoalition : MethodName := ⟨RX6, "leastCoalition", "(LWindCabinet$Republic;I)I"⟩
abbrev cX6_isLeastCoalition : ByteArray := prog_1_method_41_code
def yX6_isLeastCoalition : MethodName := ⟨RX6, "isLeastCoalition", "(LWindCabinet$Republic;I)Z"⟩
abbrev cX6_bribe : ByteArray := prog_1_method_42_code
def yX6_bribe : MethodName := ⟨RX6, "bribe", "(IIIIIIZ)I"⟩
abbrev cX6_bribeOf : ByteArray := prog_1_method_43_code
def yX6_bribeOf : MethodName := ⟨RX6, "bribeOf", "(LWindCabinet$Republic;IIII)I"⟩
abbrev cX6_lobby : ByteArray := prog_1_method_44_code
def yX6_lobby : MethodName := ⟨RX6, "lobby", "(IIIIIII)I"⟩
abbrev cX6_isRest : ByteArray := prog_1_method_45_code
def yX6_isRest : MethodName := ⟨RX6, "isRest", "(LWindCabinet$Republic;III)Z"⟩
abbrev cX6_gain : ByteArray := prog_1_method_46_code
def yX6_gain : MethodName := ⟨RX6, "gain", "(LWindCabinet$Republic;IIIZ)I"⟩
abbrev cX6_boughtBy : ByteArray := prog_1_method_47_code
def yX6_boughtBy : MethodName := ⟨RX6, "boughtBy", "(LWindCabinet$Republic;III)I"⟩
abbrev cX6_bargain : ByteArray := prog_1_method_48_code
def yX6_bargain : MethodName := ⟨RX6, "bargain", "(III)I"⟩
abbrev cX6_leavers : ByteArray := prog_1_method_49_code
def yX6_leavers : MethodName := ⟨RX6, "leavers", "(LWindCabinet$Republic;LWindCabinet$Rows;Z)I"⟩
abbrev cX6_sharesOf : ByteArray := prog_1_method_50_code
def yX6_sharesOf : MethodName := ⟨RX6, "sharesOf", "(LWindCabinet$Republic;LWindCabinet$Rows;I)I"⟩
abbrev cX6_nature : ByteArray := prog_1_method_51_code
def yX6_nature : MethodName := ⟨RX6, "nature", "(III)I"⟩
abbrev cX6_firstWrong : ByteArray := prog_1_method_52_code
def yX6_firstWrong : MethodName := ⟨RX6, "firstWrong", "(LWindCabinet$Republic;LWindCabinet$Rows;)I"⟩
abbrev cX6_mend : ByteArray := prog_1_method_53_code
def yX6_mend : MethodName := ⟨RX6, "mend", "(LWindCabinet$Republic;LWindCabinet$Rows;)I"⟩
abbrev cX6_seats : ByteArray := prog_1_method_54_code
def yX6_seats : MethodName := ⟨RX6, "seats", "(III)I"⟩
abbrev cX6_findFitting : ByteArray := prog_1_method_55_code
def yX6_findFitting : MethodName := ⟨RX6, "findFitting", "(LWindCabinet$Republic;LWindCabinet$Rows;)I"⟩
abbrev cX6_isFit : ByteArray := prog_1_method_56_code
def yX6_isFit : MethodName := ⟨RX6, "isFit", "(LWindCabinet$Republic;LWindCabinet$Rows;I)Z"⟩
abbrev cX6_tellingSeason : ByteArray := prog_1_method_57_code
def yX6_tellingSeason : MethodName := ⟨RX6, "tellingSeason", "(LWindCabinet$Republic;I)I"⟩
abbrev cX6_unlikeProposals : ByteArray := prog_1_method_58_code
def yX6_unlikeProposals : MethodName := ⟨RX6, "unlikeProposals", "(LWindCabinet$Republic;II)I"⟩
abbrev cX6_reshuffle : ByteArray := prog_1_method_59_code
def yX6_reshuffle : MethodName := ⟨RX6, "reshuffle", "(IZ)I"⟩
abbrev cX6_wetSeasons : ByteArray := prog_1_method_60_code
def yX6_wetSeasons : MethodName := ⟨RX6, "wetSeasons", "(LWindCabinet$Republic;I)I"⟩
abbrev cX6_fits : ByteArray := prog_1_method_61_code
def yX6_fits : MethodName := ⟨RX6, "fits", "(IIIII)I"⟩
abbrev cX6_areThere : ByteArray := prog_1_method_62_code
def yX6_areThere : MethodName := ⟨RX6, "areThere", "(LWindCabinet$Republic;LWindCabinet$Rows;)Z"⟩
abbrev cX6_unfit : ByteArray := prog_1_method_63_code
def yX6_unfit : MethodName := ⟨RX6, "unfit", "(LWindCabinet$Republic;LWindCabinet$Rows;III)I"⟩
abbrev cX6_manyFitting : ByteArray := prog_1_method_64_code
def yX6_manyFitting : MethodName := ⟨RX6, "manyFitting", "(LWindCabinet$Republic;LWindCabinet$Rows;IIZ)I"⟩
abbrev cX6_likelyRain : ByteArray := prog_1_method_65_code
def yX6_likelyRain : MethodName := ⟨RX6, "likelyRain", "(LWindCabinet$Republic;LWindCabinet$Rows;IIZ)I"⟩
abbrev cX6_extreme : ByteArray := prog_1_method_66_code
def yX6_extreme : MethodName := ⟨RX6, "extreme", "(LWindCabinet$Republic;LWindCabinet$Rows;IIIZ)I"⟩
abbrev cX6_lies : ByteArray := prog_1_method_67_code
def yX6_lies : MethodName := ⟨RX6, "lies", "(LWindCabinet$Republic;LWindCabinet$Rows;II)I"⟩
abbrev cX6_isSeason : ByteArray := prog_1_method_68_code
def yX6_isSeason : MethodName := ⟨RX6, "isSeason", "(I)Z"⟩
abbrev cX6_isAmount : ByteArray := prog_1_method_69_code
def yX6_isAmount : MethodName := ⟨RX6, "isAmount", "(I)Z"⟩
abbrev cX6_dayOf : ByteArray := prog_1_method_70_code
def yX6_dayOf : MethodName := ⟨RX6, "dayOf", "(III)I"⟩
abbrev cX6_numberOf : ByteArray := prog_1_method_71_code
def yX6_numberOf : MethodName := ⟨RX6, "numberOf", "(III)I"⟩
abbrev cX6_amount : ByteArray := prog_1_method_72_code
def yX6_amount : MethodName := ⟨RX6, "amount", "(II)I"⟩
abbrev cX6_has : ByteArray := prog_1_method_73_code
def yX6_has : MethodName := ⟨RX6, "has", "(II)Z"⟩
abbrev cX6_cell : ByteArray := prog_1_method_74_code
def yX6_cell : MethodName := ⟨RX6, "cell", "([II)I"⟩
abbrev cX6_put : ByteArray := prog_1_method_75_code
def yX6_put : MethodName := ⟨RX6, "put", "([III)V"⟩
abbrev cX6_copy : ByteArray := prog_1_method_76_code
def yX6_copy : MethodName := ⟨RX6, "copy", "([I[I)V"⟩
abbrev cX6_fraction : ByteArray := prog_1_method_77_code
def yX6_fraction : MethodName := ⟨RX6, "fraction", "(IIZ)I"⟩
abbrev cX6_commonDivisor : ByteArray := prog_1_method_78_code
def yX6_commonDivisor : MethodName := ⟨RX6, "commonDivisor", "(II)I"⟩
def RX7 : String := "WindCabinetModel"
def TX7 : u_T := fun k => match k with
  | 0 => ("WindCabinetModel", "all", "[I", true)
  | 1 => ("WindCabinetModel", "has", "[Z", true)
  | 2 => ("WindCabinetModel", "size", "I", false)
  | 3 => ("WindCabinetModel", "next", "I", false)
  | 4 => ("WindCabinetModel", "where", "I", false)
  | 5 => ("WindCabinetModel", "token", "I", false)
  | 6 => ("WindCabinetModel", "number", "I", false)
  | 7 => ("WindCabinetModel", "word", "I", false)
  | 8 => ("WindCabinetModel", "wrong", "Z", false)
  | 9 => ("WindCabinetModel", "greatest", "I", false)
  | 10 => ("WindCabinetModel", "read", "[I", true)
  | 11 => ("WindCabinetModel", "r0", "I", false)
  | 12 => ("WindCabinetModel", "rain", "I", false)
  | 13 => ("WindCabinetModel", "wind", "I", false)
  | 14 => ("WindCabinetModel", "sun", "I", false)
  | 15 => ("WindCabinetModel", "mover", "I", false)
  | 16 => ("WindCabinetModel", "season", "I", false)
  | 17 => ("WindCabinetModel", "o0", "I", false)
  | 18 => ("WindCabinetModel", "there", "I", false)
  | 19 => ("WindCabinetModel", "resigned", "I", false)
  | 20 => ("WindCabinetModel", "cloud", "I", false)
  | 21 => ("WindCabinetModel", "ground", "I", false)
  | 22 => ("WindCabinetModel", "heat", "I", false)
  | 23 => ("WindCabinetModel", "days", "I", false)
  | 24 => ("WindCabinetModel", "committees", "I", false)
  | 25 => ("WindCabinetModel", "latest", "I", false)
  | 26 => ("WindCabinetModel", "done", "I", false)
  | 27 => ("WindCabinetModel", "office", "[I", true)
  | 28 => ("WindCabinetModel", "anger", "[I", true)
  | 29 => ("WindCabinetModel", "y0", "I", false)
  | 30 => ("WindCabinetModel", "s0", "I", false)
  | 31 => ("WindCabinetModel", "less", "[I", true)
  | 32 => ("WindCabinetModel", "met", "[Z", true)
  | 33 => ("WindCabinetModel", "k0", "I", false)
  | _ => ("WindCabinetModel", "x0", "I", false)
def tyX7 : Nat → FieldType := fun k => match k with
  | 0 => .array .int
  | 1 => .array .boolean
  | 2 => .int
  | 3 => .int
  | 4 => .int
  | 5 => .int
  | 6 => .int
  | 7 => .int
  | 8 => .boolean
  | 9 => .int
  | 10 => .array .int
  | 11 => .int
  | 12 => .int
  | 13 => .int
  | 14 => .int
  | 15 => .int
  | 16 => .int
  | 17 => .int
  | 18 => .int
  | 19 => .int
  | 20 => .int
  | 21 => .int
  | 22 => .int
  | 23 => .int
  | 24 => .int
  | 25 => .int
  | 26 => .int
  | 27 => .array .int
  | 28 => .array .int
  | 29 => .int
  | 30 => .int
  | 31 => .array .int
  | 32 => .array .boolean
  | 33 => .int
  | _ => .int
abbrev wsX70 : List Cond := u_ws RX7 TX7 35
theorem nmX7 : ∀ a, a < 35 → ∀ b, b < 35 → a ≠ b → (TX7 a).2.1 ≠ (TX7 b).2.1 := by decide +kernel
theorem tyX7_ok : ∀ k, k < 35 → parseFieldDescriptor (TX7 k).2.2.1 = some (tyX7 k) := by decide +kernel
abbrev cX7_init : ByteArray := prog_9_method_1_code
def yX7_init : MethodName := ⟨RX7, "<init>", "()V"⟩
abbrev cX7_isIn : ByteArray := prog_9_method_2_code
def yX7_isIn : MethodName := ⟨RX7, "isIn", "(III)Z"⟩
abbrev cX7_feed : ByteArray := prog_9_method_3_code
def yX7_feed : MethodName := ⟨RX7, "feed", "(IIIII)I"⟩
abbrev cX7_end : ByteArray := prog_9_method_4_code
def yX7_end : MethodName := ⟨RX7, "end", "(I)I"⟩
abbrev cX7_byteAt : ByteArray := prog_9_method_5_code
def yX7_byteAt : MethodName := ⟨RX7, "byteAt", "(I)I"⟩
abbrev cX7_isLetter : ByteArray := prog_9_method_6_code
def yX7_isLetter : MethodName := ⟨RX7, "isLetter", "(I)Z"⟩
abbrev cX7_isDigit : ByteArray := prog_9_method_7_code
def yX7_isDigit : MethodName := ⟨RX7, "isDigit", "(I)Z"⟩
abbrev cX7_four : ByteArray := prog_9_method_8_code
def yX7_four : MethodName := ⟨RX7, "four", "(IIII)J"⟩
abbrev cX7_eight : ByteArray := prog_9_method_9_code
def yX7_eight : MethodName := ⟨RX7, "eight", "(IIIIIIII)J"⟩
abbrev cX7_wordOf : ByteArray := prog_9_method_10_code
def yX7_wordOf : MethodName := ⟨RX7, "wordOf", "(J)I"⟩
abbrev cX7_kindOrSeason : ByteArray := prog_9_method_11_code
def yX7_kindOrSeason : MethodName := ⟨RX7, "kindOrSeason", "(J)I"⟩
abbrev cX7_otherWord : ByteArray := prog_9_method_12_code
def yX7_otherWord : MethodName := ⟨RX7, "otherWord", "(J)I"⟩
abbrev cX7_advance : ByteArray := prog_9_method_13_code
def yX7_advance : MethodName := ⟨RX7, "advance", "()V"⟩
abbrev cX7_ends : ByteArray := prog_9_method_14_code
def yX7_ends : MethodName := ⟨RX7, "ends", "()V"⟩
abbrev cX7_also : ByteArray := prog_9_method_15_code
def yX7_also : MethodName := ⟨RX7, "also", "(II)V"⟩
abbrev cX7_numbered : ByteArray := prog_9_method_16_code
def yX7_numbered : MethodName := ⟨RX7, "numbered", "(II)I"⟩
abbrev cX7_takes : ByteArray := prog_9_method_17_code
def yX7_takes : MethodName := ⟨RX7, "takes", "(II)I"⟩
abbrev cX7_endsLine : ByteArray := prog_9_method_18_code
def yX7_endsLine : MethodName := ⟨RX7, "endsLine", "()V"⟩
abbrev cX7_kindTold : ByteArray := prog_9_method_19_code
def yX7_kindTold : MethodName := ⟨RX7, "kindTold", "()I"⟩
abbrev cX7_seasonTold : ByteArray := prog_9_method_20_code
def yX7_seasonTold : MethodName := ⟨RX7, "seasonTold", "()I"⟩
abbrev cX7_ministerTold : ByteArray := prog_9_method_21_code
def yX7_ministerTold : MethodName := ⟨RX7, "ministerTold", "()I"⟩
abbrev cX7_ministerLine : ByteArray := prog_9_method_22_code
def yX7_ministerLine : MethodName := ⟨RX7, "ministerLine", "(I)V"⟩
abbrev cX7_wantLine : ByteArray := prog_9_method_23_code
def yX7_wantLine : MethodName := ⟨RX7, "wantLine", "()V"⟩
abbrev cX7_feudLine : ByteArray := prog_9_method_24_code
def yX7_feudLine : MethodName := ⟨RX7, "feudLine", "()V"⟩
abbrev cX7_republicLine : ByteArray := prog_9_method_25_code
def yX7_republicLine : MethodName := ⟨RX7, "republicLine", "()V"⟩
abbrev cX7_adds : ByteArray := prog_9_method_26_code
def yX7_adds : MethodName := ⟨RX7, "adds", "(IIIIII)V"⟩
abbrev cX7_noLine : ByteArray := prog_9_method_27_code
def yX7_noLine : MethodName := ⟨RX7, "noLine", "()V"⟩
abbrev cX7_orderLine : ByteArray := prog_9_method_28_code
def yX7_orderLine : MethodName := ⟨RX7, "orderLine", "()V"⟩
abbrev cX7_yearLine : ByteArray := prog_9_method_29_code
def yX7_yearLine : MethodName := ⟨RX7, "yearLine", "()V"⟩
abbrev cX7_leakLine : ByteArray := prog_9_method_30_code
def yX7_leakLine : MethodName := ⟨RX7, "leakLine", "()V"⟩
abbrev cX7_summerLine : ByteArray := prog_9_method_31_code
def yX7_summerLine : MethodName := ⟨RX7, "summerLine", "()V"⟩
abbrev cX7_bargainLine : ByteArray := prog_9_method_32_code
def yX7_bargainLine : MethodName := ⟨RX7, "bargainLine", "()V"⟩
abbrev cX7_placeOf : ByteArray := prog_9_method_33_code
def yX7_placeOf : MethodName := ⟨RX7, "placeOf", "(II)I"⟩
abbrev cX7_sizeOf : ByteArray := prog_9_method_34_code
def yX7_sizeOf : MethodName := ⟨RX7, "sizeOf", "(I)I"⟩
abbrev cX7_isOf : ByteArray := prog_9_method_35_code
def yX7_isOf : MethodName := ⟨RX7, "isOf", "(II)Z"⟩
abbrev cX7_clears : ByteArray := prog_9_method_36_code
def yX7_clears : MethodName := ⟨RX7, "clears", "(I)V"⟩
abbrev cX7_text : ByteArray := prog_9_method_37_code
def yX7_text : MethodName := ⟨RX7, "text", "(II)I"⟩
abbrev cX7_fault : ByteArray := prog_9_method_38_code
def yX7_fault : MethodName := ⟨RX7, "fault", "(I)I"⟩
abbrev cX7_isRepublic : ByteArray := prog_9_method_39_code
def yX7_isRepublic : MethodName := ⟨RX7, "isRepublic", "(I)Z"⟩
abbrev cX7_of : ByteArray := prog_9_method_40_code
def yX7_of : MethodName := ⟨RX7, "of", "(I)I"⟩
abbrev cX7_ministers : ByteArray := prog_9_method_41_code
def yX7_ministers : MethodName := ⟨RX7, "ministers", "()I"⟩
abbrev cX7_isMinister : ByteArray := prog_9_method_42_code
def yX7_isMinister : MethodName := ⟨RX7, "isMinister", "(I)Z"⟩
abbrev cX7_ofMinister : ByteArray := prog_9_method_43_code
def yX7_ofMinister : MethodName := ⟨RX7, "ofMinister", "(II)I"⟩
abbrev cX7_wants : ByteArray := prog_9_method_44_code
def yX7_wants : MethodName := ⟨RX7, "wants", "(III)I"⟩
abbrev cX7_republic : ByteArray := prog_9_method_45_code
def yX7_republic : MethodName := ⟨RX7, "republic", "(II)I"⟩
abbrev cX7_minister : ByteArray := prog_9_method_46_code
def yX7_minister : MethodName := ⟨RX7, "minister", "(III)I"⟩
abbrev cX7_amountOf : ByteArray := prog_9_method_47_code
def yX7_amountOf : MethodName := ⟨RX7, "amountOf", "(II)I"⟩
abbrev cX7_talksOf : ByteArray := prog_9_method_48_code
def yX7_talksOf : MethodName := ⟨RX7, "talksOf", "(I)V"⟩
abbrev cX7_size : ByteArray := prog_9_method_49_code
def yX7_size : MethodName := ⟨RX7, "size", "(I)I"⟩
abbrev cX7_offOf : ByteArray := prog_9_method_50_code
def yX7_offOf : MethodName := ⟨RX7, "offOf", "(I)I"⟩
abbrev cX7_yields : ByteArray := prog_9_method_51_code
def yX7_yields : MethodName := ⟨RX7, "yields", "(I)I"⟩
abbrev cX7_agrees : ByteArray := prog_9_method_52_code
def yX7_agrees : MethodName := ⟨RX7, "agrees", "(I)Z"⟩
abbrev cX7_agreeing : ByteArray := prog_9_method_53_code
def yX7_agreeing : MethodName := ⟨RX7, "agreeing", "()I"⟩
abbrev cX7_votesOf : ByteArray := prog_9_method_54_code
def yX7_votesOf : MethodName := ⟨RX7, "votesOf", "(I)I"⟩
abbrev cX7_vetoes : ByteArray := prog_9_method_55_code
def yX7_vetoes : MethodName := ⟨RX7, "vetoes", "()I"⟩
abbrev cX7_isPassed : ByteArray := prog_9_method_56_code
def yX7_isPassed : MethodName := ⟨RX7, "isPassed", "(I)Z"⟩
abbrev cX7_areAmounts : ByteArray := prog_9_method_57_code
def yX7_areAmounts : MethodName := ⟨RX7, "areAmounts", "(III)Z"⟩
abbrev cX7_isMotion : ByteArray := prog_9_method_58_code
def yX7_isMotion : MethodName := ⟨RX7, "isMotion", "(IIIIII)Z"⟩
abbrev cX7_off : ByteArray := prog_9_method_59_code
def yX7_off : MethodName := ⟨RX7, "off", "(IIIIII)I"⟩
abbrev cX7_vote : ByteArray := prog_9_method_60_code
def yX7_vote : MethodName := ⟨RX7, "vote", "(IIIIIIZ)I"⟩
abbrev cX7_areOrders : ByteArray := prog_9_method_61_code
def yX7_areOrders : MethodName := ⟨RX7, "areOrders", "(I)Z"⟩
abbrev cX7_orderOf : ByteArray := prog_9_method_62_code
def yX7_orderOf : MethodName := ⟨RX7, "orderOf", "(II)I"⟩
abbrev cX7_order : ByteArray := prog_9_method_63_code
def yX7_order : MethodName := ⟨RX7, "order", "(III)I"⟩
abbrev cX7_amount : ByteArray := prog_9_method_64_code
def yX7_amount : MethodName := ⟨RX7, "amount", "(I)I"⟩
abbrev cX7_isBroken : ByteArray := prog_9_method_65_code
def yX7_isBroken : MethodName := ⟨RX7, "isBroken", "(II)Z"⟩
abbrev cX7_firstBroken : ByteArray := prog_9_method_66_code
def yX7_firstBroken : MethodName := ⟨RX7, "firstBroken", "(I)I"⟩
abbrev cX7_broken : ByteArray := prog_9_method_67_code
def yX7_broken : MethodName := ⟨RX7, "broken", "(IIIIII)I"⟩
abbrev cX7_begins : ByteArray := prog_9_method_68_code
def yX7_begins : MethodName := ⟨RX7, "begins", "()V"⟩
abbrev cX7_canNature : ByteArray := prog_9_method_69_code
def yX7_canNature : MethodName := ⟨RX7, "canNature", "()Z"⟩
abbrev cX7_goes : ByteArray := prog_9_method_70_code
def yX7_goes : MethodName := ⟨RX7, "goes", "()V"⟩
abbrev cX7_committee : ByteArray := prog_9_method_71_code
def yX7_committee : MethodName := ⟨RX7, "committee", "()V"⟩
abbrev cX7_angers : ByteArray := prog_9_method_72_code
def yX7_angers : MethodName := ⟨RX7, "angers", "(I)V"⟩
abbrev cX7_moves : ByteArray := prog_9_method_73_code
def yX7_moves : MethodName := ⟨RX7, "moves", "()V"⟩
abbrev cX7_deeds : ByteArray := prog_9_method_74_code
def yX7_deeds : MethodName := ⟨RX7, "deeds", "()I"⟩
abbrev cX7_deedOf : ByteArray := prog_9_method_75_code
def yX7_deedOf : MethodName := ⟨RX7, "deedOf", "(II)I"⟩
abbrev cX7_deed : ByteArray := prog_9_method_76_code
def yX7_deed : MethodName := ⟨RX7, "deed", "(III)I"⟩
abbrev cX7_isThere : ByteArray := prog_9_method_77_code
def yX7_isThere : MethodName := ⟨RX7, "isThere", "(I)Z"⟩
abbrev cX7_can : ByteArray := prog_9_method_78_code
def yX7_can : MethodName := ⟨RX7, "can", "(I)Z"⟩
abbrev cX7_does : ByteArray := prog_9_method_79_code
def yX7_does : MethodName := ⟨RX7, "does", "(I)V"⟩
abbrev cX7_areTold : ByteArray := prog_9_method_80_code
def yX7_areTold : MethodName := ⟨RX7, "areTold", "(III)Z"⟩
abbrev cX7_runs : ByteArray := prog_9_method_81_code
def yX7_runs : MethodName := ⟨RX7, "runs", "(I)V"⟩
abbrev cX7_stop : ByteArray := prog_9_method_82_code
def yX7_stop : MethodName := ⟨RX7, "stop", "(III)I"⟩
abbrev cX7_state : ByteArray := prog_9_method_83_code
def yX7_state : MethodName := ⟨RX7, "state", "(IIIII)I"⟩
abbrev cX7_isAgreed : ByteArray := prog_9_method_84_code
def yX7_isAgreed : MethodName := ⟨RX7, "isAgreed", "(IZ)Z"⟩
abbrev cX7_rank : ByteArray := prog_9_method_85_code
def yX7_rank : MethodName := ⟨RX7, "rank", "(IZ)I"⟩
abbrev cX7_agreed : ByteArray := prog_9_method_86_code
def yX7_agreed : MethodName := ⟨RX7, "agreed", "(IIIII)I"⟩
abbrev cX7_common : ByteArray := prog_9_method_87_code
def yX7_common : MethodName := ⟨RX7, "common", "(II)I"⟩
abbrev cX7_part : ByteArray := prog_9_method_88_code
def yX7_part : MethodName := ⟨RX7, "part", "(IIZ)I"⟩
abbrev cX7_factorial : ByteArray := prog_9_method_89_code
def yX7_factorial : MethodName := ⟨RX7, "factorial", "(I)I"⟩
abbrev cX7_bits : ByteArray := prog_9_method_90_code
def yX7_bits : MethodName := ⟨RX7, "bits", "(I)I"⟩
abbrev cX7_everybody : ByteArray := prog_9_method_91_code
def yX7_everybody : MethodName := ⟨RX7, "everybody", "()I"⟩
abbrev cX7_isEnough : ByteArray := prog_9_method_92_code
def yX7_isEnough : MethodName := ⟨RX7, "isEnough", "(I)Z"⟩
abbrev cX7_power : ByteArray := prog_9_method_93_code
def yX7_power : MethodName := ⟨RX7, "power", "(IIZ)I"⟩
abbrev cX7_key : ByteArray := prog_9_method_94_code
def yX7_key : MethodName := ⟨RX7, "key", "()I"⟩
abbrev cX7_isLeast : ByteArray := prog_9_method_95_code
def yX7_isLeast : MethodName := ⟨RX7, "isLeast", "(I)Z"⟩
abbrev cX7_coalition : ByteArray := prog_9_method_96_code
def yX7_coalition : MethodName := ⟨RX7, "coalition", "(II)I"⟩
abbrev cX7_costOf : ByteArray := prog_9_method_97_code
def yX7_costOf : MethodName := ⟨RX7, "costOf", "(I)I"⟩
abbrev cX7_bribe : ByteArray := prog_9_method_98_code
def yX7_bribe : MethodName := ⟨RX7, "bribe", "(IIIIIIZ)I"⟩
abbrev cX7_priceOf : ByteArray := prog_9_method_99_code
def yX7_priceOf : MethodName := ⟨RX7, "priceOf", "(I)I"⟩
abbrev cX7_gainOf : ByteArray := prog_9_method_100_code
def yX7_gainOf : MethodName := ⟨RX7, "gainOf", "(IIZ)I"⟩
abbrev cX7_isRest : ByteArray := prog_9_method_101_code
def yX7_isRest : MethodName := ⟨RX7, "isRest", "(II)Z"⟩
abbrev cX7_lobby : ByteArray := prog_9_method_102_code
def yX7_lobby : MethodName := ⟨RX7, "lobby", "(IIIIIII)I"⟩
abbrev cX7_bargain : ByteArray := prog_9_method_103_code
def yX7_bargain : MethodName := ⟨RX7, "bargain", "(III)I"⟩
abbrev cX7_isSummer : ByteArray := prog_9_method_104_code
def yX7_isSummer : MethodName := ⟨RX7, "isSummer", "(I)Z"⟩
abbrev cX7_summerDays : ByteArray := prog_9_method_105_code
def yX7_summerDays : MethodName := ⟨RX7, "summerDays", "()I"⟩
abbrev cX7_dayOf : ByteArray := prog_9_method_106_code
def yX7_dayOf : MethodName := ⟨RX7, "dayOf", "(II)I"⟩
abbrev cX7_numberOf : ByteArray := prog_9_method_107_code
def yX7_numberOf : MethodName := ⟨RX7, "numberOf", "(I)I"⟩
abbrev cX7_was : ByteArray := prog_9_method_108_code
def yX7_was : MethodName := ⟨RX7, "was", "(III)I"⟩
abbrev cX7_wrongDay : ByteArray := prog_9_method_109_code
def yX7_wrongDay : MethodName := ⟨RX7, "wrongDay", "()I"⟩
abbrev cX7_isHeatRight : ByteArray := prog_9_method_110_code
def yX7_isHeatRight : MethodName := ⟨RX7, "isHeatRight", "()Z"⟩
abbrev cX7_cloudAfter : ByteArray := prog_9_method_111_code
def yX7_cloudAfter : MethodName := ⟨RX7, "cloudAfter", "(III)I"⟩
abbrev cX7_mends : ByteArray := prog_9_method_112_code
def yX7_mends : MethodName := ⟨RX7, "mends", "()V"⟩
abbrev cX7_fallsOn : ByteArray := prog_9_method_113_code
def yX7_fallsOn : MethodName := ⟨RX7, "fallsOn", "(I)I"⟩
abbrev cX7_nature : ByteArray := prog_9_method_114_code
def yX7_nature : MethodName := ⟨RX7, "nature", "(III)I"⟩
abbrev cX7_areSeats : ByteArray := prog_9_method_115_code
def yX7_areSeats : MethodName := ⟨RX7, "areSeats", "(I)Z"⟩
abbrev cX7_proposal : ByteArray := prog_9_method_116_code
def yX7_proposal : MethodName := ⟨RX7, "proposal", "(II)I"⟩
abbrev cX7_isSat : ByteArray := prog_9_method_117_code
def yX7_isSat : MethodName := ⟨RX7, "isSat", "(I)Z"⟩
abbrev cX7_unlike : ByteArray := prog_9_method_118_code
def yX7_unlike : MethodName := ⟨RX7, "unlike", "(I)I"⟩
abbrev cX7_seats : ByteArray := prog_9_method_119_code
def yX7_seats : MethodName := ⟨RX7, "seats", "(III)I"⟩
abbrev cX7_rainy : ByteArray := prog_9_method_120_code
def yX7_rainy : MethodName := ⟨RX7, "rainy", "(I)I"⟩
abbrev cX7_reshuffle : ByteArray := prog_9_method_121_code
def yX7_reshuffle : MethodName := ⟨RX7, "reshuffle", "(IZ)I"⟩
abbrev cX7_leakOf : ByteArray := prog_9_method_122_code
def yX7_leakOf : MethodName := ⟨RX7, "leakOf", "(II)I"⟩
abbrev cX7_leak : ByteArray := prog_9_method_123_code
def yX7_leak : MethodName := ⟨RX7, "leak", "(III)I"⟩
abbrev cX7_isFit : ByteArray := prog_9_method_124_code
def yX7_isFit : MethodName := ⟨RX7, "isFit", "(II)Z"⟩
abbrev cX7_fitting : ByteArray := prog_9_method_125_code
def yX7_fitting : MethodName := ⟨RX7, "fitting", "(I)I"⟩
abbrev cX7_extreme : ByteArray := prog_9_method_126_code
def yX7_extreme : MethodName := ⟨RX7, "extreme", "(IZ)I"⟩
abbrev cX7_rainyFit : ByteArray := prog_9_method_127_code
def yX7_rainyFit : MethodName := ⟨RX7, "rainyFit", "()I"⟩
abbrev cX7_fits : ByteArray := prog_9_method_128_code
def yX7_fits : MethodName := ⟨RX7, "fits", "(IIIII)I"⟩
abbrev cX7_below : ByteArray := prog_9_method_129_code
def yX7_below : MethodName := ⟨RX7, "below", "(I)I"⟩
abbrev cX7_thereAt : ByteArray := prog_9_method_130_code
def yX7_thereAt : MethodName := ⟨RX7, "thereAt", "(I)I"⟩
abbrev cX7_drawn : ByteArray := prog_9_method_131_code
def yX7_drawn : MethodName := ⟨RX7, "drawn", "(IIII)I"⟩
abbrev cX7_count : ByteArray := prog_9_method_132_code
def yX7_count : MethodName := ⟨RX7, "count", "(I)I"⟩
abbrev cX7_image : ByteArray := prog_9_method_133_code
def yX7_image : MethodName := ⟨RX7, "image", "(I)Z"⟩
abbrev cX7_again : ByteArray := prog_9_method_134_code
def yX7_again : MethodName := ⟨RX7, "again", "(I)Z"⟩
def RJx145de : String := "java/io/Serializable"
def RJx9f9b0 : String := "java/lang/CharSequence"
def RJxb160c : String := "java/lang/Comparable"
def RJ6 : String := "java/lang/Integer"
abbrev cJ6_bitCount_0f7a4 : ByteArray := prog_10_method_49_code
def yJ6_bitCount_0f7a4 : MethodName := ⟨RJ6, "bitCount", "(I)I"⟩
def RJ9 : String := "java/lang/Math"
abbrev cJ9_abs_0f7a4 : ByteArray := prog_11_method_59_code
def yJ9_abs_0f7a4 : MethodName := ⟨RJ9, "abs", "(I)I"⟩
abbrev cJ9_max_7cf53 : ByteArray := prog_11_method_65_code
def yJ9_max_7cf53 : MethodName := ⟨RJ9, "max", "(II)I"⟩
abbrev cJ9_min_7cf53 : ByteArray := prog_11_method_69_code
def yJ9_min_7cf53 : MethodName := ⟨RJ9, "min", "(II)I"⟩
def RJ0 : String := "java/lang/String"
abbrev cJ0_length_8abf5 : ByteArray := prog_12_method_54_code
def yJ0_length_8abf5 : MethodName := ⟨RJ0, "length", "()I"⟩
abbrev cJ0_isEmpty_aae02 : ByteArray := prog_12_method_55_code
def yJ0_isEmpty_aae02 : MethodName := ⟨RJ0, "isEmpty", "()Z"⟩
abbrev cJ0_charAt_5068e : ByteArray := prog_12_method_56_code
def yJ0_charAt_5068e : MethodName := ⟨RJ0, "charAt", "(I)C"⟩
abbrev cJ0_coder_7d493 : ByteArray := prog_12_method_152_code
def yJ0_coder_7d493 : MethodName := ⟨RJ0, "coder", "()B"⟩
abbrev cJ0_isLatin1_aae02 : ByteArray := prog_12_method_154_code
def yJ0_isLatin1_aae02 : MethodName := ⟨RJ0, "isLatin1", "()Z"⟩
abbrev cJ0_checkIndex_df160 : ByteArray := prog_12_method_155_code
def yJ0_checkIndex_df160 : MethodName := ⟨RJ0, "checkIndex", "(II)V"⟩
def RJ1 : String := "java/lang/StringLatin1"
abbrev cJ1_charAt_3b067 : ByteArray := prog_13_method_2_code
def yJ1_charAt_3b067 : MethodName := ⟨RJ1, "charAt", "([BI)C"⟩
def RJ2 : String := "java/lang/StringUTF16"
abbrev cJ2_getChar_3b067 : ByteArray := prog_14_method_5_code
def yJ2_getChar_3b067 : MethodName := ⟨RJ2, "getChar", "([BI)C"⟩
abbrev cJ2_length_9d52b : ByteArray := prog_14_method_6_code
def yJ2_length_9d52b : MethodName := ⟨RJ2, "length", "([B)I"⟩
abbrev cJ2_charAt_3b067 : ByteArray := prog_14_method_83_code
def yJ2_charAt_3b067 : MethodName := ⟨RJ2, "charAt", "([BI)C"⟩
abbrev cJ2_checkIndex_2214a : ByteArray := prog_14_method_91_code
def yJ2_checkIndex_2214a : MethodName := ⟨RJ2, "checkIndex", "(I[B)V"⟩
def RJ10 : String := "java/lang/System"
def RJxfd54e : String := "java/lang/constant/Constable"
def RJx3cf43 : String := "java/lang/constant/ConstantDesc"
def RJ7 : String := "java/util/Arrays"
abbrev cJ7_fill_53178 : ByteArray := prog_16_method_103_code
def yJ7_fill_53178 : MethodName := ⟨RJ7, "fill", "([II)V"⟩
def RJ3 : String := "jdk/internal/util/Preconditions"
abbrev cJ3_checkIndex_8e157 : ByteArray := prog_17_method_11_code
def yJ3_checkIndex_8e157 : MethodName := ⟨RJ3, "checkIndex", "(IILjava/util/function/BiFunction;)I"⟩
def RL : String := "WindCabinetLaw"
abbrev cL_law : ByteArray := code
def yL_law : MethodName := ⟨RL, "law", "([I)Z"⟩
abbrev vwCl : List vw_C := [(RX0, TX0, 13), (RX1, TX1, 12), (RX2, TX2, 14), (RX3, TX3, 2), (RX4, TX4, 3), (RX5, TX5, 7), (RX6, TX6, 8), (RX7, TX7, 35)]
def lw_law_R : String := RL
/-- private members of nest mates that the code calls -/
def wc_nestL : List (String × Nat × MethodName × String) := [("WindCabinet$Told", 34, ⟨"WindCabinet$Republic", "<init>", "()V"⟩, "WindCabinet"), ("WindCabinet$Told", 35, ⟨"WindCabinet$Rows", "<init>", "()V"⟩, "WindCabinet"), ("WindCabinet", 22, ⟨"WindCabinet$Reader", "<init>", "()V"⟩, "WindCabinet"), ("WindCabinet$Reader", 11, ⟨"WindCabinet$Republic", "<init>", "()V"⟩, "WindCabinet"), ("WindCabinet$Reader", 20, ⟨"WindCabinet$Rows", "<init>", "()V"⟩, "WindCabinet"), ("WindCabinet", 29, ⟨"WindCabinet$Course", "<init>", "()V"⟩, "WindCabinet"), ("WindCabinet$Course", 11, ⟨"WindCabinet$Sky", "<init>", "()V"⟩, "WindCabinet"), ("WindCabinet", 36, ⟨"WindCabinet$Sky", "<init>", "()V"⟩, "WindCabinet"), ("WindCabinet$Reader", 32, ⟨"WindCabinet", "copy", "([I[I)V"⟩, "WindCabinet"), ("WindCabinet$Reader", 156, ⟨"WindCabinet", "cell", "([II)I"⟩, "WindCabinet"), ("WindCabinet$Reader", 175, ⟨"WindCabinet", "put", "([III)V"⟩, "WindCabinet"), ("WindCabinet$Republic", 65, ⟨"WindCabinet", "cell", "([II)I"⟩, "WindCabinet"), ("WindCabinet$Republic", 73, ⟨"WindCabinet", "put", "([III)V"⟩, "WindCabinet"), ("WindCabinet$Rows", 33, ⟨"WindCabinet", "put", "([III)V"⟩, "WindCabinet"), ("WindCabinet$Rows", 29, ⟨"WindCabinet", "cell", "([II)I"⟩, "WindCabinet"), ("WindCabinet$Republic", 61, ⟨"WindCabinet", "copy", "([I[I)V"⟩, "WindCabinet"), ("WindCabinet$Rows", 25, ⟨"WindCabinet", "copy", "([I[I)V"⟩, "WindCabinet"), ("WindCabinet$Told", 36, ⟨"WindCabinet", "copy", "([I[I)V"⟩, "WindCabinet"), ("WindCabinet$Republic", 81, ⟨"WindCabinet", "amount", "(II)I"⟩, "WindCabinet"), ("WindCabinet$Republic", 91, ⟨"WindCabinet", "has", "(II)Z"⟩, "WindCabinet"), ("WindCabinet$Course", 52, ⟨"WindCabinet", "copy", "([I[I)V"⟩, "WindCabinet"), ("WindCabinet$Rows", 41, ⟨"WindCabinet", "numberOf", "(III)I"⟩, "WindCabinet"), ("WindCabinet$Course", 90, ⟨"WindCabinet", "has", "(II)Z"⟩, "WindCabinet"), ("WindCabinet$Sky", 26, ⟨"WindCabinet", "amount", "(II)I"⟩, "WindCabinet"), ("WindCabinet$Course", 98, ⟨"WindCabinet", "firstBroken", "(LWindCabinet$Rows;III)I"⟩, "WindCabinet"), ("WindCabinet$Course", 165, ⟨"WindCabinet", "amount", "(II)I"⟩, "WindCabinet"), ("WindCabinet$Course", 144, ⟨"WindCabinet", "cell", "([II)I"⟩, "WindCabinet"), ("WindCabinet$Course", 119, ⟨"WindCabinet", "put", "([III)V"⟩, "WindCabinet"), ("WindCabinet$Course", 159, ⟨"WindCabinet", "numberOf", "(III)I"⟩, "WindCabinet"), ("WindCabinet$Republic", 112, ⟨"WindCabinet", "numberOf", "(III)I"⟩, "WindCabinet")]
def wc_nests : List Cond := wc_nestL.map (fun t => .methodLinkNest t.1 t.2.1 t.2.2.1 t.2.2.2)
theorem wc_nests_form : ∀ q ∈ wc_nests, ∃ (a : String) (i : Nat) (x : MethodName) (b : String), q = .methodLinkNest a i x b := by
  intro q hq
  obtain ⟨t, -, rfl⟩ := List.mem_map.mp hq
  exact ⟨_, _, _, _, rfl⟩
/-- the words of the tables that a contract may carry -/
def wc_B : List Cond := lw_tbl.filter goodWord
theorem wc_Bm {x : Cond} (i : Nat) (h : lw_tbl[i]? = some x) (hg : goodWord x = true) : x ∈ wc_B := List.mem_filter.mpr ⟨List.mem_of_getElem? h, hg⟩
theorem wc_Bl {ws : List Cond} (ps : List Nat) (hp : ws = ps.filterMap (fun i => lw_tbl[i]?)) (hg : ws.all goodWord = true) : ∀ w ∈ ws, w ∈ wc_B := by
  intro w hw
  have h1 := List.all_eq_true.mp hg w hw
  rw [hp] at hw
  obtain ⟨i, -, hi⟩ := List.mem_filterMap.mp hw
  exact wc_Bm i hi h1
theorem wc_Bt : ∀ w ∈ wc_B, w ∈ lw_tbl := fun w h => (List.mem_filter.mp h).1
theorem wc_BG {ws : List Cond} (h : ∀ w ∈ ws, w ∈ wc_B) : GoodIn wc_B ws := fun w hw => ⟨h w hw, good_of_word (List.mem_filter.mp (h w hw)).2⟩
theorem wuX0 : ∀ w ∈ u_ws RX0 TX0 13, w ∈ wc_B := wc_Bl [375, 377, 379, 381, 383, 385, 387, 389, 391, 393, 395, 397, 399] (by decide +kernel) (by decide +kernel)
theorem wuX1 : ∀ w ∈ u_ws RX1 TX1 12, w ∈ wc_B := wc_Bl [300, 302, 304, 306, 308, 310, 312, 314, 316, 318, 320, 322] (by decide +kernel) (by decide +kernel)
theorem wuX2 : ∀ w ∈ u_ws RX2 TX2 14, w ∈ wc_B := wc_Bl [203, 205, 207, 209, 211, 213, 215, 217, 219, 221, 223, 225, 227, 229] (by decide +kernel) (by decide +kernel)
theorem wuX3 : ∀ w ∈ u_ws RX3 TX3 2, w ∈ wc_B := wc_Bl [241, 243] (by decide +kernel) (by decide +kernel)
theorem wuX4 : ∀ w ∈ u_ws RX4 TX4 3, w ∈ wc_B := wc_Bl [344, 346, 348] (by decide +kernel) (by decide +kernel)
theorem wuX5 : ∀ w ∈ u_ws RX5 TX5 7, w ∈ wc_B := wc_Bl [258, 260, 262, 264, 266, 268, 270] (by decide +kernel) (by decide +kernel)
theorem wuX6 : ∀ w ∈ u_ws RX6 TX6 8, w ∈ wc_B := wc_Bl [412, 414, 416, 418, 420, 422, 424, 426] (by decide +kernel) (by decide +kernel)
theorem wuX7 : ∀ w ∈ u_ws RX7 TX7 35, w ∈ wc_B := wc_Bl [1140, 1142, 1144, 1146, 1148, 1150, 1152, 1154, 1156, 1158, 1160, 1162, 1164, 1166, 1168, 1170, 1172, 1174, 1176, 1178, 1180, 1182, 1184, 1186, 1188, 1190, 1192, 1194, 1196, 1198, 1200, 1202, 1204, 1206, 1208] (by decide +kernel) (by decide +kernel)
end
section
/-! VALUES, CELLS, WORLDS BY NUMBER: what the law makes lies at the addresses from gZ on, one cell behind another; cell k of a world is the cell at gZ + k. Constants (static rows, the script) lie ahead of it. -/
abbrev EV : Type := Int32 ⊕ (Int64 ⊕ (Option Nat ⊕ Nat))
abbrev EC : Type := (Nat × List EV) ⊕ ((Nat × Nat × (Nat → Int32)) ⊕ (Nat × Nat × (Nat → Option Nat)))
abbrev EW : Type := List EC
abbrev EG : Type := va_G × (Nat → ClassId) × Nat × (Nat → Nat) × (Nat → Nat) × (Nat → Nat → Int32)
abbrev eI (x : Int32) : EV := .inl x
abbrev eJ (x : Int64) : EV := .inr (.inl x)
abbrev eO (o : Option Nat) : EV := .inr (.inr (.inl o))
abbrev eN : EV := .inr (.inr (.inl none))
abbrev eR (k : Nat) : EV := .inr (.inr (.inl (some k)))
abbrev eK (c : Nat) : EV := .inr (.inr (.inr c))
abbrev cO (ci : Nat) (fs : List EV) : EC := .inl (ci, fs)
abbrev cI (t n : Nat) (f : Nat → Int32) : EC := .inr (.inl (t, n, f))
abbrev cQ (t n : Nat) (f : Nat → Option Nat) : EC := .inr (.inr (t, n, f))
abbrev gD (G : EG) : va_G := G.1
abbrev gY (G : EG) (t : Nat) : ClassId := G.2.1 t
abbrev gZ (G : EG) : Nat := G.2.2.1
abbrev gA (G : EG) (k : Nat) : Nat := G.2.2.2.1 k
abbrev gL (G : EG) (k : Nat) : Nat := G.2.2.2.2.1 k
abbrev gF (G : EG) (k : Nat) : Nat → Int32 := G.2.2.2.2.2 k
def wc_tys (G : EG) : List (ClassId × FieldType) := [(gY G 0, .int), (gY G 1, .boolean), (gY G 2, .object RX2), (gY G 3, .object RX3), (gY G 4, .object RX5)]
def wc_v (G : EG) : EV → Value
  | .inl x => .int x
  | .inr (.inl x) => .long x
  | .inr (.inr (.inl none)) => .null
  | .inr (.inr (.inl (some k))) => .ref (gZ G + k)
  | .inr (.inr (.inr k)) => .ref (gA G k)
def wc_c (G : EG) : EC → va_E
  | .inl (ci, fs) => .inr (ci, fs.map (wc_v G))
  | .inr (.inl (t, n, f)) => .inl (gY G t, n, .inl f)
  | .inr (.inr (t, n, f)) => .inl (gY G t, n, .inr (.inr (.inr (.inr (fun i => (f i).map (fun k => gZ G + k))))))
def wc_l (G : EG) (w : EW) : va_W := w.mapIdx (fun k c => (gZ G + k, wc_c G c))
def wc_A (G : EG) : Nat → Prop := fun q => gZ G ≤ q
def wc_sl : EC → Nat
  | .inl (_, fs) => fs.length
  | .inr (.inl (_, n, _)) => n
  | .inr (.inr (_, n, _)) => n
def wc_SL (w : EW) : Nat := (w.map wc_sl).sum
theorem wc_l_get {G : EG} {w : EW} {k : Nat} {c : EC} (h : w[k]? = some c) : (wc_l G w)[k]? = some (gZ G + k, wc_c G c) := by
  simp [wc_l, List.getElem?_mapIdx, h]
theorem wc_l_of {G : EG} {w : EW} {k : Nat} {q : Nat × va_E} (h : (wc_l G w)[k]? = some q) : ∃ c, w[k]? = some c ∧ q = (gZ G + k, wc_c G c) := by
  simp only [wc_l, List.getElem?_mapIdx, Option.map_eq_some_iff] at h
  obtain ⟨c, h1, h2⟩ := h
  exact ⟨c, h1, h2.symm⟩
theorem wc_l_set {G : EG} {w : EW} {k : Nat} {c : EC} : (wc_l G w).set k (gZ G + k, wc_c G c) = wc_l G (w.set k c) := by
  apply List.ext_getElem?
  intro i
  simp only [wc_l, List.getElem?_mapIdx, List.getElem?_set, List.length_mapIdx]
  by_cases h : k = i
  · subst h
    by_cases h2 : k < w.length
    · simp [h2]
    · simp [h2]
  · simp [h]
theorem wc_l_push {G : EG} {w : EW} {c : EC} : wc_l G w ++ [(gZ G + w.length, wc_c G c)] = wc_l G (w ++ [c]) := by
  simp [wc_l, List.mapIdx_append]
theorem wc_D {G : EG} {w : EW} : va_D (wc_A G) (wc_l G w) := by
  refine ⟨fun i j p q hi hj hpq => ?_, fun k q hk => ?_⟩
  · obtain ⟨c, -, e1⟩ := wc_l_of hi
    obtain ⟨d, -, e2⟩ := wc_l_of hj
    rw [e1, e2] at hpq
    have : gZ G + i = gZ G + j := hpq
    omega
  · obtain ⟨c, -, e1⟩ := wc_l_of hk
    rw [e1]
    exact Nat.le_add_right _ _
theorem wc_SL_set {w : EW} {k : Nat} {c d : EC} (hk : w[k]? = some c) (h : wc_sl d = wc_sl c) : wc_SL (w.set k d) = wc_SL w := by
  unfold wc_SL
  congr 1
  apply List.ext_getElem?
  intro i
  rw [List.getElem?_map, List.getElem?_map, List.getElem?_set]
  by_cases hi : k = i
  · subst hi
    obtain ⟨hl, hc⟩ := List.getElem?_eq_some_iff.mp hk
    simp [hl, h, hc]
  · simp [hi]
theorem wc_SL_push {w : EW} {c : EC} : wc_SL (w ++ [c]) = wc_SL w + wc_sl c := by simp [wc_SL]
/-! locals -/
def wc_LR (G : EG) (nL : Nat) (ls : List (Option EV)) (arr : Array Slot) : Prop := arr.size = nL ∧ lv_wf arr ∧ ∀ (i : Nat) (v : EV), ls[i]? = some (some v) → arr[i]? = some (.val (wc_v G v))
def wc_clr (ls : List (Option EV)) (i : Nat) : List (Option EV) := match i with
  | 0 => ls
  | j + 1 => match ls[j]? with
    | some (some (.inr (.inl _))) => ls.set j none
    | _ => ls
def wc_st (ls : List (Option EV)) (i : Nat) (v : EV) : List (Option EV) := (wc_clr ls i).set i (some v)
def wc_st2 (ls : List (Option EV)) (i : Nat) (v : EV) : List (Option EV) := ((wc_clr ls i).set i (some v)).set (i + 1) none
def wc_ll (G : EG) (ls : List (Option EV)) : List (Nat × Value) := (List.range ls.length).filterMap (fun i => match ls[i]? with | some (some v) => some (i, wc_v G v) | _ => none)
theorem wc_ll_in {G : EG} {ls : List (Option EV)} {i : Nat} {v : EV} (h : ls[i]? = some (some v)) : (i, wc_v G v) ∈ wc_ll G ls := by
  refine List.mem_filterMap.mpr ⟨i, List.mem_range.mpr (List.getElem?_eq_some_iff.mp h).1, ?_⟩
  rw [h]
theorem wc_LR_has {G : EG} {nL : Nat} {ls : List (Option EV)} {arr : Array Slot} (h : wc_LR G nL ls arr) : lv_has arr nL (wc_ll G ls) := by
  refine ⟨h.1, h.2.1, fun q hq => ?_⟩
  obtain ⟨i, -, hi⟩ := List.mem_filterMap.mp hq
  cases hl : ls[i]? with
  | none => rw [hl] at hi; cases hi
  | some o => cases o with
    | none => rw [hl] at hi; cases hi
    | some v =>
      rw [hl] at hi
      cases hi
      exact h.2.2 i v hl
theorem wc_clr_of {ls : List (Option EV)} {i j : Nat} {v : EV} (h : (wc_clr ls i)[j]? = some (some v)) : ls[j]? = some (some v) ∧ (j + 1 = i → ∀ x : Int64, v ≠ .inr (.inl x)) := by
  cases i with
  | zero => exact ⟨h, fun q => by omega⟩
  | succ k =>
    simp only [wc_clr] at h
    split at h
    next x hx =>
      rw [List.getElem?_set] at h
      by_cases e : k = j
      · subst e
        simp only [if_true] at h
        split at h <;> cases h
      · rw [if_neg e] at h
        exact ⟨h, fun q => by omega⟩
    next hx =>
      refine ⟨h, fun q x e => ?_⟩
      have : j = k := by omega
      subst this
      subst e
      exact hx x h
theorem wc_cat2 {G : EG} {v : EV} (h : (wc_v G v).category = 2) : ∃ x : Int64, v = .inr (.inl x) := by
  rcases v with x | x | x | x
  · cases h
  · exact ⟨x, rfl⟩
  · cases x <;> cases h
  · cases h
theorem wc_LR_st {G : EG} {nL : Nat} {ls : List (Option EV)} {arr arr' : Array Slot} {i : Nat} {v : EV} (h : lv_has arr' nL ((i, wc_v G v) :: (wc_ll G ls).filter (fun q => !(q.1 == i) && !(q.1 + 1 == i && q.2.category == 2)))) : wc_LR G nL (wc_st ls i v) arr' := by
  refine ⟨h.1, h.2.1, fun j u hj => ?_⟩
  unfold wc_st at hj
  rw [List.getElem?_set] at hj
  by_cases e : i = j
  · subst e
    simp only [if_true] at hj
    split at hj
    · cases hj
      exact h.2.2 (i, wc_v G v) List.mem_cons_self
    · cases hj
  · rw [if_neg e] at hj
    obtain ⟨h1, h2⟩ := wc_clr_of hj
    refine h.2.2 (j, wc_v G u) (List.mem_cons_of_mem _ (List.mem_filter.mpr ⟨wc_ll_in h1, ?_⟩))
    have e1 : (j == i) = false := by simpa using fun q => e q.symm
    by_cases e2 : j + 1 = i
    · have e3 : ((wc_v G u).category == 2) = false := by
        by_cases e4 : (wc_v G u).category = 2
        · obtain ⟨x, hx⟩ := wc_cat2 e4
          exact absurd hx (h2 e2 x)
        · simpa using e4
      simp [e1, e3]
    · have e3 : (j + 1 == i) = false := by simpa using e2
      simp [e1, e3]
theorem wc_LR_st2 {G : EG} {nL : Nat} {ls : List (Option EV)} {arr arr' : Array Slot} {i : Nat} {v : EV} (h : lv_has arr' nL ((i, wc_v G v) :: (wc_ll G ls).filter (fun q => !(q.1 == i) && (!(q.1 == i + 1) && !(q.1 + 1 == i && q.2.category == 2))))) : wc_LR G nL (wc_st2 ls i v) arr' := by
  refine ⟨h.1, h.2.1, fun j u hj => ?_⟩
  unfold wc_st2 at hj
  rw [List.getElem?_set] at hj
  by_cases e0 : i + 1 = j
  · subst e0
    simp only [if_true] at hj
    split at hj <;> cases hj
  rw [if_neg e0, List.getElem?_set] at hj
  by_cases e : i = j
  · subst e
    simp only [if_true] at hj
    split at hj
    · cases hj
      exact h.2.2 (i, wc_v G v) List.mem_cons_self
    · cases hj
  · rw [if_neg e] at hj
    obtain ⟨h1, h2⟩ := wc_clr_of hj
    refine h.2.2 (j, wc_v G u) (List.mem_cons_of_mem _ (List.mem_filter.mpr ⟨wc_ll_in h1, ?_⟩))
    have e1 : (j == i) = false := by simpa using fun q => e q.symm
    have e5 : (j == i + 1) = false := by simpa using fun q => e0 q.symm
    by_cases e2 : j + 1 = i
    · have e3 : ((wc_v G u).category == 2) = false := by
        by_cases e4 : (wc_v G u).category = 2
        · obtain ⟨x, hx⟩ := wc_cat2 e4
          exact absurd hx (h2 e2 x)
        · simpa using e4
      simp [e1, e3, e5]
    · have e3 : (j + 1 == i) = false := by simpa using e2
      simp [e1, e3, e5]
/-! the environment: what never moves -/
def wc_E (G : EG) (U : State) : Prop := va_K (gD G) vwCl (wc_tys G) U ∧ (∀ q ∈ wc_nests, va_Nw q U) ∧ (∀ k : Nat, k < 3 → va_T .int (gA G k) (gL G k) (fun j => .int (gF G k j)) (wc_A G) U U.heap) ∧ va_Z RX6 "MOST_OF_A_TEXT" "[I" (.ref (gA G 0)) (wc_A G) U U.heap ∧ va_Z RX6 "FACTORIALS" "[I" (.ref (gA G 1)) (wc_A G) U U.heap ∧ va_AO RX2 U ∧ va_AO RX3 U ∧ va_AO RX5 U
theorem wc_E_moved {G : EG} {s U : State} (h : wc_E G s) (hW : s.WarmedH U.vm) (hq : ∀ a : Nat, a < s.heap.size → ¬ wc_A G a → U.heap[a]? = s.heap[a]?) : wc_E G U := by
  obtain ⟨h1, h2, h3, h4, h5, h6, h7, h8⟩ := h
  refine ⟨va_K.moved hW.alike h1, fun q hn => ?_, fun k hk => ((h3 k hk).moved hW.alike).kept hq, (h4.moved hW.alike).kept hq, (h5.moved hW.alike).kept hq, h6.moved hW.alike, h7.moved hW.alike, h8.moved hW.alike⟩
  obtain ⟨a, i, x, b, rfl⟩ := wc_nests_form q hn
  exact va_Nw.warmM hW (h2 _ hn)
theorem wc_E_calling {G : EG} {U : State} (h : wc_E G U) (g : JFrame) (mk : MethodId) (a : Array Value) : wc_E G (U.calling g mk a) := by
  obtain ⟨h1, h2, h3, h4, h5, h6, h7, h8⟩ := h
  exact ⟨va_K.moved (u := U) (U := U.calling g mk a) (Vm.Alike.refl U.vm) h1, fun q hn => by obtain ⟨x1, x2, x3, x4, rfl⟩ := wc_nests_form q hn; exact va_Nw.same (u := U) rfl rfl (h2 _ hn), fun k hk => va_T.moved (u := U) (U := U.calling g mk a) (Vm.Alike.refl U.vm) (h3 k hk), va_Z.moved (u := U) (U := U.calling g mk a) (Vm.Alike.refl U.vm) h4, va_Z.moved (u := U) (U := U.calling g mk a) (Vm.Alike.refl U.vm) h5, va_AO.moved (u := U) (U := U.calling g mk a) (Vm.Alike.refl U.vm) h6, va_AO.moved (u := U) (U := U.calling g mk a) (Vm.Alike.refl U.vm) h7, va_AO.moved (u := U) (U := U.calling g mk a) (Vm.Alike.refl U.vm) h8⟩
/-! THE JUDGEMENT -/
def WW (p : Program) (l : Launch) (e : Env) (R : Room) (s : State) (m : MethodId) (args : Array Value) (below : List Frame) (meth : Method) (c : Code) (Q : State → Prop) (G : EG) (nL n0 s0 rc rs pc : Nat) (ls : List (Option EV)) (st : List EV) (w : EW) : Prop :=
  ∀ (H : Heap) (locs : List Loc) (arr : Array Slot), n0 ≤ w.length → s0 ≤ wc_SL w → w.length + rc = n0 + R.cells → wc_SL w + rs = s0 + R.slots → va_P (gD G) vwCl (wc_l G w) H → va_S (wc_A G) s.heap H locs → wc_LR G nL ls arr → W p l e R s m args below meth c H locs (w.length - n0) (wc_SL w - s0) Q (F0 m pc arr (st.map (wc_v G)))
def wc_C (p : Program) (s : State) (m : MethodId) (args : Array Value) (meth : Method) (c : Code) (G : EG) (own : String) (cc : ByteArray) (nL n0 : Nat) : Prop :=
  p.tables.exec = Jvm.exec ∧ c.code = cc ∧ c.maxLocals = nL ∧ s.vm.findClass own = some m.cls ∧ (∀ w ∈ wc_B, w.before args s = true) ∧ wc_E G s ∧ s.heap.size = gZ G + n0 ∧ meth.locks = false
def wc_fld (own : String) (idx ci j : Nat) : Prop := ∃ (C : String) (T : u_T) (N : Nat), vwCl[ci]? = some (C, T, N) ∧ j < N ∧ Cond.fieldLink own idx (T j).1 (T j).2.1 (T j).2.2.1 ∈ wc_B ∧ ∀ w ∈ u_ws C T N, w ∈ wc_B
def wc_fpt (own : String) (idx ci j : Nat) (fin : Bool) (ty : FieldType) : Prop := ∃ (C : String) (T : u_T) (N : Nat) (ty0 : Nat → FieldType), vwCl[ci]? = some (C, T, N) ∧ j < N ∧ Cond.fieldLink own idx (T j).1 (T j).2.1 (T j).2.2.1 ∈ wc_B ∧ (∀ w ∈ u_ws C T N, w ∈ wc_B) ∧ (∀ k, k < N → parseFieldDescriptor (T k).2.2.1 = some (ty0 k)) ∧ (∀ a, a < N → ∀ b, b < N → a ≠ b → (T a).2.1 ≠ (T b).2.1) ∧ (T j).2.2.2 = fin ∧ parseFieldDescriptor (T j).2.2.1 = some ty ∧ (T j).1 = C
section WC
variable {p : Program} {l : Launch} {e : Env} {R : Room} {s : State} {m : MethodId} {args : Array Value} {below : List Frame} {meth : Method} {c : Code} {Q : State → Prop} {G : EG} {own : String} {cc : ByteArray} {nL n0 s0 rc rs pc : Nat} {ls : List (Option EV)} {st : List EV} {w : EW}
theorem ww_iconst (K : wc_C p s m args meth c G own cc nL n0) {n : Int} {v : Int32} (hd : decode cc pc = .ok (.iconst n, 1)) (hv : Int32.ofInt n = v) (k : WW p l e R s m args below meth c Q G nL n0 s0 rc rs (pc + 1) (ls) (eI v :: st) (w)) : WW p l e R s m args below meth c Q G nL n0 s0 rc rs (pc) (ls) (st) (w) := fun H locs arr h1 h2 h3 h4 hP hS hL => lv_iconst K.1 K.2.1  hd hv (k H locs arr h1 h2 h3 h4 hP hS hL)
theorem ww_bipush (K : wc_C p s m args meth c G own cc nL n0) {n : Int} {v : Int32} (hd : decode cc pc = .ok (.bipush n, 2)) (hv : (Int8.ofInt n).toInt32 = v) (k : WW p l e R s m args below meth c Q G nL n0 s0 rc rs (pc + 2) (ls) (eI v :: st) (w)) : WW p l e R s m args below meth c Q G nL n0 s0 rc rs (pc) (ls) (st) (w) := fun H locs arr h1 h2 h3 h4 hP hS hL => lv_bipush K.1 K.2.1  hd hv (k H locs arr h1 h2 h3 h4 hP hS hL)
theorem ww_sipush (K : wc_C p s m args meth c G own cc nL n0) {n : Int} {v : Int32} (hd : decode cc pc = .ok (.sipush n, 3)) (hv : (Int16.ofInt n).toInt32 = v) (k : WW p l e R s m args below meth c Q G nL n0 s0 rc rs (pc + 3) (ls) (eI v :: st) (w)) : WW p l e R s m args below meth c Q G nL n0 s0 rc rs (pc) (ls) (st) (w) := fun H locs arr h1 h2 h3 h4 hP hS hL => lv_sipush K.1 K.2.1  hd hv (k H locs arr h1 h2 h3 h4 hP hS hL)
theorem ww_lconst (K : wc_C p s m args meth c G own cc nL n0) {n : Fin 2} {v : Int64} (hd : decode cc pc = .ok (.lconst n, 1)) (hv : Int64.ofNat (n : Nat) = v) (k : WW p l e R s m args below meth c Q G nL n0 s0 rc rs (pc + 1) (ls) (eJ v :: st) (w)) : WW p l e R s m args below meth c Q G nL n0 s0 rc rs (pc) (ls) (st) (w) := fun H locs arr h1 h2 h3 h4 hP hS hL => lv_lconst K.1 K.2.1  hd hv (k H locs arr h1 h2 h3 h4 hP hS hL)
theorem ww_null (K : wc_C p s m args meth c G own cc nL n0) (hd : decode cc pc = .ok (.aconst_null, 1)) (k : WW p l e R s m args below meth c Q G nL n0 s0 rc rs (pc + 1) (ls) (eN :: st) (w)) : WW p l e R s m args below meth c Q G nL n0 s0 rc rs (pc) (ls) (st) (w) := fun H locs arr h1 h2 h3 h4 hP hS hL => lv_null K.1 K.2.1 hd (k H locs arr h1 h2 h3 h4 hP hS hL)
theorem ww_iadd (K : wc_C p s m args meth c G own cc nL n0) {x y : Int32} (hd : decode cc pc = .ok (.iadd, 1))  (k : WW p l e R s m args below meth c Q G nL n0 s0 rc rs (pc + 1) (ls) (eI (x + y) :: st) (w)) : WW p l e R s m args below meth c Q G nL n0 s0 rc rs (pc) (ls) (eI y :: eI x :: st) (w) := fun H locs arr h1 h2 h3 h4 hP hS hL => lv_iadd K.1 K.2.1  hd  (k H locs arr h1 h2 h3 h4 hP hS hL)
theorem ww_isub (K : wc_C p s m args meth c G own cc nL n0) {x y : Int32} (hd : decode cc pc = .ok (.isub, 1))  (k : WW p l e R s m args below meth c Q G nL n0 s0 rc rs (pc + 1) (ls) (eI (x - y) :: st) (w)) : WW p l e R s m args below meth c Q G nL n0 s0 rc rs (pc) (ls) (eI y :: eI x :: st) (w) := fun H locs arr h1 h2 h3 h4 hP hS hL => lv_isub K.1 K.2.1  hd  (k H locs arr h1 h2 h3 h4 hP hS hL)
theorem ww_imul (K : wc_C p s m args meth c G own cc nL n0) {x y : Int32} (hd : decode cc pc = .ok (.imul, 1))  (k : WW p l e R s m args below meth c Q G nL n0 s0 rc rs (pc + 1) (ls) (eI (x * y) :: st) (w)) : WW p l e R s m args below meth c Q G nL n0 s0 rc rs (pc) (ls) (eI y :: eI x :: st) (w) := fun H locs arr h1 h2 h3 h4 hP hS hL => lv_imul K.1 K.2.1  hd  (k H locs arr h1 h2 h3 h4 hP hS hL)
theorem ww_iand (K : wc_C p s m args meth c G own cc nL n0) {x y : Int32} (hd : decode cc pc = .ok (.iand, 1))  (k : WW p l e R s m args below meth c Q G nL n0 s0 rc rs (pc + 1) (ls) (eI (x &&& y) :: st) (w)) : WW p l e R s m args below meth c Q G nL n0 s0 rc rs (pc) (ls) (eI y :: eI x :: st) (w) := fun H locs arr h1 h2 h3 h4 hP hS hL => lv_iand K.1 K.2.1  hd  (k H locs arr h1 h2 h3 h4 hP hS hL)
theorem ww_ior (K : wc_C p s m args meth c G own cc nL n0) {x y : Int32} (hd : decode cc pc = .ok (.ior, 1))  (k : WW p l e R s m args below meth c Q G nL n0 s0 rc rs (pc + 1) (ls) (eI (x ||| y) :: st) (w)) : WW p l e R s m args below meth c Q G nL n0 s0 rc rs (pc) (ls) (eI y :: eI x :: st) (w) := fun H locs arr h1 h2 h3 h4 hP hS hL => lv_ior K.1 K.2.1  hd  (k H locs arr h1 h2 h3 h4 hP hS hL)
theorem ww_ixor (K : wc_C p s m args meth c G own cc nL n0) {x y : Int32} (hd : decode cc pc = .ok (.ixor, 1))  (k : WW p l e R s m args below meth c Q G nL n0 s0 rc rs (pc + 1) (ls) (eI (x ^^^ y) :: st) (w)) : WW p l e R s m args below meth c Q G nL n0 s0 rc rs (pc) (ls) (eI y :: eI x :: st) (w) := fun H locs arr h1 h2 h3 h4 hP hS hL => lv_ixor K.1 K.2.1  hd  (k H locs arr h1 h2 h3 h4 hP hS hL)
theorem ww_ishl (K : wc_C p s m args meth c G own cc nL n0) {x y : Int32} (hd : decode cc pc = .ok (.ishl, 1))  (k : WW p l e R s m args below meth c Q G nL n0 s0 rc rs (pc + 1) (ls) (eI (x <<< (y &&& 31)) :: st) (w)) : WW p l e R s m args below meth c Q G nL n0 s0 rc rs (pc) (ls) (eI y :: eI x :: st) (w) := fun H locs arr h1 h2 h3 h4 hP hS hL => lv_ishl K.1 K.2.1  hd  (k H locs arr h1 h2 h3 h4 hP hS hL)
theorem ww_ishr (K : wc_C p s m args meth c G own cc nL n0) {x y : Int32} (hd : decode cc pc = .ok (.ishr, 1))  (k : WW p l e R s m args below meth c Q G nL n0 s0 rc rs (pc + 1) (ls) (eI (x >>> (y &&& 31)) :: st) (w)) : WW p l e R s m args below meth c Q G nL n0 s0 rc rs (pc) (ls) (eI y :: eI x :: st) (w) := fun H locs arr h1 h2 h3 h4 hP hS hL => lv_ishr K.1 K.2.1  hd  (k H locs arr h1 h2 h3 h4 hP hS hL)
theorem ww_idiv (K : wc_C p s m args meth c G own cc nL n0) {x y : Int32} (hd : decode cc pc = .ok (.idiv, 1)) (hne : ¬ y = 0) (k : WW p l e R s m args below meth c Q G nL n0 s0 rc rs (pc + 1) (ls) (eI (x / y) :: st) (w)) : WW p l e R s m args below meth c Q G nL n0 s0 rc rs (pc) (ls) (eI y :: eI x :: st) (w) := fun H locs arr h1 h2 h3 h4 hP hS hL => lv_idiv K.1 K.2.1  hd hne (k H locs arr h1 h2 h3 h4 hP hS hL)
theorem ww_irem (K : wc_C p s m args meth c G own cc nL n0) {x y : Int32} (hd : decode cc pc = .ok (.irem, 1)) (hne : ¬ y = 0) (k : WW p l e R s m args below meth c Q G nL n0 s0 rc rs (pc + 1) (ls) (eI (x - x / y * y) :: st) (w)) : WW p l e R s m args below meth c Q G nL n0 s0 rc rs (pc) (ls) (eI y :: eI x :: st) (w) := fun H locs arr h1 h2 h3 h4 hP hS hL => lv_irem K.1 K.2.1  hd hne (k H locs arr h1 h2 h3 h4 hP hS hL)
theorem ww_ineg (K : wc_C p s m args meth c G own cc nL n0) {x : Int32} (hd : decode cc pc = .ok (.ineg, 1))  (k : WW p l e R s m args below meth c Q G nL n0 s0 rc rs (pc + 1) (ls) (eI (-x) :: st) (w)) : WW p l e R s m args below meth c Q G nL n0 s0 rc rs (pc) (ls) (eI x :: st) (w) := fun H locs arr h1 h2 h3 h4 hP hS hL => lv_ineg K.1 K.2.1  hd  (k H locs arr h1 h2 h3 h4 hP hS hL)
theorem ww_iushr (K : wc_C p s m args meth c G own cc nL n0) {x y : Int32} (hd : decode cc pc = .ok (.iushr, 1))  (k : WW p l e R s m args below meth c Q G nL n0 s0 rc rs (pc + 1) (ls) (eI (x.toUInt32 >>> (y.toUInt32 &&& Int32.toUInt32 31)).toInt32 :: st) (w)) : WW p l e R s m args below meth c Q G nL n0 s0 rc rs (pc) (ls) (eI y :: eI x :: st) (w) := fun H locs arr h1 h2 h3 h4 hP hS hL => lv_iushr K.1 K.2.1  hd rfl (k H locs arr h1 h2 h3 h4 hP hS hL)
theorem ww_i2l (K : wc_C p s m args meth c G own cc nL n0) {x : Int32} (hd : decode cc pc = .ok (.i2l, 1))  (k : WW p l e R s m args below meth c Q G nL n0 s0 rc rs (pc + 1) (ls) (eJ x.toInt64 :: st) (w)) : WW p l e R s m args below meth c Q G nL n0 s0 rc rs (pc) (ls) (eI x :: st) (w) := fun H locs arr h1 h2 h3 h4 hP hS hL => lv_i2l K.1 K.2.1  hd rfl (k H locs arr h1 h2 h3 h4 hP hS hL)
theorem ww_i2c (K : wc_C p s m args meth c G own cc nL n0) {x : Int32} (hd : decode cc pc = .ok (.i2c, 1))  (k : WW p l e R s m args below meth c Q G nL n0 s0 rc rs (pc + 1) (ls) (eI (x.toUInt32 % 65536).toInt32 :: st) (w)) : WW p l e R s m args below meth c Q G nL n0 s0 rc rs (pc) (ls) (eI x :: st) (w) := fun H locs arr h1 h2 h3 h4 hP hS hL => lv_i2c K.1 K.2.1  hd rfl (k H locs arr h1 h2 h3 h4 hP hS hL)
theorem ww_ladd (K : wc_C p s m args meth c G own cc nL n0) {x y : Int64} (hd : decode cc pc = .ok (.ladd, 1))  (k : WW p l e R s m args below meth c Q G nL n0 s0 rc rs (pc + 1) (ls) (eJ (x + y) :: st) (w)) : WW p l e R s m args below meth c Q G nL n0 s0 rc rs (pc) (ls) (eJ y :: eJ x :: st) (w) := fun H locs arr h1 h2 h3 h4 hP hS hL => lv_ladd K.1 K.2.1  hd  (k H locs arr h1 h2 h3 h4 hP hS hL)
theorem ww_lsub (K : wc_C p s m args meth c G own cc nL n0) {x y : Int64} (hd : decode cc pc = .ok (.lsub, 1))  (k : WW p l e R s m args below meth c Q G nL n0 s0 rc rs (pc + 1) (ls) (eJ (x - y) :: st) (w)) : WW p l e R s m args below meth c Q G nL n0 s0 rc rs (pc) (ls) (eJ y :: eJ x :: st) (w) := fun H locs arr h1 h2 h3 h4 hP hS hL => lv_lsub K.1 K.2.1  hd  (k H locs arr h1 h2 h3 h4 hP hS hL)
theorem ww_lmul (K : wc_C p s m args meth c G own cc nL n0) {x y : Int64} (hd : decode cc pc = .ok (.lmul, 1))  (k : WW p l e R s m args below meth c Q G nL n0 s0 rc rs (pc + 1) (ls) (eJ (x * y) :: st) (w)) : WW p l e R s m args below meth c Q G nL n0 s0 rc rs (pc) (ls) (eJ y :: eJ x :: st) (w) := fun H locs arr h1 h2 h3 h4 hP hS hL => lv_lmul K.1 K.2.1  hd  (k H locs arr h1 h2 h3 h4 hP hS hL)
theorem ww_lcmp (K : wc_C p s m args meth c G own cc nL n0) {x y : Int64} (hd : decode cc pc = .ok (.lcmp, 1))  (k : WW p l e R s m args below meth c Q G nL n0 s0 rc rs (pc + 1) (ls) (eI (lg_cmp x y) :: st) (w)) : WW p l e R s m args below meth c Q G nL n0 s0 rc rs (pc) (ls) (eJ y :: eJ x :: st) (w) := fun H locs arr h1 h2 h3 h4 hP hS hL => W.lcmp K.1 K.2.1  hd  (k H locs arr h1 h2 h3 h4 hP hS hL)
def wc_c1 : EV → Prop
  | .inr (.inl _) => False
  | _ => True
theorem wc_c1_cat {v : EV} (h : wc_c1 v) : (wc_v G v).category = 1 := by
  rcases v with x | x | x | x
  · rfl
  · exact h.elim
  · cases x <;> rfl
  · rfl
theorem ww_dup (K : wc_C p s m args meth c G own cc nL n0) {v : EV} (hd : decode cc pc = .ok (.dup, 1)) (hv : wc_c1 v) (k : WW p l e R s m args below meth c Q G nL n0 s0 rc rs (pc + 1) (ls) (v :: v :: st) (w)) : WW p l e R s m args below meth c Q G nL n0 s0 rc rs (pc) (ls) (v :: st) (w) := fun H locs arr h1 h2 h3 h4 hP hS hL => lv_dup K.1 K.2.1 hd (wc_c1_cat hv) (k H locs arr h1 h2 h3 h4 hP hS hL)
theorem ww_pop (K : wc_C p s m args meth c G own cc nL n0) {v : EV} (hd : decode cc pc = .ok (.pop, 1)) (hv : wc_c1 v) (k : WW p l e R s m args below meth c Q G nL n0 s0 rc rs (pc + 1) (ls) (st) (w)) : WW p l e R s m args below meth c Q G nL n0 s0 rc rs (pc) (ls) (v :: st) (w) := fun H locs arr h1 h2 h3 h4 hP hS hL => lv_pop K.1 K.2.1 hd (wc_c1_cat hv) (k H locs arr h1 h2 h3 h4 hP hS hL)
theorem ww_dup2 (K : wc_C p s m args meth c G own cc nL n0) {v u : EV} (hd : decode cc pc = .ok (.dup2, 1)) (hv : wc_c1 v) (hu : wc_c1 u) (k : WW p l e R s m args below meth c Q G nL n0 s0 rc rs (pc + 1) (ls) (v :: u :: v :: u :: st) (w)) : WW p l e R s m args below meth c Q G nL n0 s0 rc rs (pc) (ls) (v :: u :: st) (w) := fun H locs arr h1 h2 h3 h4 hP hS hL => lv_dup2_11 K.1 K.2.1 hd (wc_c1_cat hv) (wc_c1_cat hu) (k H locs arr h1 h2 h3 h4 hP hS hL)
theorem ww_iload_n (K : wc_C p s m args meth c G own cc nL n0) {k : Fin 4} {x : Int32} (hd : decode cc pc = .ok (.iload_n k, 1)) (hl : ls[(k : Nat)]? = some (some (eI x))) (kk : WW p l e R s m args below meth c Q G nL n0 s0 rc rs (pc + 1) (ls) (eI x :: st) (w)) : WW p l e R s m args below meth c Q G nL n0 s0 rc rs (pc) (ls) (st) (w) := fun H locs arr h1 h2 h3 h4 hP hS hL => lv_iload_n K.1 K.2.1 hd rfl (hL.2.2 _ _ hl) (kk H locs arr h1 h2 h3 h4 hP hS hL)
theorem ww_iload (K : wc_C p s m args meth c G own cc nL n0) {i : Nat} {x : Int32} (hd : decode cc pc = .ok (.iload i, 2)) (hl : ls[i]? = some (some (eI x))) (kk : WW p l e R s m args below meth c Q G nL n0 s0 rc rs (pc + 2) (ls) (eI x :: st) (w)) : WW p l e R s m args below meth c Q G nL n0 s0 rc rs (pc) (ls) (st) (w) := fun H locs arr h1 h2 h3 h4 hP hS hL => lv_iload K.1 K.2.1 hd (hL.2.2 _ _ hl) (kk H locs arr h1 h2 h3 h4 hP hS hL)
theorem ww_lload_n (K : wc_C p s m args meth c G own cc nL n0) {k : Fin 4} {x : Int64} (hd : decode cc pc = .ok (.lload_n k, 1)) (hl : ls[(k : Nat)]? = some (some (eJ x))) (kk : WW p l e R s m args below meth c Q G nL n0 s0 rc rs (pc + 1) (ls) (eJ x :: st) (w)) : WW p l e R s m args below meth c Q G nL n0 s0 rc rs (pc) (ls) (st) (w) := fun H locs arr h1 h2 h3 h4 hP hS hL => lv_lload_n K.1 K.2.1 hd rfl (hL.2.2 _ _ hl) (kk H locs arr h1 h2 h3 h4 hP hS hL)
theorem ww_lload (K : wc_C p s m args meth c G own cc nL n0) {i : Nat} {x : Int64} (hd : decode cc pc = .ok (.lload i, 2)) (hl : ls[i]? = some (some (eJ x))) (kk : WW p l e R s m args below meth c Q G nL n0 s0 rc rs (pc + 2) (ls) (eJ x :: st) (w)) : WW p l e R s m args below meth c Q G nL n0 s0 rc rs (pc) (ls) (st) (w) := fun H locs arr h1 h2 h3 h4 hP hS hL => lv_lload K.1 K.2.1 hd (hL.2.2 _ _ hl) (kk H locs arr h1 h2 h3 h4 hP hS hL)
theorem ww_aload_n (K : wc_C p s m args meth c G own cc nL n0) {k : Fin 4} {x : Nat} (hd : decode cc pc = .ok (.aload_n k, 1)) (hl : ls[(k : Nat)]? = some (some (eR x))) (kk : WW p l e R s m args below meth c Q G nL n0 s0 rc rs (pc + 1) (ls) (eR x :: st) (w)) : WW p l e R s m args below meth c Q G nL n0 s0 rc rs (pc) (ls) (st) (w) := fun H locs arr h1 h2 h3 h4 hP hS hL => lv_aload_n K.1 K.2.1 hd rfl (hL.2.2 _ _ hl) (kk H locs arr h1 h2 h3 h4 hP hS hL)
theorem ww_aload (K : wc_C p s m args meth c G own cc nL n0) {i : Nat} {x : Nat} (hd : decode cc pc = .ok (.aload i, 2)) (hl : ls[i]? = some (some (eR x))) (kk : WW p l e R s m args below meth c Q G nL n0 s0 rc rs (pc + 2) (ls) (eR x :: st) (w)) : WW p l e R s m args below meth c Q G nL n0 s0 rc rs (pc) (ls) (st) (w) := fun H locs arr h1 h2 h3 h4 hP hS hL => lv_aload K.1 K.2.1 hd (hL.2.2 _ _ hl) (kk H locs arr h1 h2 h3 h4 hP hS hL)
theorem ww_aload_nN (K : wc_C p s m args meth c G own cc nL n0) {k : Fin 4} (hd : decode cc pc = .ok (.aload_n k, 1)) (hl : ls[(k : Nat)]? = some (some eN)) (kk : WW p l e R s m args below meth c Q G nL n0 s0 rc rs (pc + 1) (ls) (eN :: st) (w)) : WW p l e R s m args below meth c Q G nL n0 s0 rc rs (pc) (ls) (st) (w) := fun H locs arr h1 h2 h3 h4 hP hS hL => lv_aload_nN K.1 K.2.1 hd rfl (hL.2.2 _ _ hl) (kk H locs arr h1 h2 h3 h4 hP hS hL)
theorem ww_aloadN (K : wc_C p s m args meth c G own cc nL n0) {i : Nat} (hd : decode cc pc = .ok (.aload i, 2)) (hl : ls[i]? = some (some eN)) (kk : WW p l e R s m args below meth c Q G nL n0 s0 rc rs (pc + 2) (ls) (eN :: st) (w)) : WW p l e R s m args below meth c Q G nL n0 s0 rc rs (pc) (ls) (st) (w) := fun H locs arr h1 h2 h3 h4 hP hS hL => lv_aloadN K.1 K.2.1 hd (hL.2.2 _ _ hl) (kk H locs arr h1 h2 h3 h4 hP hS hL)
theorem ww_aload_nK (K : wc_C p s m args meth c G own cc nL n0) {k : Fin 4} {x : Nat} (hd : decode cc pc = .ok (.aload_n k, 1)) (hl : ls[(k : Nat)]? = some (some (eK x))) (kk : WW p l e R s m args below meth c Q G nL n0 s0 rc rs (pc + 1) (ls) (eK x :: st) (w)) : WW p l e R s m args below meth c Q G nL n0 s0 rc rs (pc) (ls) (st) (w) := fun H locs arr h1 h2 h3 h4 hP hS hL => lv_aload_n K.1 K.2.1 hd rfl (hL.2.2 _ _ hl) (kk H locs arr h1 h2 h3 h4 hP hS hL)
theorem ww_aloadK (K : wc_C p s m args meth c G own cc nL n0) {i : Nat} {x : Nat} (hd : decode cc pc = .ok (.aload i, 2)) (hl : ls[i]? = some (some (eK x))) (kk : WW p l e R s m args below meth c Q G nL n0 s0 rc rs (pc + 2) (ls) (eK x :: st) (w)) : WW p l e R s m args below meth c Q G nL n0 s0 rc rs (pc) (ls) (st) (w) := fun H locs arr h1 h2 h3 h4 hP hS hL => lv_aload K.1 K.2.1 hd (hL.2.2 _ _ hl) (kk H locs arr h1 h2 h3 h4 hP hS hL)
theorem ww_istore_n (K : wc_C p s m args meth c G own cc nL n0) {k : Fin 4} {x : Int32} {ls2 : List (Option EV)} (hd : decode cc pc = .ok (.istore_n k, 1)) (hn : (k : Nat) < nL) (hl : wc_st ls k (eI x) = ls2) (kk : WW p l e R s m args below meth c Q G nL n0 s0 rc rs (pc + 1) (ls2) (st) (w)) : WW p l e R s m args below meth c Q G nL n0 s0 rc rs (pc) (ls) (eI x :: st) (w) := fun H locs arr h1 h2 h3 h4 hP hS hL => lv_istore_n K.1 K.2.1 hd rfl (wc_LR_has hL) hn rfl (fun arr2 ha => kk H locs arr2 h1 h2 h3 h4 hP hS (hl ▸ wc_LR_st (arr := arr) ha))
theorem ww_istore (K : wc_C p s m args meth c G own cc nL n0) {i : Nat} {x : Int32} {ls2 : List (Option EV)} (hd : decode cc pc = .ok (.istore i, 2)) (hn : i < nL) (hl : wc_st ls i (eI x) = ls2) (kk : WW p l e R s m args below meth c Q G nL n0 s0 rc rs (pc + 2) (ls2) (st) (w)) : WW p l e R s m args below meth c Q G nL n0 s0 rc rs (pc) (ls) (eI x :: st) (w) := fun H locs arr h1 h2 h3 h4 hP hS hL => lv_istore K.1 K.2.1 hd (wc_LR_has hL) hn rfl (fun arr2 ha => kk H locs arr2 h1 h2 h3 h4 hP hS (hl ▸ wc_LR_st (arr := arr) ha))
theorem ww_astore_n (K : wc_C p s m args meth c G own cc nL n0) {k : Fin 4} {x : Nat} {ls2 : List (Option EV)} (hd : decode cc pc = .ok (.astore_n k, 1)) (hn : (k : Nat) < nL) (hl : wc_st ls k (eR x) = ls2) (kk : WW p l e R s m args below meth c Q G nL n0 s0 rc rs (pc + 1) (ls2) (st) (w)) : WW p l e R s m args below meth c Q G nL n0 s0 rc rs (pc) (ls) (eR x :: st) (w) := fun H locs arr h1 h2 h3 h4 hP hS hL => lv_astore_n K.1 K.2.1 hd rfl (wc_LR_has hL) hn rfl (fun arr2 ha => kk H locs arr2 h1 h2 h3 h4 hP hS (hl ▸ wc_LR_st (arr := arr) ha))
theorem ww_astore (K : wc_C p s m args meth c G own cc nL n0) {i : Nat} {x : Nat} {ls2 : List (Option EV)} (hd : decode cc pc = .ok (.astore i, 2)) (hn : i < nL) (hl : wc_st ls i (eR x) = ls2) (kk : WW p l e R s m args below meth c Q G nL n0 s0 rc rs (pc + 2) (ls2) (st) (w)) : WW p l e R s m args below meth c Q G nL n0 s0 rc rs (pc) (ls) (eR x :: st) (w) := fun H locs arr h1 h2 h3 h4 hP hS hL => lv_astore K.1 K.2.1 hd (wc_LR_has hL) hn rfl (fun arr2 ha => kk H locs arr2 h1 h2 h3 h4 hP hS (hl ▸ wc_LR_st (arr := arr) ha))
theorem ww_astore_nN (K : wc_C p s m args meth c G own cc nL n0) {k : Fin 4} {ls2 : List (Option EV)} (hd : decode cc pc = .ok (.astore_n k, 1)) (hn : (k : Nat) < nL) (hl : wc_st ls k eN = ls2) (kk : WW p l e R s m args below meth c Q G nL n0 s0 rc rs (pc + 1) (ls2) (st) (w)) : WW p l e R s m args below meth c Q G nL n0 s0 rc rs (pc) (ls) (eN :: st) (w) := fun H locs arr h1 h2 h3 h4 hP hS hL => lv_astore_nN K.1 K.2.1 hd rfl (wc_LR_has hL) hn rfl (fun arr2 ha => kk H locs arr2 h1 h2 h3 h4 hP hS (hl ▸ wc_LR_st (v := eN) (arr := arr) ha))
theorem ww_astoreN (K : wc_C p s m args meth c G own cc nL n0) {i : Nat} {ls2 : List (Option EV)} (hd : decode cc pc = .ok (.astore i, 2)) (hn : i < nL) (hl : wc_st ls i eN = ls2) (kk : WW p l e R s m args below meth c Q G nL n0 s0 rc rs (pc + 2) (ls2) (st) (w)) : WW p l e R s m args below meth c Q G nL n0 s0 rc rs (pc) (ls) (eN :: st) (w) := fun H locs arr h1 h2 h3 h4 hP hS hL => lv_astoreN K.1 K.2.1 hd (wc_LR_has hL) hn rfl (fun arr2 ha => kk H locs arr2 h1 h2 h3 h4 hP hS (hl ▸ wc_LR_st (v := eN) (arr := arr) ha))
theorem ww_lstore_n (K : wc_C p s m args meth c G own cc nL n0) {k : Fin 4} {x : Int64} {ls2 : List (Option EV)} (hd : decode cc pc = .ok (.lstore_n k, 1)) (hn : (k : Nat) + 1 < nL) (hl : wc_st2 ls k (eJ x) = ls2) (kk : WW p l e R s m args below meth c Q G nL n0 s0 rc rs (pc + 1) (ls2) (st) (w)) : WW p l e R s m args below meth c Q G nL n0 s0 rc rs (pc) (ls) (eJ x :: st) (w) := fun H locs arr h1 h2 h3 h4 hP hS hL => lv_lstore_n K.1 K.2.1 hd rfl (wc_LR_has hL) hn rfl (fun arr2 ha => kk H locs arr2 h1 h2 h3 h4 hP hS (hl ▸ wc_LR_st2 (arr := arr) ha))
theorem ww_iinc (K : wc_C p s m args meth c G own cc nL n0) {i : Nat} {n : Int} {x : Int32} {ls2 : List (Option EV)} (hd : decode cc pc = .ok (.iinc i n, 3)) (hn : i < nL) (hx : ls[i]? = some (some (eI x))) (hl : wc_st ls i (eI (x + Int32.ofInt n)) = ls2) (kk : WW p l e R s m args below meth c Q G nL n0 s0 rc rs (pc + 3) (ls2) (st) (w)) : WW p l e R s m args below meth c Q G nL n0 s0 rc rs (pc) (ls) (st) (w) := fun H locs arr h1 h2 h3 h4 hP hS hL => by
  obtain ⟨k, hk⟩ := List.getElem?_of_mem (wc_ll_in (G := G) hx)
  exact lv_iinc K.1 K.2.1 hd (wc_LR_has hL) hk rfl hn rfl (fun arr2 ha => kk H locs arr2 h1 h2 h3 h4 hP hS (hl ▸ wc_LR_st (v := eI (x + Int32.ofInt n)) (arr := arr) ha))
theorem ww_if_eq (K : wc_C p s m args meth c G own cc nL n0) {x : Int32} {off : Int} {tgt : Nat} (hd : decode cc pc = .ok (.ifCond .eq off, 3)) (ht : (pc : Int) + off = (tgt : Int)) (kt : x = 0 → WW p l e R s m args below meth c Q G nL n0 s0 rc rs (tgt) (ls) (st) (w)) (kf : ¬ x = 0 → WW p l e R s m args below meth c Q G nL n0 s0 rc rs (pc + 3) (ls) (st) (w)) : WW p l e R s m args below meth c Q G nL n0 s0 rc rs (pc) (ls) (eI x :: st) (w) := fun H locs arr h1 h2 h3 h4 hP hS hL => lv_if_eq K.1 K.2.1 hd ht (fun h => kt h H locs arr h1 h2 h3 h4 hP hS hL) (fun h => kf h H locs arr h1 h2 h3 h4 hP hS hL)
theorem ww_icmp_eq (K : wc_C p s m args meth c G own cc nL n0) {x y : Int32} {off : Int} {tgt : Nat} (hd : decode cc pc = .ok (.if_icmp .eq off, 3)) (ht : (pc : Int) + off = (tgt : Int)) (kt : x = y → WW p l e R s m args below meth c Q G nL n0 s0 rc rs (tgt) (ls) (st) (w)) (kf : ¬ x = y → WW p l e R s m args below meth c Q G nL n0 s0 rc rs (pc + 3) (ls) (st) (w)) : WW p l e R s m args below meth c Q G nL n0 s0 rc rs (pc) (ls) (eI y :: eI x :: st) (w) := fun H locs arr h1 h2 h3 h4 hP hS hL => lv_icmp_eq K.1 K.2.1 hd ht (fun h => kt h H locs arr h1 h2 h3 h4 hP hS hL) (fun h => kf h H locs arr h1 h2 h3 h4 hP hS hL)
theorem ww_if_ne (K : wc_C p s m args meth c G own cc nL n0) {x : Int32} {off : Int} {tgt : Nat} (hd : decode cc pc = .ok (.ifCond .ne off, 3)) (ht : (pc : Int) + off = (tgt : Int)) (kt : ¬ x = 0 → WW p l e R s m args below meth c Q G nL n0 s0 rc rs (tgt) (ls) (st) (w)) (kf : x = 0 → WW p l e R s m args below meth c Q G nL n0 s0 rc rs (pc + 3) (ls) (st) (w)) : WW p l e R s m args below meth c Q G nL n0 s0 rc rs (pc) (ls) (eI x :: st) (w) := fun H locs arr h1 h2 h3 h4 hP hS hL => lv_if_ne K.1 K.2.1 hd ht (fun h => kt h H locs arr h1 h2 h3 h4 hP hS hL) (fun h => kf h H locs arr h1 h2 h3 h4 hP hS hL)
theorem ww_icmp_ne (K : wc_C p s m args meth c G own cc nL n0) {x y : Int32} {off : Int} {tgt : Nat} (hd : decode cc pc = .ok (.if_icmp .ne off, 3)) (ht : (pc : Int) + off = (tgt : Int)) (kt : ¬ x = y → WW p l e R s m args below meth c Q G nL n0 s0 rc rs (tgt) (ls) (st) (w)) (kf : x = y → WW p l e R s m args below meth c Q G nL n0 s0 rc rs (pc + 3) (ls) (st) (w)) : WW p l e R s m args below meth c Q G nL n0 s0 rc rs (pc) (ls) (eI y :: eI x :: st) (w) := fun H locs arr h1 h2 h3 h4 hP hS hL => lv_icmp_ne K.1 K.2.1 hd ht (fun h => kt h H locs arr h1 h2 h3 h4 hP hS hL) (fun h => kf h H locs arr h1 h2 h3 h4 hP hS hL)
theorem ww_if_lt (K : wc_C p s m args meth c G own cc nL n0) {x : Int32} {off : Int} {tgt : Nat} (hd : decode cc pc = .ok (.ifCond .lt off, 3)) (ht : (pc : Int) + off = (tgt : Int)) (kt : x < 0 → WW p l e R s m args below meth c Q G nL n0 s0 rc rs (tgt) (ls) (st) (w)) (kf : ¬ x < 0 → WW p l e R s m args below meth c Q G nL n0 s0 rc rs (pc + 3) (ls) (st) (w)) : WW p l e R s m args below meth c Q G nL n0 s0 rc rs (pc) (ls) (eI x :: st) (w) := fun H locs arr h1 h2 h3 h4 hP hS hL => lv_if_lt K.1 K.2.1 hd ht (fun h => kt h H locs arr h1 h2 h3 h4 hP hS hL) (fun h => kf h H locs arr h1 h2 h3 h4 hP hS hL)
theorem ww_icmp_lt (K : wc_C p s m args meth c G own cc nL n0) {x y : Int32} {off : Int} {tgt : Nat} (hd : decode cc pc = .ok (.if_icmp .lt off, 3)) (ht : (pc : Int) + off = (tgt : Int)) (kt : x < y → WW p l e R s m args below meth c Q G nL n0 s0 rc rs (tgt) (ls) (st) (w)) (kf : ¬ x < y → WW p l e R s m args below meth c Q G nL n0 s0 rc rs (pc + 3) (ls) (st) (w)) : WW p l e R s m args below meth c Q G nL n0 s0 rc rs (pc) (ls) (eI y :: eI x :: st) (w) := fun H locs arr h1 h2 h3 h4 hP hS hL => lv_icmp_lt K.1 K.2.1 hd ht (fun h => kt h H locs arr h1 h2 h3 h4 hP hS hL) (fun h => kf h H locs arr h1 h2 h3 h4 hP hS hL)
theorem ww_if_ge (K : wc_C p s m args meth c G own cc nL n0) {x : Int32} {off : Int} {tgt : Nat} (hd : decode cc pc = .ok (.ifCond .ge off, 3)) (ht : (pc : Int) + off = (tgt : Int)) (kt : 0 ≤ x → WW p l e R s m args below meth c Q G nL n0 s0 rc rs (tgt) (ls) (st) (w)) (kf : ¬ 0 ≤ x → WW p l e R s m args below meth c Q G nL n0 s0 rc rs (pc + 3) (ls) (st) (w)) : WW p l e R s m args below meth c Q G nL n0 s0 rc rs (pc) (ls) (eI x :: st) (w) := fun H locs arr h1 h2 h3 h4 hP hS hL => lv_if_ge K.1 K.2.1 hd ht (fun h => kt h H locs arr h1 h2 h3 h4 hP hS hL) (fun h => kf h H locs arr h1 h2 h3 h4 hP hS hL)
theorem ww_icmp_ge (K : wc_C p s m args meth c G own cc nL n0) {x y : Int32} {off : Int} {tgt : Nat} (hd : decode cc pc = .ok (.if_icmp .ge off, 3)) (ht : (pc : Int) + off = (tgt : Int)) (kt : y ≤ x → WW p l e R s m args below meth c Q G nL n0 s0 rc rs (tgt) (ls) (st) (w)) (kf : ¬ y ≤ x → WW p l e R s m args below meth c Q G nL n0 s0 rc rs (pc + 3) (ls) (st) (w)) : WW p l e R s m args below meth c Q G nL n0 s0 rc rs (pc) (ls) (eI y :: eI x :: st) (w) := fun H locs arr h1 h2 h3 h4 hP hS hL => lv_icmp_ge K.1 K.2.1 hd ht (fun h => kt h H locs arr h1 h2 h3 h4 hP hS hL) (fun h => kf h H locs arr h1 h2 h3 h4 hP hS hL)
theorem ww_if_gt (K : wc_C p s m args meth c G own cc nL n0) {x : Int32} {off : Int} {tgt : Nat} (hd : decode cc pc = .ok (.ifCond .gt off, 3)) (ht : (pc : Int) + off = (tgt : Int)) (kt : 0 < x → WW p l e R s m args below meth c Q G nL n0 s0 rc rs (tgt) (ls) (st) (w)) (kf : ¬ 0 < x → WW p l e R s m args below meth c Q G nL n0 s0 rc rs (pc + 3) (ls) (st) (w)) : WW p l e R s m args below meth c Q G nL n0 s0 rc rs (pc) (ls) (eI x :: st) (w) := fun H locs arr h1 h2 h3 h4 hP hS hL => lv_if_gt K.1 K.2.1 hd ht (fun h => kt h H locs arr h1 h2 h3 h4 hP hS hL) (fun h => kf h H locs arr h1 h2 h3 h4 hP hS hL)
theorem ww_icmp_gt (K : wc_C p s m args meth c G own cc nL n0) {x y : Int32} {off : Int} {tgt : Nat} (hd : decode cc pc = .ok (.if_icmp .gt off, 3)) (ht : (pc : Int) + off = (tgt : Int)) (kt : y < x → WW p l e R s m args below meth c Q G nL n0 s0 rc rs (tgt) (ls) (st) (w)) (kf : ¬ y < x → WW p l e R s m args below meth c Q G nL n0 s0 rc rs (pc + 3) (ls) (st) (w)) : WW p l e R s m args below meth c Q G nL n0 s0 rc rs (pc) (ls) (eI y :: eI x :: st) (w) := fun H locs arr h1 h2 h3 h4 hP hS hL => lv_icmp_gt K.1 K.2.1 hd ht (fun h => kt h H locs arr h1 h2 h3 h4 hP hS hL) (fun h => kf h H locs arr h1 h2 h3 h4 hP hS hL)
theorem ww_if_le (K : wc_C p s m args meth c G own cc nL n0) {x : Int32} {off : Int} {tgt : Nat} (hd : decode cc pc = .ok (.ifCond .le off, 3)) (ht : (pc : Int) + off = (tgt : Int)) (kt : x ≤ 0 → WW p l e R s m args below meth c Q G nL n0 s0 rc rs (tgt) (ls) (st) (w)) (kf : ¬ x ≤ 0 → WW p l e R s m args below meth c Q G nL n0 s0 rc rs (pc + 3) (ls) (st) (w)) : WW p l e R s m args below meth c Q G nL n0 s0 rc rs (pc) (ls) (eI x :: st) (w) := fun H locs arr h1 h2 h3 h4 hP hS hL => lv_if_le K.1 K.2.1 hd ht (fun h => kt h H locs arr h1 h2 h3 h4 hP hS hL) (fun h => kf h H locs arr h1 h2 h3 h4 hP hS hL)
theorem ww_icmp_le (K : wc_C p s m args meth c G own cc nL n0) {x y : Int32} {off : Int} {tgt : Nat} (hd : decode cc pc = .ok (.if_icmp .le off, 3)) (ht : (pc : Int) + off = (tgt : Int)) (kt : x ≤ y → WW p l e R s m args below meth c Q G nL n0 s0 rc rs (tgt) (ls) (st) (w)) (kf : ¬ x ≤ y → WW p l e R s m args below meth c Q G nL n0 s0 rc rs (pc + 3) (ls) (st) (w)) : WW p l e R s m args below meth c Q G nL n0 s0 rc rs (pc) (ls) (eI y :: eI x :: st) (w) := fun H locs arr h1 h2 h3 h4 hP hS hL => lv_icmp_le K.1 K.2.1 hd ht (fun h => kt h H locs arr h1 h2 h3 h4 hP hS hL) (fun h => kf h H locs arr h1 h2 h3 h4 hP hS hL)
theorem ww_goto (K : wc_C p s m args meth c G own cc nL n0) {off : Int} {tgt : Nat} (hd : decode cc pc = .ok (.goto off, 3)) (ht : (pc : Int) + off = (tgt : Int)) (k : WW p l e R s m args below meth c Q G nL n0 s0 rc rs (tgt) (ls) (st) (w)) : WW p l e R s m args below meth c Q G nL n0 s0 rc rs (pc) (ls) (st) (w) := fun H locs arr h1 h2 h3 h4 hP hS hL => lv_goto K.1 K.2.1 hd ht (k H locs arr h1 h2 h3 h4 hP hS hL)
theorem ww_ifnull (K : wc_C p s m args meth c G own cc nL n0) {x : Nat} {off : Int} (hd : decode cc pc = .ok (.ifnull off, 3)) (k : WW p l e R s m args below meth c Q G nL n0 s0 rc rs (pc + 3) (ls) (st) (w)) : WW p l e R s m args below meth c Q G nL n0 s0 rc rs (pc) (ls) (eR x :: st) (w) := fun H locs arr h1 h2 h3 h4 hP hS hL => lv_ifnull K.1 K.2.1 hd (k H locs arr h1 h2 h3 h4 hP hS hL)
theorem ww_ifnullN (K : wc_C p s m args meth c G own cc nL n0) {off : Int} {tgt : Nat} (hd : decode cc pc = .ok (.ifnull off, 3)) (ht : (pc : Int) + off = (tgt : Int)) (k : WW p l e R s m args below meth c Q G nL n0 s0 rc rs (tgt) (ls) (st) (w)) : WW p l e R s m args below meth c Q G nL n0 s0 rc rs (pc) (ls) (eN :: st) (w) := fun H locs arr h1 h2 h3 h4 hP hS hL => lv_ifnullN K.1 K.2.1 hd ht (k H locs arr h1 h2 h3 h4 hP hS hL)
theorem ww_ifnonnull (K : wc_C p s m args meth c G own cc nL n0) {x : Nat} {off : Int} {tgt : Nat} (hd : decode cc pc = .ok (.ifnonnull off, 3)) (ht : (pc : Int) + off = (tgt : Int)) (k : WW p l e R s m args below meth c Q G nL n0 s0 rc rs (tgt) (ls) (st) (w)) : WW p l e R s m args below meth c Q G nL n0 s0 rc rs (pc) (ls) (eR x :: st) (w) := fun H locs arr h1 h2 h3 h4 hP hS hL => lv_ifnonnull K.1 K.2.1 hd ht (k H locs arr h1 h2 h3 h4 hP hS hL)
theorem ww_ifnonnullN (K : wc_C p s m args meth c G own cc nL n0) {off : Int} (hd : decode cc pc = .ok (.ifnonnull off, 3)) (k : WW p l e R s m args below meth c Q G nL n0 s0 rc rs (pc + 3) (ls) (st) (w)) : WW p l e R s m args below meth c Q G nL n0 s0 rc rs (pc) (ls) (eN :: st) (w) := fun H locs arr h1 h2 h3 h4 hP hS hL => lv_ifnonnullN K.1 K.2.1 hd (k H locs arr h1 h2 h3 h4 hP hS hL)
theorem ww_tableOut (K : wc_C p s m args meth c G own cc nL n0) {dflt lo hi : Int} {offs : Array Int} {len : Nat} {x : Int32} {tgt : Nat} (hd : decode cc pc = .ok (.tableswitch dflt lo hi offs, len)) (h : x.toInt < lo ∨ hi < x.toInt) (ht : (pc : Int) + dflt = (tgt : Int)) (k : WW p l e R s m args below meth c Q G nL n0 s0 rc rs (tgt) (ls) (st) (w)) : WW p l e R s m args below meth c Q G nL n0 s0 rc rs (pc) (ls) (eI x :: st) (w) := fun H locs arr h1 h2 h3 h4 hP hS hL => lv_tableOut K.1 K.2.1 hd h ht (k H locs arr h1 h2 h3 h4 hP hS hL)
theorem ww_tableIn (K : wc_C p s m args meth c G own cc nL n0) {dflt lo hi : Int} {offs : Array Int} {len : Nat} {x : Int32} {off : Int} {tgt : Nat} (hd : decode cc pc = .ok (.tableswitch dflt lo hi offs, len)) (ha : ¬ x.toInt < lo) (hb : ¬ hi < x.toInt) (ho : offs[(x.toInt - lo).toNat]? = some off) (ht : (pc : Int) + off = (tgt : Int)) (k : WW p l e R s m args below meth c Q G nL n0 s0 rc rs (tgt) (ls) (st) (w)) : WW p l e R s m args below meth c Q G nL n0 s0 rc rs (pc) (ls) (eI x :: st) (w) := fun H locs arr h1 h2 h3 h4 hP hS hL => lv_tableIn K.1 K.2.1 hd ha hb ho ht (k H locs arr h1 h2 h3 h4 hP hS hL)
theorem ww_lookup (K : wc_C p s m args meth c G own cc nL n0) {dflt : Int} {ps : Array (Int × Int)} {len : Nat} {x : Int32} {off : Int} {tgt : Nat} (hd : decode cc pc = .ok (.lookupswitch dflt ps, len)) (hp : (ps.toList.zip (ps.toList.drop 1)).all (fun (a, next) => a.1 < next.1) = true) (ho : Op.lookupswitch.offset ps.toList dflt x.toInt = off) (ht : (pc : Int) + off = (tgt : Int)) (k : WW p l e R s m args below meth c Q G nL n0 s0 rc rs (tgt) (ls) (st) (w)) : WW p l e R s m args below meth c Q G nL n0 s0 rc rs (pc) (ls) (eI x :: st) (w) := fun H locs arr h1 h2 h3 h4 hP hS hL => lv_lookup K.1 K.2.1 hd hp ho ht (k H locs arr h1 h2 h3 h4 hP hS hL)
theorem ww_ldc (K : wc_C p s m args meth c G own cc nL n0) {idx : Nat} {v : Int32} (hd : decode cc pc = .ok (.ldc idx, 2)) (hw : Cond.constant own idx v ∈ wc_B) (k : WW p l e R s m args below meth c Q G nL n0 s0 rc rs (pc + 2) (ls) (eI v :: st) (w)) : WW p l e R s m args below meth c Q G nL n0 s0 rc rs (pc) (ls) (st) (w) := fun H locs arr h1 h2 h3 h4 hP hS hL => lv_ldc K.1 K.2.1 K.2.2.2.1 (K.2.2.2.2.1 _ hw) hd (k H locs arr h1 h2 h3 h4 hP hS hL)
theorem ww_ldcw (K : wc_C p s m args meth c G own cc nL n0) {idx : Nat} {v : Int32} (hd : decode cc pc = .ok (.ldc_w idx, 3)) (hw : Cond.constant own idx v ∈ wc_B) (k : WW p l e R s m args below meth c Q G nL n0 s0 rc rs (pc + 3) (ls) (eI v :: st) (w)) : WW p l e R s m args below meth c Q G nL n0 s0 rc rs (pc) (ls) (st) (w) := fun H locs arr h1 h2 h3 h4 hP hS hL => lv_ldcw K.1 K.2.1 K.2.2.2.1 (K.2.2.2.2.1 _ hw) hd (k H locs arr h1 h2 h3 h4 hP hS hL)
theorem ww_ldc2 (K : wc_C p s m args meth c G own cc nL n0) {idx : Nat} {v : Int64} (hd : decode cc pc = .ok (.ldc2_w idx, 3)) (hw : Cond.constantLong own idx v ∈ wc_B) (k : WW p l e R s m args below meth c Q G nL n0 s0 rc rs (pc + 3) (ls) (eJ v :: st) (w)) : WW p l e R s m args below meth c Q G nL n0 s0 rc rs (pc) (ls) (st) (w) := fun H locs arr h1 h2 h3 h4 hP hS hL => lv_ldc2 K.1 K.2.1 K.2.2.2.1 (K.2.2.2.2.1 _ hw) hd (k H locs arr h1 h2 h3 h4 hP hS hL)
theorem ww_get (K : wc_C p s m args meth c G own cc nL n0) {k ci j idx : Nat} {fs : List EV} {v : EV} (hd : decode cc pc = .ok (.getfield idx, 3)) (hF : wc_fld own idx ci j) (hk : w[k]? = some (cO ci fs)) (hv : fs[j]? = some v) (kk : WW p l e R s m args below meth c Q G nL n0 s0 rc rs (pc + 3) (ls) (v :: st) (w)) : WW p l e R s m args below meth c Q G nL n0 s0 rc rs (pc) (ls) (eR k :: st) (w) := fun H locs arr h1 h2 h3 h4 hP hS hL => by
  obtain ⟨C, T, N, f1, f2, f3, f4⟩ := hF
  exact va_get K.1 K.2.1 K.2.2.2.2.1 f4 K.2.2.2.1 K.2.2.2.2.2.1.1 hP k (wc_l_get hk) f1 j f2 (K.2.2.2.2.1 _ f3) (fun _ h9 => h9) (v := wc_v G v) (by rw [List.getElem?_map, hv]; rfl) hd (kk H locs arr h1 h2 h3 h4 hP hS hL)
theorem ww_put (K : wc_C p s m args meth c G own cc nL n0) {k ci j idx : Nat} {fs : List EV} {v : EV} {ty : FieldType} (hd : decode cc pc = .ok (.putfield idx, 3)) (hF : wc_fpt own idx ci j false ty) (hk : w[k]? = some (cO ci fs)) (hj : j < fs.length) (hn : narrow ty (wc_v G v) = wc_v G v) (hf : fits ty (wc_v G v) = true) (kk : WW p l e R s m args below meth c Q G nL n0 s0 rc rs (pc + 3) (ls) (st) (w.set k (cO ci (fs.set j v)))) : WW p l e R s m args below meth c Q G nL n0 s0 rc rs (pc) (ls) (v :: eR k :: st) (w) := fun H locs arr h1 h2 h3 h4 hP hS hL => by
  obtain ⟨C, T, N, ty0, f1, f2, f3, f4, f5, f6, f7, f8, -⟩ := hF
  refine va_put K.1 K.2.1 K.2.2.2.2.1 f4 ty0 f5 f6 K.2.2.2.1 K.2.2.2.2.2.1.1 hP wc_D hS k (wc_l_get hk) f1 j f2 (K.2.2.2.2.1 _ f3) (fun _ h9 => h9) f7 f8 hn hf (by rw [List.length_map]; exact hj) hd (fun H1 locs1 hP1 _ hS1 => ?_)
  have e1 : wc_c G (cO ci (fs.set j v)) = .inr (ci, (fs.map (wc_v G)).set j (wc_v G v)) := by simp [wc_c]
  rw [← e1, wc_l_set] at hP1
  have e2 := wc_SL_set (d := cO ci (fs.set j v)) hk (by simp [wc_sl])
  have hk2 := kk H1 locs1 arr (by rw [List.length_set]; exact h1) (by rw [e2]; exact h2) (by rw [List.length_set]; exact h3) (by rw [e2]; exact h4) hP1 hS1 hL
  rw [List.length_set, e2] at hk2
  exact hk2
theorem ww_putF (K : wc_C p s m args meth c G own cc nL n0) {k ci j idx : Nat} {fs : List EV} {v : EV} {ty : FieldType} (hin : meth.name = "<init>") (hd : decode cc pc = .ok (.putfield idx, 3)) (hF : wc_fpt own idx ci j true ty) (hC : ∀ q, vwCl[ci]? = some q → q.1 = own) (hk : w[k]? = some (cO ci fs)) (hj : j < fs.length) (hn : narrow ty (wc_v G v) = wc_v G v) (hf : fits ty (wc_v G v) = true) (kk : WW p l e R s m args below meth c Q G nL n0 s0 rc rs (pc + 3) (ls) (st) (w.set k (cO ci (fs.set j v)))) : WW p l e R s m args below meth c Q G nL n0 s0 rc rs (pc) (ls) (v :: eR k :: st) (w) := fun H locs arr h1 h2 h3 h4 hP hS hL => by
  obtain ⟨C, T, N, ty0, f1, f2, f3, f4, f5, f6, f7, f8, f9⟩ := hF
  refine va_putF K.1 K.2.1 K.2.2.2.2.1 f4 ty0 f5 f6 K.2.2.2.1 K.2.2.2.2.2.1.1 hP wc_D hS k (wc_l_get hk) f1 j f2 (K.2.2.2.2.1 _ f3) (fun _ h9 => h9) f7 hin (f9.trans (hC _ f1)) f8 hn hf (by rw [List.length_map]; exact hj) hd (fun H1 locs1 hP1 _ hS1 => ?_)
  have e1 : wc_c G (cO ci (fs.set j v)) = .inr (ci, (fs.map (wc_v G)).set j (wc_v G v)) := by simp [wc_c]
  rw [← e1, wc_l_set] at hP1
  have e2 := wc_SL_set (d := cO ci (fs.set j v)) hk (by simp [wc_sl])
  have hk2 := kk H1 locs1 arr (by rw [List.length_set]; exact h1) (by rw [e2]; exact h2) (by rw [List.length_set]; exact h3) (by rw [e2]; exact h4) hP1 hS1 hL
  rw [List.length_set, e2] at hk2
  exact hk2
theorem ww_getsM (K : wc_C p s m args meth c G own cc nL n0) {idx : Nat} (hd : decode cc pc = .ok (.getstatic idx, 3)) (hw : Cond.fieldLink own idx RX6 "MOST_OF_A_TEXT" "[I" ∈ wc_B) (k : WW p l e R s m args below meth c Q G nL n0 s0 rc rs (pc + 3) (ls) (eK 0 :: st) (w)) : WW p l e R s m args below meth c Q G nL n0 s0 rc rs (pc) (ls) (st) (w) := fun H locs arr h1 h2 h3 h4 hP hS hL => va_gets K.1 K.2.1 K.2.2.2.2.2.1.2.2.2.1 hS K.2.2.2.1 (K.2.2.2.2.1 _ hw) (fun _ h9 => h9) hd (k H locs arr h1 h2 h3 h4 hP hS hL)
theorem ww_getsF (K : wc_C p s m args meth c G own cc nL n0) {idx : Nat} (hd : decode cc pc = .ok (.getstatic idx, 3)) (hw : Cond.fieldLink own idx RX6 "FACTORIALS" "[I" ∈ wc_B) (k : WW p l e R s m args below meth c Q G nL n0 s0 rc rs (pc + 3) (ls) (eK 1 :: st) (w)) : WW p l e R s m args below meth c Q G nL n0 s0 rc rs (pc) (ls) (st) (w) := fun H locs arr h1 h2 h3 h4 hP hS hL => va_gets K.1 K.2.1 K.2.2.2.2.2.1.2.2.2.2.1 hS K.2.2.2.1 (K.2.2.2.2.1 _ hw) (fun _ h9 => h9) hd (k H locs arr h1 h2 h3 h4 hP hS hL)
theorem ww_iald (K : wc_C p s m args meth c G own cc nL n0) {k n : Nat} {f : Nat → Int32} {i : Int32} (hd : decode cc pc = .ok (.iaload, 1)) (hk : w[k]? = some (cI 0 n f)) (hin : vp_in i n) (kk : WW p l e R s m args below meth c Q G nL n0 s0 rc rs (pc + 1) (ls) (eI (f i.toNatClampNeg) :: st) (w)) : WW p l e R s m args below meth c Q G nL n0 s0 rc rs (pc) (ls) (eI i :: eR k :: st) (w) := fun H locs arr h1 h2 h3 h4 hP hS hL => va_iald K.1 K.2.1 K.2.2.2.2.2.1.1 hP k 0 (wc_l_get hk) rfl hin hd (kk H locs arr h1 h2 h3 h4 hP hS hL)
theorem ww_zald (K : wc_C p s m args meth c G own cc nL n0) {k n : Nat} {f : Nat → Int32} {i : Int32} (hd : decode cc pc = .ok (.baload, 1)) (hk : w[k]? = some (cI 1 n f)) (hin : vp_in i n) (kk : WW p l e R s m args below meth c Q G nL n0 s0 rc rs (pc + 1) (ls) (eI (f i.toNatClampNeg) :: st) (w)) : WW p l e R s m args below meth c Q G nL n0 s0 rc rs (pc) (ls) (eI i :: eR k :: st) (w) := fun H locs arr h1 h2 h3 h4 hP hS hL => va_zald K.1 K.2.1 K.2.2.2.2.2.1.1 hP k 1 (wc_l_get hk) rfl hin hd (kk H locs arr h1 h2 h3 h4 hP hS hL)
theorem ww_ialdK (K : wc_C p s m args meth c G own cc nL n0) {k : Nat} {i : Int32} (hd : decode cc pc = .ok (.iaload, 1)) (hk : k < 3) (hin : vp_in i (gL G k)) (kk : WW p l e R s m args below meth c Q G nL n0 s0 rc rs (pc + 1) (ls) (eI (gF G k i.toNatClampNeg) :: st) (w)) : WW p l e R s m args below meth c Q G nL n0 s0 rc rs (pc) (ls) (eI i :: eK k :: st) (w) := fun H locs arr h1 h2 h3 h4 hP hS hL => va_ti K.1 K.2.1 (K.2.2.2.2.2.1.2.2.1 k hk) hS hin rfl hd (kk H locs arr h1 h2 h3 h4 hP hS hL)
theorem ww_alenK (K : wc_C p s m args meth c G own cc nL n0) {k : Nat} (hd : decode cc pc = .ok (.arraylength, 1)) (hk : k < 3) (kk : WW p l e R s m args below meth c Q G nL n0 s0 rc rs (pc + 1) (ls) (eI (Int32.ofNat (gL G k)) :: st) (w)) : WW p l e R s m args below meth c Q G nL n0 s0 rc rs (pc) (ls) (eK k :: st) (w) := fun H locs arr h1 h2 h3 h4 hP hS hL => va_tlen K.1 K.2.1 (K.2.2.2.2.2.1.2.2.1 k hk) hS rfl hd (kk H locs arr h1 h2 h3 h4 hP hS hL)
theorem ww_alen (K : wc_C p s m args meth c G own cc nL n0) {k t n : Nat} {f : Nat → Int32} (hd : decode cc pc = .ok (.arraylength, 1)) (hk : w[k]? = some (cI t n f)) (ht : t < 5) (kk : WW p l e R s m args below meth c Q G nL n0 s0 rc rs (pc + 1) (ls) (eI (Int32.ofNat n) :: st) (w)) : WW p l e R s m args below meth c Q G nL n0 s0 rc rs (pc) (ls) (eR k :: st) (w) := fun H locs arr h1 h2 h3 h4 hP hS hL => by
  have h5 : ∃ ty, (wc_tys G)[t]? = some (gY G t, ty) := by
    rcases (by omega : t = 0 ∨ t = 1 ∨ t = 2 ∨ t = 3 ∨ t = 4) with rfl | rfl | rfl | rfl | rfl <;> exact ⟨_, rfl⟩
  obtain ⟨ty, h5⟩ := h5
  exact va_alen K.1 K.2.1 K.2.2.2.2.2.1.1 hP k t (wc_l_get hk) h5 rfl hd (kk H locs arr h1 h2 h3 h4 hP hS hL)
theorem ww_alenq (K : wc_C p s m args meth c G own cc nL n0) {k t n : Nat} {f : Nat → Option Nat} (hd : decode cc pc = .ok (.arraylength, 1)) (hk : w[k]? = some (cQ t n f)) (ht : t < 5) (kk : WW p l e R s m args below meth c Q G nL n0 s0 rc rs (pc + 1) (ls) (eI (Int32.ofNat n) :: st) (w)) : WW p l e R s m args below meth c Q G nL n0 s0 rc rs (pc) (ls) (eR k :: st) (w) := fun H locs arr h1 h2 h3 h4 hP hS hL => by
  have h5 : ∃ ty, (wc_tys G)[t]? = some (gY G t, ty) := by
    rcases (by omega : t = 0 ∨ t = 1 ∨ t = 2 ∨ t = 3 ∨ t = 4) with rfl | rfl | rfl | rfl | rfl <;> exact ⟨_, rfl⟩
  obtain ⟨ty, h5⟩ := h5
  exact va_alen K.1 K.2.1 K.2.2.2.2.2.1.1 hP k t (wc_l_get hk) h5 rfl hd (kk H locs arr h1 h2 h3 h4 hP hS hL)
theorem ww_iast (K : wc_C p s m args meth c G own cc nL n0) {k n : Nat} {f : Nat → Int32} {i x : Int32} (hd : decode cc pc = .ok (.iastore, 1)) (hk : w[k]? = some (cI 0 n f)) (hin : vp_in i n) (kk : WW p l e R s m args below meth c Q G nL n0 s0 rc rs (pc + 1) (ls) (st) (w.set k (cI 0 n (upd f i.toNatClampNeg x)))) : WW p l e R s m args below meth c Q G nL n0 s0 rc rs (pc) (ls) (eI x :: eI i :: eR k :: st) (w) := fun H locs arr h1 h2 h3 h4 hP hS hL => by
  refine va_iast K.1 K.2.1 K.2.2.2.2.2.1.1 hP wc_D hS k 0 (wc_l_get hk) rfl hin hd (fun H1 locs1 hP1 _ hS1 => ?_)
  have hP2 : va_P (gD G) vwCl (wc_l G (w.set k (cI 0 n (upd f i.toNatClampNeg x)))) H1 := by rw [← wc_l_set]; exact hP1
  have e2 := wc_SL_set (d := cI 0 n (upd f i.toNatClampNeg x)) hk rfl
  have hk2 := kk H1 locs1 arr (by rw [List.length_set]; exact h1) (by rw [e2]; exact h2) (by rw [List.length_set]; exact h3) (by rw [e2]; exact h4) hP2 hS1 hL
  rw [List.length_set, e2] at hk2
  exact hk2
theorem ww_zast (K : wc_C p s m args meth c G own cc nL n0) {k n : Nat} {f : Nat → Int32} {i x : Int32} (hd : decode cc pc = .ok (.bastore, 1)) (hk : w[k]? = some (cI 1 n f)) (hin : vp_in i n) (kk : WW p l e R s m args below meth c Q G nL n0 s0 rc rs (pc + 1) (ls) (st) (w.set k (cI 1 n (upd f i.toNatClampNeg (vp_nar .boolean x))))) : WW p l e R s m args below meth c Q G nL n0 s0 rc rs (pc) (ls) (eI x :: eI i :: eR k :: st) (w) := fun H locs arr h1 h2 h3 h4 hP hS hL => by
  refine va_zast K.1 K.2.1 K.2.2.2.2.2.1.1 hP wc_D hS k 1 (wc_l_get hk) rfl hin hd (fun H1 locs1 hP1 _ hS1 => ?_)
  have hP2 : va_P (gD G) vwCl (wc_l G (w.set k (cI 1 n (upd f i.toNatClampNeg (vp_nar .boolean x))))) H1 := by rw [← wc_l_set]; exact hP1
  have e2 := wc_SL_set (d := cI 1 n (upd f i.toNatClampNeg (vp_nar .boolean x))) hk rfl
  have hk2 := kk H1 locs1 arr (by rw [List.length_set]; exact h1) (by rw [e2]; exact h2) (by rw [List.length_set]; exact h3) (by rw [e2]; exact h4) hP2 hS1 hL
  rw [List.length_set, e2] at hk2
  exact hk2
theorem ww_aald2 (K : wc_C p s m args meth c G own cc nL n0) {k n : Nat} {f : Nat → Option Nat} {i : Int32} (hd : decode cc pc = .ok (.aaload, 1)) (hk : w[k]? = some (cQ 2 n f)) (hin : vp_in i n) (kk : WW p l e R s m args below meth c Q G nL n0 s0 rc rs (pc + 1) (ls) (eO (f i.toNatClampNeg) :: st) (w)) : WW p l e R s m args below meth c Q G nL n0 s0 rc rs (pc) (ls) (eI i :: eR k :: st) (w) := fun H locs arr h1 h2 h3 h4 hP hS hL => by
  refine va_aldq K.1 K.2.1 K.2.2.2.2.2.1.1 hP k 2 (wc_l_get hk) rfl hin hd ?_
  have h9 : va_rf ((f i.toNatClampNeg).map (fun k => gZ G + k)) = wc_v G (eO (f i.toNatClampNeg)) := by cases f i.toNatClampNeg <;> rfl
  rw [h9]
  exact kk H locs arr h1 h2 h3 h4 hP hS hL
theorem ww_aast2 (K : wc_C p s m args meth c G own cc nL n0) {k n v : Nat} {f : Nat → Option Nat} {i : Int32} {vs : List EV} (hd : decode cc pc = .ok (.aastore, 1)) (hk : w[k]? = some (cQ 2 n f)) (hv : w[v]? = some (cO 2 vs)) (hin : vp_in i n) (kk : WW p l e R s m args below meth c Q G nL n0 s0 rc rs (pc + 1) (ls) (st) (w.set k (cQ 2 n (va_up f i.toNatClampNeg (some v))))) : WW p l e R s m args below meth c Q G nL n0 s0 rc rs (pc) (ls) (eR v :: eI i :: eR k :: st) (w) := fun H locs arr h1 h2 h3 h4 hP hS hL => by
  refine va_astq K.1 K.2.1 K.2.2.2.2.2.1.1 hP wc_D hS k 2 v 2 (wc_l_get hk) (r := (RX2, TX2, 14)) rfl (wc_l_get hv) rfl hin hd (fun H1 locs1 hP1 _ hS1 => ?_)
  have e1 : wc_c G (cQ 2 n (va_up f i.toNatClampNeg (some v))) = .inl (gY G 2, n, .inr (.inr (.inr (.inr (va_up (fun j => (f j).map (fun k => gZ G + k)) i.toNatClampNeg (some (gZ G + v))))))) := by
    show Sum.inl _ = Sum.inl _
    congr 1
    congr 1
    congr 1
    congr 1
    congr 1
    congr 1
    congr 1
    funext j
    by_cases hj : j = i.toNatClampNeg
    · simp [va_up, hj]
    · simp [va_up, hj]
  have hP2 : va_P (gD G) vwCl (wc_l G (w.set k (cQ 2 n (va_up f i.toNatClampNeg (some v))))) H1 := by rw [← wc_l_set, e1]; exact hP1
  have e2 := wc_SL_set (d := cQ 2 n (va_up f i.toNatClampNeg (some v))) hk rfl
  have hk2 := kk H1 locs1 arr (by rw [List.length_set]; exact h1) (by rw [e2]; exact h2) (by rw [List.length_set]; exact h3) (by rw [e2]; exact h4) hP2 hS1 hL
  rw [List.length_set, e2] at hk2
  exact hk2
theorem ww_aald3 (K : wc_C p s m args meth c G own cc nL n0) {k n : Nat} {f : Nat → Option Nat} {i : Int32} (hd : decode cc pc = .ok (.aaload, 1)) (hk : w[k]? = some (cQ 3 n f)) (hin : vp_in i n) (kk : WW p l e R s m args below meth c Q G nL n0 s0 rc rs (pc + 1) (ls) (eO (f i.toNatClampNeg) :: st) (w)) : WW p l e R s m args below meth c Q G nL n0 s0 rc rs (pc) (ls) (eI i :: eR k :: st) (w) := fun H locs arr h1 h2 h3 h4 hP hS hL => by
  refine va_aldq K.1 K.2.1 K.2.2.2.2.2.1.1 hP k 3 (wc_l_get hk) rfl hin hd ?_
  have h9 : va_rf ((f i.toNatClampNeg).map (fun k => gZ G + k)) = wc_v G (eO (f i.toNatClampNeg)) := by cases f i.toNatClampNeg <;> rfl
  rw [h9]
  exact kk H locs arr h1 h2 h3 h4 hP hS hL
theorem ww_aast3 (K : wc_C p s m args meth c G own cc nL n0) {k n v : Nat} {f : Nat → Option Nat} {i : Int32} {vs : List EV} (hd : decode cc pc = .ok (.aastore, 1)) (hk : w[k]? = some (cQ 3 n f)) (hv : w[v]? = some (cO 3 vs)) (hin : vp_in i n) (kk : WW p l e R s m args below meth c Q G nL n0 s0 rc rs (pc + 1) (ls) (st) (w.set k (cQ 3 n (va_up f i.toNatClampNeg (some v))))) : WW p l e R s m args below meth c Q G nL n0 s0 rc rs (pc) (ls) (eR v :: eI i :: eR k :: st) (w) := fun H locs arr h1 h2 h3 h4 hP hS hL => by
  refine va_astq K.1 K.2.1 K.2.2.2.2.2.1.1 hP wc_D hS k 3 v 3 (wc_l_get hk) (r := (RX3, TX3, 2)) rfl (wc_l_get hv) rfl hin hd (fun H1 locs1 hP1 _ hS1 => ?_)
  have e1 : wc_c G (cQ 3 n (va_up f i.toNatClampNeg (some v))) = .inl (gY G 3, n, .inr (.inr (.inr (.inr (va_up (fun j => (f j).map (fun k => gZ G + k)) i.toNatClampNeg (some (gZ G + v))))))) := by
    show Sum.inl _ = Sum.inl _
    congr 1
    congr 1
    congr 1
    congr 1
    congr 1
    congr 1
    congr 1
    funext j
    by_cases hj : j = i.toNatClampNeg
    · simp [va_up, hj]
    · simp [va_up, hj]
  have hP2 : va_P (gD G) vwCl (wc_l G (w.set k (cQ 3 n (va_up f i.toNatClampNeg (some v))))) H1 := by rw [← wc_l_set, e1]; exact hP1
  have e2 := wc_SL_set (d := cQ 3 n (va_up f i.toNatClampNeg (some v))) hk rfl
  have hk2 := kk H1 locs1 arr (by rw [List.length_set]; exact h1) (by rw [e2]; exact h2) (by rw [List.length_set]; exact h3) (by rw [e2]; exact h4) hP2 hS1 hL
  rw [List.length_set, e2] at hk2
  exact hk2
theorem ww_aald4 (K : wc_C p s m args meth c G own cc nL n0) {k n : Nat} {f : Nat → Option Nat} {i : Int32} (hd : decode cc pc = .ok (.aaload, 1)) (hk : w[k]? = some (cQ 4 n f)) (hin : vp_in i n) (kk : WW p l e R s m args below meth c Q G nL n0 s0 rc rs (pc + 1) (ls) (eO (f i.toNatClampNeg) :: st) (w)) : WW p l e R s m args below meth c Q G nL n0 s0 rc rs (pc) (ls) (eI i :: eR k :: st) (w) := fun H locs arr h1 h2 h3 h4 hP hS hL => by
  refine va_aldq K.1 K.2.1 K.2.2.2.2.2.1.1 hP k 4 (wc_l_get hk) rfl hin hd ?_
  have h9 : va_rf ((f i.toNatClampNeg).map (fun k => gZ G + k)) = wc_v G (eO (f i.toNatClampNeg)) := by cases f i.toNatClampNeg <;> rfl
  rw [h9]
  exact kk H locs arr h1 h2 h3 h4 hP hS hL
theorem ww_aast4 (K : wc_C p s m args meth c G own cc nL n0) {k n v : Nat} {f : Nat → Option Nat} {i : Int32} {vs : List EV} (hd : decode cc pc = .ok (.aastore, 1)) (hk : w[k]? = some (cQ 4 n f)) (hv : w[v]? = some (cO 5 vs)) (hin : vp_in i n) (kk : WW p l e R s m args below meth c Q G nL n0 s0 rc rs (pc + 1) (ls) (st) (w.set k (cQ 4 n (va_up f i.toNatClampNeg (some v))))) : WW p l e R s m args below meth c Q G nL n0 s0 rc rs (pc) (ls) (eR v :: eI i :: eR k :: st) (w) := fun H locs arr h1 h2 h3 h4 hP hS hL => by
  refine va_astq K.1 K.2.1 K.2.2.2.2.2.1.1 hP wc_D hS k 4 v 5 (wc_l_get hk) (r := (RX5, TX5, 7)) rfl (wc_l_get hv) rfl hin hd (fun H1 locs1 hP1 _ hS1 => ?_)
  have e1 : wc_c G (cQ 4 n (va_up f i.toNatClampNeg (some v))) = .inl (gY G 4, n, .inr (.inr (.inr (.inr (va_up (fun j => (f j).map (fun k => gZ G + k)) i.toNatClampNeg (some (gZ G + v))))))) := by
    show Sum.inl _ = Sum.inl _
    congr 1
    congr 1
    congr 1
    congr 1
    congr 1
    congr 1
    congr 1
    funext j
    by_cases hj : j = i.toNatClampNeg
    · simp [va_up, hj]
    · simp [va_up, hj]
  have hP2 : va_P (gD G) vwCl (wc_l G (w.set k (cQ 4 n (va_up f i.toNatClampNeg (some v))))) H1 := by rw [← wc_l_set, e1]; exact hP1
  have e2 := wc_SL_set (d := cQ 4 n (va_up f i.toNatClampNeg (some v))) hk rfl
  have hk2 := kk H1 locs1 arr (by rw [List.length_set]; exact h1) (by rw [e2]; exact h2) (by rw [List.length_set]; exact h3) (by rw [e2]; exact h4) hP2 hS1 hL
  rw [List.length_set, e2] at hk2
  exact hk2
end WC
/-! CONTRACTS -/
def wc_in0 (as : List EV) : List (Option EV) := as.flatMap (fun v => match v with
  | .inr (.inl x) => [some (.inr (.inl x)), none]
  | v => [some v])
def wc_in (nL : Nat) (as : List EV) : List (Option EV) := wc_in0 as ++ List.replicate (nL - (wc_in0 as).length) none
theorem wc_in0_len {G : EG} (as : List EV) : (lg_sl (as.map (wc_v G))).length = (wc_in0 as).length := by
  induction as with
  | nil => rfl
  | cons v t ih =>
    have h1 : wc_in0 (v :: t) = wc_in0 [v] ++ wc_in0 t := by simp [wc_in0]
    have h2 : lg_sl ((v :: t).map (wc_v G)) = lg_sl [wc_v G v] ++ lg_sl (t.map (wc_v G)) := by simp [lg_sl]
    rw [h1, h2, List.length_append, List.length_append, ih]
    congr 1
    rcases v with x | x | x | x
    · rfl
    · rfl
    · cases x <;> rfl
    · rfl
theorem wc_in0_at {G : EG} : ∀ (as : List EV) (k i : Nat) (v : EV), (wc_in0 as)[i]? = some (some v) → (k + i, wc_v G v) ∈ lv_args k (as.map (wc_v G)) := by
  intro as
  induction as with
  | nil => intro k i v h; simp [wc_in0] at h
  | cons u t ih =>
    intro k i v h
    have h1 : wc_in0 (u :: t) = wc_in0 [u] ++ wc_in0 t := by simp [wc_in0]
    rw [h1] at h
    show (k + i, wc_v G v) ∈ (k, wc_v G u) :: lv_args (if (wc_v G u).category = 2 then k + 2 else k + 1) (t.map (wc_v G))
    by_cases hl : ∃ x : Int64, u = .inr (.inl x)
    · obtain ⟨x, rfl⟩ := hl
      match i, h with
      | 0, h => cases h; exact List.mem_cons_self
      | 1, h => cases h
      | i + 2, h =>
        have h2 : (wc_in0 t)[i]? = some (some v) := h
        have h3 := ih (k + 2) i v h2
        rw [show k + 2 + i = k + (i + 2) by omega] at h3
        exact List.mem_cons_of_mem _ h3
    · have hc : ¬ (wc_v G u).category = 2 := fun q => hl (wc_cat2 q)
      have h0 : wc_in0 [u] = [some u] := by
        rcases u with x | x | x | x
        · rfl
        · exact absurd ⟨x, rfl⟩ hl
        · rfl
        · rfl
      rw [h0] at h
      rw [if_neg hc]
      match i, h with
      | 0, h => cases h; exact List.mem_cons_self
      | i + 1, h =>
        have h2 : (wc_in0 t)[i]? = some (some v) := h
        have h3 := ih (k + 1) i v h2
        rw [show k + 1 + i = k + (i + 1) by omega] at h3
        exact List.mem_cons_of_mem _ h3
theorem wc_entry {G : EG} {nL : Nat} (as : List EV) (h : (wc_in0 as).length ≤ nL) : wc_LR G nL (wc_in nL as) ((lg_sl (as.map (wc_v G)) ++ List.replicate (nL - (lg_sl (as.map (wc_v G))).length) Slot.unset).toArray) := by
  have h1 := lv_entry (as.map (wc_v G)) (n := nL) (by rw [wc_in0_len]; exact h)
  refine ⟨h1.1, h1.2.1, fun i v hi => ?_⟩
  unfold wc_in at hi
  by_cases hl : i < (wc_in0 as).length
  · rw [List.getElem?_append_left hl] at hi
    have h2 := wc_in0_at (G := G) as 0 i v hi
    rw [Nat.zero_add] at h2
    exact h1.2.2 _ h2
  · rw [List.getElem?_append_right (by omega)] at hi
    have h3 := List.eq_of_mem_replicate (List.mem_of_getElem? hi)
    cases h3
def wc_Q (G : EG) (w : EW) (mc ms : Nat) (Qr : Option EV → EW → Prop) : Array Value → State → Outcome → State → Prop := fun _ st o t => (∃ (r : Option EV) (w' : EW), o = .returned (r.map (wc_v G)) ∧ Qr r w' ∧ w'.length = w.length + mc ∧ wc_SL w' = wc_SL w + ms ∧ va_P (gD G) vwCl (wc_l G w') t.heap) ∧ va_F (wc_A G) st t
def wc_Pc (G : EG) (as : List EV) (w : EW) : Array Value → State → Prop := fun v U => v = (as.map (wc_v G)).toArray ∧ wc_E G U ∧ U.heap.size = gZ G + w.length ∧ va_P (gD G) vwCl (wc_l G w) U.heap
def wc_ws (y : MethodName) (b : ByteArray) (nL : Nat) (ret : Option FieldType) : List Cond := .code y b nL ret :: wc_B
def wc_rm (d mc ms : Nat) : Room := { frames := d, cells := mc, slots := ms, locals := 40 * d }
/-- the method y, called with as in the world w, returns r and leaves the world w', and Qr r w'; mc cells of ms slots come -/
def Ct (G : EG) (l : Launch) (y : MethodName) (b : ByteArray) (nL : Nat) (ret : Option FieldType) (d mc ms : Nat) (as : List EV) (w : EW) (Qr : Option EV → EW → Prop) : Prop :=
  Met l y (wc_ws y b nL ret) (wc_rm d mc ms) (wc_Pc G as w) (wc_Q G w mc ms Qr) mc ms (wc_A G)
theorem Ct_of {G : EG} {l : Launch} {y : MethodName} {b : ByteArray} {nL : Nat} {ret : Option FieldType} {d mc ms : Nat} {as : List EV} {w : EW} {Qr : Option EV → EW → Prop} (hy : plainName y.cls = true) (hlen : (wc_in0 as).length ≤ nL)
    (body : ∀ (p : Program) (e : Env) (s : State) (m : MethodId) (args : Array Value) (below : List Frame) (meth : Method) (c : Code), wc_C p s m args meth c G y.cls b nL w.length → meth.sig.returnType = ret → meth.name = y.name →
      WW p l e (wc_rm d mc ms) s m args below meth c (MQ below (wc_Q G w mc ms Qr) args s mc ms (wc_A G)) G nL w.length (wc_SL w) mc ms 0 (wc_in nL as) [] w) : Ct G l y b nL ret d mc ms as w Qr := by
  refine Met.ofW (cc := b) (maxL := nL) (ret := ret) hy rfl ?_
  intro p e s m args below meth c s₁ B hml hv
  obtain ⟨rfl, hE, hsz, hP⟩ := hv
  have hts := atoms_spec (ws := wc_ws y b nL ret) B.pre
  have K : wc_C p s m (as.map (wc_v G)).toArray meth c G y.cls b nL w.length := ⟨B.exec, B.bytes, hml, findClass_of_methodNamed B.named, fun q h => hts q (List.mem_cons_of_mem _ h), hE, hsz, B.notSynchronized⟩
  have k := body p e s m _ below meth c K B.returns (name_of_methodNamed B.named B.method).1
  rw [lg_entry_eq]
  have h9 := k s.heap [] _ (Nat.le_refl _) (Nat.le_refl _) rfl rfl hP va_S.rf (wc_entry as hlen)
  rw [Nat.sub_self, Nat.sub_self] at h9
  exact h9
theorem Ct_weak {G : EG} {l : Launch} {y : MethodName} {b : ByteArray} {nL : Nat} {ret : Option FieldType} {d mc ms : Nat} {as : List EV} {w : EW} {Q1 Q2 : Option EV → EW → Prop} (h : Ct G l y b nL ret d mc ms as w Q1) (hq : ∀ r w', Q1 r w' → Q2 r w') : Ct G l y b nL ret d mc ms as w Q2 := by
  intro p e ha hcs hk s m args below hf hap hpc htr
  obtain ⟨n, o, g1, g2, g3, ⟨⟨r, w', h1, h2, h3⟩, h4⟩, h5⟩ := h p e ha hcs hk s m args below hf hap hpc htr
  exact ⟨n, o, g1, g2, g3, ⟨⟨r, w', h1, hq r w' h2, h3⟩, h4⟩, h5⟩
section WCR
variable {d mc ms : Nat} {Qr : Option EV → EW → Prop} {wE : EW}
variable {p : Program} {l : Launch} {e : Env} {R : Room} {s : State} {m : MethodId} {args : Array Value} {below : List Frame} {meth : Method} {c : Code} {Q : State → Prop} {G : EG} {own : String} {cc : ByteArray} {nL n0 s0 rc rs pc : Nat} {ls : List (Option EV)} {st : List EV} {w : EW}
theorem ww_iret (K : wc_C p s m args meth c G own cc nL wE.length) {x : Int32} (hd : decode cc pc = .ok (.ireturn, 1)) (hr : meth.sig.returnType = some .int) (hq : Qr (some (eI x)) w) : WW p l e (wc_rm d mc ms) s m args below meth c (MQ below (wc_Q G wE mc ms Qr) args s mc ms (wc_A G)) G nL wE.length (wc_SL wE) 0 0 (pc) (ls) ([eI x]) (w) := by
  intro H locs arr h1 h2 h3 h4 hP hS hL
  have hc : w.length = wE.length + mc := h3
  have hs : wc_SL w = wc_SL wE + ms := h4
  have e1 : w.length - wE.length = mc := by omega
  have e2 : wc_SL w - wc_SL wE = ms := by omega
  rw [e1, e2]
  exact W.iret K.1 K.2.1 hr  (fun t ht hW => ⟨⟨some (eI x), w, rfl, hq, hc, hs, by rw [ht]; exact hP⟩, hS.F ht⟩) hS.2.2 hd (hlocks := K.2.2.2.2.2.2.2)
theorem ww_zret (K : wc_C p s m args meth c G own cc nL wE.length) {x : Int32} (hn : narrow .boolean (.int x) = .int x) (hd : decode cc pc = .ok (.ireturn, 1)) (hr : meth.sig.returnType = some .boolean) (hq : Qr (some (eI x)) w) : WW p l e (wc_rm d mc ms) s m args below meth c (MQ below (wc_Q G wE mc ms Qr) args s mc ms (wc_A G)) G nL wE.length (wc_SL wE) 0 0 (pc) (ls) ([eI x]) (w) := by
  intro H locs arr h1 h2 h3 h4 hP hS hL
  have hc : w.length = wE.length + mc := h3
  have hs : wc_SL w = wc_SL wE + ms := h4
  have e1 : w.length - wE.length = mc := by omega
  have e2 : wc_SL w - wc_SL wE = ms := by omega
  rw [e1, e2]
  exact W.zret K.1 K.2.1 hr hn (fun t ht hW => ⟨⟨some (eI x), w, rfl, hq, hc, hs, by rw [ht]; exact hP⟩, hS.F ht⟩) hS.2.2 hd (hlocks := K.2.2.2.2.2.2.2)
theorem ww_lret (K : wc_C p s m args meth c G own cc nL wE.length) {x : Int64} (hd : decode cc pc = .ok (.lreturn, 1)) (hr : meth.sig.returnType = some .long) (hq : Qr (some (eJ x)) w) : WW p l e (wc_rm d mc ms) s m args below meth c (MQ below (wc_Q G wE mc ms Qr) args s mc ms (wc_A G)) G nL wE.length (wc_SL wE) 0 0 (pc) (ls) ([eJ x]) (w) := by
  intro H locs arr h1 h2 h3 h4 hP hS hL
  have hc : w.length = wE.length + mc := h3
  have hs : wc_SL w = wc_SL wE + ms := h4
  have e1 : w.length - wE.length = mc := by omega
  have e2 : wc_SL w - wc_SL wE = ms := by omega
  rw [e1, e2]
  exact W.lret K.1 K.2.1 hr  (fun t ht hW => ⟨⟨some (eJ x), w, rfl, hq, hc, hs, by rw [ht]; exact hP⟩, hS.F ht⟩) hS.2.2 hd (hlocks := K.2.2.2.2.2.2.2)
theorem ww_vret (K : wc_C p s m args meth c G own cc nL wE.length)  (hd : decode cc pc = .ok (.return_, 1)) (hr : meth.sig.returnType = none) (hq : Qr (none) w) : WW p l e (wc_rm d mc ms) s m args below meth c (MQ below (wc_Q G wE mc ms Qr) args s mc ms (wc_A G)) G nL wE.length (wc_SL wE) 0 0 (pc) (ls) ([]) (w) := by
  intro H locs arr h1 h2 h3 h4 hP hS hL
  have hc : w.length = wE.length + mc := h3
  have hs : wc_SL w = wc_SL wE + ms := h4
  have e1 : w.length - wE.length = mc := by omega
  have e2 : wc_SL w - wc_SL wE = ms := by omega
  rw [e1, e2]
  exact W.vret K.1 K.2.1 hr  (fun t ht hW => ⟨⟨none, w, rfl, hq, hc, hs, by rw [ht]; exact hP⟩, hS.F ht⟩) hS.2.2 hd (hlocks := K.2.2.2.2.2.2.2)
theorem ww_aretN (K : wc_C p s m args meth c G own cc nL wE.length) {rt : FieldType} (hrt : (∃ n, rt = .object n) ∨ ∃ t, rt = .array t) (hd : decode cc pc = .ok (.areturn, 1)) (hr : meth.sig.returnType = some rt) (hq : Qr (some eN) w) : WW p l e (wc_rm d mc ms) s m args below meth c (MQ below (wc_Q G wE mc ms Qr) args s mc ms (wc_A G)) G nL wE.length (wc_SL wE) 0 0 (pc) (ls) ([eN]) (w) := by
  intro H locs arr h1 h2 h3 h4 hP hS hL
  have hc : w.length = wE.length + mc := h3
  have hs : wc_SL w = wc_SL wE + ms := h4
  have e1 : w.length - wE.length = mc := by omega
  have e2 : wc_SL w - wc_SL wE = ms := by omega
  rw [e1, e2]
  exact W.aret K.1 K.2.1 hr hrt (Or.inl rfl) (fun t ht hW => ⟨⟨some eN, w, rfl, hq, hc, hs, by rw [ht]; exact hP⟩, hS.F ht⟩) hS.2.2 hd (hlocks := K.2.2.2.2.2.2.2)
theorem ww_aret (K : wc_C p s m args meth c G own cc nL wE.length) {rt : FieldType} {x : Nat} (hrt : (∃ n, rt = .object n) ∨ ∃ t, rt = .array t) (hd : decode cc pc = .ok (.areturn, 1)) (hr : meth.sig.returnType = some rt) (hq : Qr (some (eR x)) w) : WW p l e (wc_rm d mc ms) s m args below meth c (MQ below (wc_Q G wE mc ms Qr) args s mc ms (wc_A G)) G nL wE.length (wc_SL wE) 0 0 (pc) (ls) ([eR x]) (w) := by
  intro H locs arr h1 h2 h3 h4 hP hS hL
  have hc : w.length = wE.length + mc := h3
  have hs : wc_SL w = wc_SL wE + ms := h4
  have e1 : w.length - wE.length = mc := by omega
  have e2 : wc_SL w - wc_SL wE = ms := by omega
  rw [e1, e2]
  exact W.aret K.1 K.2.1 hr hrt (Or.inr ⟨_, rfl⟩) (fun t ht hW => ⟨⟨some (eR x), w, rfl, hq, hc, hs, by rw [ht]; exact hP⟩, hS.F ht⟩) hS.2.2 hd (hlocks := K.2.2.2.2.2.2.2)
end WCR
section WCC
variable {p : Program} {l : Launch} {e : Env} {R : Room} {s : State} {m : MethodId} {args : Array Value} {below : List Frame} {meth : Method} {c : Code} {Q : State → Prop} {G : EG} {own : String} {cc : ByteArray} {nL n0 s0 rc rs pc : Nat} {ls : List (Option EV)} {st : List EV} {w : EW}
theorem wc_size {T : State} (K : wc_C p s m args meth c G own cc nL n0) {H : Heap} {locs : List Loc} (h1 : n0 ≤ w.length) (hP : va_P (gD G) vwCl (wc_l G w) H) (hS : va_S (wc_A G) s.heap H locs) (hT : T.heap = H) (X : Stand p l e R s m args below meth c T locs (w.length - n0) (wc_SL w - s0)) : H.size = gZ G + w.length := by
  have h2 := X.heapSize
  rw [hT, K.2.2.2.2.2.2.1] at h2
  have h3 := hS.1
  rw [K.2.2.2.2.2.2.1] at h3
  have h4 : gZ G + w.length ≤ H.size := by
    cases hw : w[w.length - 1]? with
    | none =>
      have := List.getElem?_eq_none_iff.mp hw
      omega
    | some c0 =>
      have h5 : gZ G + (w.length - 1) < H.size := (hP (w.length - 1) _ (wc_l_get hw)).lt
      omega
  omega
theorem wc_cont {mc ms : Nat} {as : List EV} {Qr : Option EV → EW → Prop} {T : State} (K : wc_C p s m args meth c G own cc nL n0) {H : Heap} {locs : List Loc} {arr : Array Slot} {g : JFrame} (h1 : n0 ≤ w.length) (h2 : s0 ≤ wc_SL w) (h3 : w.length + (rc + mc) = n0 + R.cells) (h4 : wc_SL w + (rs + ms) = s0 + R.slots) (hS : va_S (wc_A G) s.heap H locs) (hL : wc_LR G nL ls arr) (hg : g = F0 m pc arr (g.stack)) {aa : Array Value}
    (hr : va_Run p l e R s m args below meth c H locs (w.length - n0) (wc_SL w - s0) mc ms g (st.map (wc_v G)) (wc_Q G w mc ms Qr aa) (wc_A G))
    (kk : ∀ (r : Option EV) (w' : EW), Qr r w' → w'.length = w.length + mc → wc_SL w' = wc_SL w + ms → WW p l e R s m args below meth c Q G nL n0 s0 rc rs (pc + 3) ls (r.toList ++ st) w')
    (hT : T.heap = H) (X : Stand p l e R s m args below meth c T locs (w.length - n0) (wc_SL w - s0)) : ∃ t, Steps p.tables e below (T.setTop g) t ∧ Q t := by
  obtain ⟨v, st₀, t, T', L, e0, X', hF, e1, e2, ⟨⟨r, w', hv, hq, hlen, hsl, hP'⟩, hz, hk⟩, st1⟩ := hr T hT X
  cases hv
  rw [e0] at hz hk
  have c1 : w.length - n0 + mc = w'.length - n0 := by omega
  have c2 : wc_SL w - s0 + ms = wc_SL w' - s0 := by omega
  rw [c1, c2] at X'
  have hS' : va_S (wc_A G) s.heap T'.heap (locs ++ L) := ⟨Nat.le_trans hS.1 (by rw [e1]; exact hz), fun q h3 h4 => by rw [e1, hk q (Nat.lt_of_lt_of_le h3 hS.1) h4]; exact hS.2.1 q h3 h4, fun q hq => by
    rcases List.mem_append.mp hq with h | h
    · exact hS.2.2 q h
    · exact hF q h⟩
  obtain ⟨t2, a1, b1⟩ := kk r w' hq hlen hsl T'.heap (locs ++ L) arr (by omega) (by omega) (by omega) (by omega) (by rw [e1]; exact hP') hS' hL T' rfl X'
  refine ⟨t2, st1 t2 ?_, b1⟩
  have hst : (r.toList ++ st).map (wc_v G) = (r.map (wc_v G)).toList ++ st.map (wc_v G) := by cases r <;> rfl
  rw [hst] at a1
  rw [hg]
  exact a1
theorem wc_pre {as : List EV} {mcx : Nat} (K : wc_C p s m args meth c G own cc nL n0) {H : Heap} {locs : List Loc} (hP : va_P (gD G) vwCl (wc_l G w) H) (hS : va_S (wc_A G) s.heap H locs) (hsz : H.size = gZ G + w.length) : FrameBlind (wc_Pc G as w) ∧ ∀ U : State, U.heap = H → s.WarmedH U.vm → wc_Pc G as w (as.map (wc_v G)).toArray U :=
  ⟨fun a U g mk h => ⟨h.1, wc_E_calling h.2.1 g mk a, h.2.2.1, h.2.2.2⟩, fun U hU hW => ⟨rfl, wc_E_moved K.2.2.2.2.2.1 hW (fun a h1 h2 => by rw [hU]; exact hS.2.1 a h1 h2), by rw [hU]; exact hsz, by rw [hU]; exact hP⟩⟩
def wc_rest (st : List EV) : Nat := (st.map (fun v => match v with | .inr (.inl _) => 2 | _ => 1)).sum
theorem wc_rest_ok {G : EG} (st : List EV) : ((st.map (wc_v G)).map fun v => v.category).sum = wc_rest st := by
  induction st with
  | nil => rfl
  | cons v t ih =>
    simp only [List.map_cons, List.sum_cons, wc_rest] at ih ⊢
    rw [ih]
    congr 1
    rcases v with x | x | x | x
    · rfl
    · rfl
    · cases x <;> rfl
    · rfl
/-- the callee's words at a call: of a static method, of an instance method, of a constructor; whose name another class of the nest says is private (N) -/
def wk_S (own : String) (idx : Nat) (y : MethodName) (b : ByteArray) (nL : Nat) (ret : Option FieldType) (n : Nat) : Prop := (∀ w ∈ [Cond.methodLink own idx y, .static y, .initialized y.cls, .code y b nL ret], w ∈ wc_B) ∧ y.cls ≠ "java/lang/invoke/MethodHandle" ∧ y.cls ≠ "java/lang/invoke/VarHandle" ∧ (parseMethodDescriptor y.desc).map (fun d => d.parameters.length) = some n
def wk_SN (own : String) (idx : Nat) (y : MethodName) (host : String) (b : ByteArray) (nL : Nat) (ret : Option FieldType) (n : Nat) : Prop := (∀ w ∈ [Cond.static y, .initialized y.cls, .code y b nL ret], w ∈ wc_B) ∧ Cond.methodLinkNest own idx y host ∈ wc_nests ∧ y.cls ≠ "java/lang/invoke/MethodHandle" ∧ y.cls ≠ "java/lang/invoke/VarHandle" ∧ (parseMethodDescriptor y.desc).map (fun d => d.parameters.length) = some n
def wk_V (own : String) (idx : Nat) (y : MethodName) (b : ByteArray) (nL : Nat) (ret : Option FieldType) (n : Nat) : Prop := (∀ w ∈ [Cond.methodLink own idx y, .instanceMethod y, .selects y.cls y y, .initialized y.cls, .code y b nL ret], w ∈ wc_B) ∧ y.cls ≠ "java/lang/invoke/MethodHandle" ∧ y.cls ≠ "java/lang/invoke/VarHandle" ∧ (parseMethodDescriptor y.desc).map (fun d => d.parameters.length) = some n
def wk_I (own : String) (idx : Nat) (y : MethodName) (b : ByteArray) (nL : Nat) (n : Nat) : Prop := (∀ w ∈ [Cond.methodLink own idx y, .instanceMethod y, .initialized y.cls, .code y b nL none], w ∈ wc_B) ∧ y.name = "<init>" ∧ y.cls ≠ "java/lang/invoke/MethodHandle" ∧ y.cls ≠ "java/lang/invoke/VarHandle" ∧ (parseMethodDescriptor y.desc).map (fun d => d.parameters.length) = some n
def wk_IN (own : String) (idx : Nat) (y : MethodName) (host : String) (b : ByteArray) (nL : Nat) (n : Nat) : Prop := (∀ w ∈ [Cond.instanceMethod y, .initialized y.cls, .code y b nL none], w ∈ wc_B) ∧ Cond.methodLinkNest own idx y host ∈ wc_nests ∧ y.name = "<init>" ∧ y.cls ≠ "java/lang/invoke/MethodHandle" ∧ y.cls ≠ "java/lang/invoke/VarHandle" ∧ (parseMethodDescriptor y.desc).map (fun d => d.parameters.length) = some n
theorem wc_goodws {y : MethodName} {b : ByteArray} {nL : Nat} {ret : Option FieldType} (h : Cond.code y b nL ret ∈ wc_B) : GoodIn wc_B (wc_ws y b nL ret) := wc_BG (fun w hw => (List.mem_cons.mp hw).elim (fun e => by rw [e]; exact h) id)
theorem ww_callS (K : wc_C p s m args meth c G own cc nL n0) {y : MethodName} {b : ByteArray} {nL2 d mc ms idx : Nat} {ret : Option FieldType} {as : List EV} {Qr : Option EV → EW → Prop} {st0 : List EV} (hd : decode cc pc = .ok (.invokestatic idx, 3)) (hw : wk_S own idx y b nL2 ret as.length) (hC : Ct G l y b nL2 ret d mc ms as w Qr) (hst0 : st0 = as.reverse ++ st) (hR : d + 1 ≤ R.frames ∧ 8 + (nL2 + 11) + 40 * d ≤ R.locals) (hrest : wc_rest st ≤ 8) (kk : ∀ (r : Option EV) (w2 : EW), Qr r w2 → w2.length = w.length + mc → wc_SL w2 = wc_SL w + ms → WW p l e R s m args below meth c Q G nL n0 s0 rc rs (pc + 3) (ls) (r.toList ++ st) (w2)) : WW p l e R s m args below meth c Q G nL n0 s0 (rc + mc) (rs + ms) (pc) (ls) (st0) (w) := by
  intro H locs arr h1 h2 h3 h4 hP hS hL
  intro T hT X
  have hcs : w.length - n0 + mc ≤ R.cells ∧ wc_SL w - s0 + ms ≤ R.slots := ⟨by omega, by omega⟩
  obtain ⟨w1, w2, w3, w4⟩ := hw
  have hsz := wc_size K h1 hP hS hT X
  subst hst0
  refine wc_cont (as := as) K h1 h2 h3 h4 hS hL (g := F0 m pc arr ((as.reverse ++ st).map (wc_v G))) rfl (va_runS (As := as.map (wc_v G)) (n := as.length) ⟨K.1, K.2.1, K.2.2.1, K.2.2.2.1, K.2.2.2.2.1⟩ hC (va_cwS as.length K.2.2.2.2.1 (fun q hq => ?_) rfl rfl rfl ⟨w2, w3, w4⟩ ⟨hR.1, hR.2⟩) (wc_pre (mcx := 0) K hP hS hsz) rfl (by rw [List.length_map]) hL.1 (by simp) (by show 2 * 0 + _ ≤ 8; rw [wc_rest_ok]; omega) hd hcs) kk hT X
  rcases List.mem_append.mp hq with hq | hq
  · exact wc_BG w1 q (by revert hq; simp only [List.mem_cons, List.not_mem_nil, or_false]; intro hq; rcases hq with h | h | h <;> simp [h])
  · exact wc_goodws (w1 _ (by simp)) q hq
theorem ww_callSN (K : wc_C p s m args meth c G own cc nL n0) {y : MethodName} {b : ByteArray} {nL2 d mc ms idx : Nat} {ret : Option FieldType} {as : List EV} {Qr : Option EV → EW → Prop} {st0 : List EV} {host : String} (hd : decode cc pc = .ok (.invokestatic idx, 3)) (hw : wk_SN own idx y host b nL2 ret as.length) (hC : Ct G l y b nL2 ret d mc ms as w Qr) (hst0 : st0 = as.reverse ++ st) (hR : d + 1 ≤ R.frames ∧ 8 + (nL2 + 11) + 40 * d ≤ R.locals) (hrest : wc_rest st ≤ 8) (kk : ∀ (r : Option EV) (w2 : EW), Qr r w2 → w2.length = w.length + mc → wc_SL w2 = wc_SL w + ms → WW p l e R s m args below meth c Q G nL n0 s0 rc rs (pc + 3) (ls) (r.toList ++ st) (w2)) : WW p l e R s m args below meth c Q G nL n0 s0 (rc + mc) (rs + ms) (pc) (ls) (st0) (w) := by
  intro H locs arr h1 h2 h3 h4 hP hS hL
  intro T hT X
  have hcs : w.length - n0 + mc ≤ R.cells ∧ wc_SL w - s0 + ms ≤ R.slots := ⟨by omega, by omega⟩
  obtain ⟨w1, wn, w2, w3, w4⟩ := hw
  have hsz := wc_size K h1 hP hS hT X
  subst hst0
  exact wc_cont (as := as) K h1 h2 h3 h4 hS hL (g := F0 m pc arr ((as.reverse ++ st).map (wc_v G))) rfl (va_runSN (As := as.map (wc_v G)) (n := as.length) ⟨K.1, K.2.1, K.2.2.1, K.2.2.2.1, K.2.2.2.2.1⟩ hC ⟨va_cnB as.length K.2.2.2.2.1 (wc_goodws (w1 _ (by simp))) rfl rfl rfl (K.2.2.2.2.2.1.2.1 _ wn) (K.2.2.2.2.1 _ (w1 _ (by simp))) ⟨w2, w3, w4⟩ ⟨hR.1, hR.2⟩, K.2.2.2.2.1 _ (w1 _ (by simp)), trivial⟩ (wc_pre (mcx := 0) K hP hS hsz) rfl (by rw [List.length_map]) hL.1 (by simp) (by show 2 * 0 + _ ≤ 8; rw [wc_rest_ok]; omega) hd hcs) kk hT X
theorem ww_callV (K : wc_C p s m args meth c G own cc nL n0) {y : MethodName} {b : ByteArray} {nL2 d mc ms idx : Nat} {ret : Option FieldType} {as : List EV} {Qr : Option EV → EW → Prop} {st0 : List EV} {k ci : Nat} {fs : List EV} (hd : decode cc pc = .ok (.invokevirtual idx, 3)) (hw : wk_V own idx y b nL2 ret as.length) (hk : w[k]? = some (cO ci fs)) (hci : ∃ q, vwCl[ci]? = some q ∧ q.1 = y.cls) (hC : Ct G l y b nL2 ret d mc ms (eR k :: as) w Qr) (hst0 : st0 = as.reverse ++ eR k :: st) (hR : d + 1 ≤ R.frames ∧ 8 + (nL2 + 11) + 40 * d ≤ R.locals) (hrest : wc_rest st ≤ 8) (kk : ∀ (r : Option EV) (w2 : EW), Qr r w2 → w2.length = w.length + mc → wc_SL w2 = wc_SL w + ms → WW p l e R s m args below meth c Q G nL n0 s0 rc rs (pc + 3) (ls) (r.toList ++ st) (w2)) : WW p l e R s m args below meth c Q G nL n0 s0 (rc + mc) (rs + ms) (pc) (ls) (st0) (w) := by
  intro H locs arr h1 h2 h3 h4 hP hS hL
  intro T hT X
  have hcs : w.length - n0 + mc ≤ R.cells ∧ wc_SL w - s0 + ms ≤ R.slots := ⟨by omega, by omega⟩
  obtain ⟨w1, w2, w3, w4⟩ := hw
  obtain ⟨qc, hq1, hq2⟩ := hci
  have hsz := wc_size K h1 hP hS hT X
  have hpre := wc_pre (mcx := 0) (as := eR k :: as) K hP hS hsz
  subst hst0
  refine wc_cont (as := eR k :: as) K h1 h2 h3 h4 hS hL (g := F0 m pc arr ((as.reverse ++ eR k :: st).map (wc_v G))) rfl (va_runV (C := y.cls) (b := gZ G + k) (As := as.map (wc_v G)) (n := as.length) ⟨K.1, K.2.1, K.2.2.1, K.2.2.2.1, K.2.2.2.2.1⟩ hC (cwV as.length K.2.2.2.2.1 (fun q hq => ?_) rfl rfl rfl ⟨rfl, w2, w3, w4⟩ ⟨hR.1, hR.2⟩) ⟨hpre.1, by rw [← hq2]; exact va_recv K.2.2.2.2.2.1.1 hP hq1 (wc_l_get hk), hpre.2⟩ rfl (by rw [List.length_map]) hL.1 (by simp [wc_v]) (by show 2 * 0 + _ ≤ 8; rw [wc_rest_ok]; omega) hd hcs) kk hT X
  rcases List.mem_append.mp hq with hq | hq
  · exact wc_BG w1 q (by revert hq; simp only [List.mem_cons, List.not_mem_nil, or_false]; intro hq; rcases hq with h | h | h | h <;> simp [h])
  · exact wc_goodws (w1 _ (by simp)) q hq
theorem ww_callI (K : wc_C p s m args meth c G own cc nL n0) {y : MethodName} {b : ByteArray} {nL2 d mc ms idx : Nat} {as : List EV} {Qr : Option EV → EW → Prop} {st0 : List EV} {k : Nat} (hd : decode cc pc = .ok (.invokespecial idx, 3)) (hw : wk_I own idx y b nL2 as.length) (hC : Ct G l y b nL2 none d mc ms (eR k :: as) w Qr) (hst0 : st0 = as.reverse ++ eR k :: st) (hR : d + 1 ≤ R.frames ∧ 8 + (nL2 + 11) + 40 * d ≤ R.locals) (hrest : wc_rest st ≤ 8) (kk : ∀ (r : Option EV) (w2 : EW), Qr r w2 → w2.length = w.length + mc → wc_SL w2 = wc_SL w + ms → WW p l e R s m args below meth c Q G nL n0 s0 rc rs (pc + 3) (ls) (r.toList ++ st) (w2)) : WW p l e R s m args below meth c Q G nL n0 s0 (rc + mc) (rs + ms) (pc) (ls) (st0) (w) := by
  intro H locs arr h1 h2 h3 h4 hP hS hL
  intro T hT X
  have hcs : w.length - n0 + mc ≤ R.cells ∧ wc_SL w - s0 + ms ≤ R.slots := ⟨by omega, by omega⟩
  obtain ⟨w1, wi, w2, w3, w4⟩ := hw
  have hsz := wc_size K h1 hP hS hT X
  subst hst0
  exact wc_cont (as := eR k :: as) K h1 h2 h3 h4 hS hL (g := F0 m pc arr ((as.reverse ++ eR k :: st).map (wc_v G))) rfl (va_runI (b := gZ G + k) (As := as.map (wc_v G)) (n := as.length) ⟨K.1, K.2.1, K.2.2.1, K.2.2.2.1, K.2.2.2.2.1⟩ hC (cwI as.length K.2.2.2.2.1 (wc_goodws (w1 _ (by simp))) rfl rfl rfl (K.2.2.2.2.1 _ (w1 _ (by simp))) (K.2.2.2.2.1 _ (w1 _ (by simp))) (K.2.2.2.2.1 _ (w1 _ (by simp))) wi ⟨w2, w3, w4⟩ ⟨hR.1, hR.2⟩) (wc_pre (mcx := 0) (as := eR k :: as) K hP hS hsz) rfl (by rw [List.length_map]) hL.1 (by simp [wc_v]) (by show 2 * 0 + _ ≤ 8; rw [wc_rest_ok]; omega) hd hcs) kk hT X
theorem ww_callIN (K : wc_C p s m args meth c G own cc nL n0) {y : MethodName} {host : String} {b : ByteArray} {nL2 d mc ms idx : Nat} {as : List EV} {Qr : Option EV → EW → Prop} {st0 : List EV} {k : Nat} (hd : decode cc pc = .ok (.invokespecial idx, 3)) (hw : wk_IN own idx y host b nL2 as.length) (hC : Ct G l y b nL2 none d mc ms (eR k :: as) w Qr) (hst0 : st0 = as.reverse ++ eR k :: st) (hR : d + 1 ≤ R.frames ∧ 8 + (nL2 + 11) + 40 * d ≤ R.locals) (hrest : wc_rest st ≤ 8) (kk : ∀ (r : Option EV) (w2 : EW), Qr r w2 → w2.length = w.length + mc → wc_SL w2 = wc_SL w + ms → WW p l e R s m args below meth c Q G nL n0 s0 rc rs (pc + 3) (ls) (r.toList ++ st) (w2)) : WW p l e R s m args below meth c Q G nL n0 s0 (rc + mc) (rs + ms) (pc) (ls) (st0) (w) := by
  intro H locs arr h1 h2 h3 h4 hP hS hL
  intro T hT X
  have hcs : w.length - n0 + mc ≤ R.cells ∧ wc_SL w - s0 + ms ≤ R.slots := ⟨by omega, by omega⟩
  obtain ⟨w1, wn, wi, w2, w3, w4⟩ := hw
  have hsz := wc_size K h1 hP hS hT X
  subst hst0
  exact wc_cont (as := eR k :: as) K h1 h2 h3 h4 hS hL (g := F0 m pc arr ((as.reverse ++ eR k :: st).map (wc_v G))) rfl (va_runIN (b := gZ G + k) (As := as.map (wc_v G)) (n := as.length) ⟨K.1, K.2.1, K.2.2.1, K.2.2.2.1, K.2.2.2.2.1⟩ hC ⟨va_cnB as.length K.2.2.2.2.1 (wc_goodws (w1 _ (by simp))) rfl rfl rfl (K.2.2.2.2.2.1.2.1 _ wn) (K.2.2.2.2.1 _ (w1 _ (by simp))) ⟨w2, w3, w4⟩ ⟨hR.1, hR.2⟩, wi, K.2.2.2.2.1 _ (w1 _ (by simp))⟩ (wc_pre (mcx := 0) (as := eR k :: as) K hP hS hsz) rfl (by rw [List.length_map]) hL.1 (by simp [wc_v]) (by show 2 * 0 + _ ≤ 8; rw [wc_rest_ok]; omega) hd hcs) kk hT X
end WCC
end
section
section WM
variable {p : Program} {l : Launch} {e : Env} {R : Room} {s : State} {m : MethodId} {args : Array Value} {below : List Frame} {meth : Method} {c : Code} {Q : State → Prop} {G : EG} {own : String} {cc : ByteArray} {nL n0 s0 rc rs pc : Nat} {ls : List (Option EV)} {st : List EV} {w : EW}
theorem wc_pushP {cx : EC} {H H1 : Heap} (hP : va_P (gD G) vwCl (wc_l G w) H) (hsz : H.size = gZ G + w.length) (o1 : ∀ q, q < H.size → H1[q]? = H[q]?) (hx : va_at (gD G) vwCl (gZ G + w.length, wc_c G cx) H1) : va_P (gD G) vwCl (wc_l G (w ++ [cx])) H1 := by
  rw [← wc_l_push]
  refine (hP.kept (fun k q hk => o1 q.1 (hP k q hk).lt)).app (fun k q hk => ?_)
  have hz : k < 1 := (List.getElem?_eq_some_iff.mp hk).1
  rw [show k = 0 by omega] at hk
  cases hk
  exact hx
theorem wc_pushS {H H1 : Heap} {locs : List Loc} (hS : va_S (wc_A G) s.heap H locs) (z1 : H1.size = H.size + 1) (o1 : ∀ q, q < H.size → H1[q]? = H[q]?) : va_S (wc_A G) s.heap H1 locs :=
  ⟨Nat.le_trans hS.1 (by omega), fun x h1 h2 => (o1 x (Nat.lt_of_lt_of_le h1 hS.1)).trans (hS.2.1 x h1 h2), hS.2.2⟩
def wk_N (own : String) (idx ci : Nat) (fs : List EV) : Prop := ∃ (C : String) (T : u_T) (N : Nat) (ty : Nat → FieldType), vwCl[ci]? = some (C, T, N) ∧ Cond.classLink own idx C ∈ wc_B ∧ Cond.instantiable C N ∈ wc_B ∧ Cond.initialized C ∈ wc_B ∧ (∀ w ∈ u_ws C T N, w ∈ wc_B) ∧ (∀ k, k < N → parseFieldDescriptor (T k).2.2.1 = some (ty k)) ∧ fs.length = N ∧ ∀ (G : EG) (j : Nat), j < N → defaultValue (ty j) = vp_V (fs.map (wc_v G)) j
theorem ww_new (K : wc_C p s m args meth c G own cc nL n0) {idx ci : Nat} {fs : List EV} (hd : decode cc pc = .ok (.new idx, 3)) (hN : wk_N own idx ci fs) (kk : WW p l e R s m args below meth c Q G nL n0 s0 rc rs (pc + 3) (ls) (eR w.length :: st) (w ++ [cO ci fs])) : WW p l e R s m args below meth c Q G nL n0 s0 (rc + 1) (rs + fs.length) (pc) (ls) (st) (w) := by
  intro H locs arr h1 h2 h3 h4 hP hS hL
  intro T hT X
  obtain ⟨C, TT, N, ty, f1, f2, f3, f4, f5, f6, f7, f8⟩ := hN
  have hsz := wc_size K h1 hP hS hT X
  have hKn := K.2.2.2.2.2.1.1.1 ci _ f1
  subst f7
  refine W.newcK (g := F0 m pc arr (st.map (wc_v G))) (Q := Q) K.1 K.2.1 K.2.2.2.1 (K.2.2.2.2.1 _ f2) (K.2.2.2.2.1 _ f3) (K.2.2.2.2.1 _ f4) rfl hd (by omega) (by omega) hKn.2.1 hsz (fun H1 kC hkC e1 z1 o1 => ?_) T hT X
  have hx : va_at (gD G) vwCl (gZ G + w.length, wc_c G (cO ci fs)) H1 := ⟨_, f1, (u_born ty K.2.2.2.2.1 f5 hKn hkC e1 f6).to (f8 G)⟩
  have h9 := kk H1 locs arr (by rw [List.length_append]; omega) (by rw [wc_SL_push]; omega) (by rw [List.length_append]; show w.length + 1 + rc = _; omega) (by rw [wc_SL_push]; show wc_SL w + fs.length + rs = _; omega) (wc_pushP hP hsz (fun q hq => o1 q (by omega)) hx) (wc_pushS hS (by omega) (fun q hq => o1 q (by omega))) hL
  have c1 : (w ++ [cO ci fs]).length - n0 = w.length - n0 + 1 := by rw [List.length_append]; show w.length + 1 - n0 = _; omega
  have c2 : wc_SL (w ++ [cO ci fs]) - s0 = wc_SL w - s0 + fs.length := by rw [wc_SL_push]; show wc_SL w + fs.length - s0 = _; omega
  rw [c1, c2] at h9
  exact h9
theorem ww_newI (K : wc_C p s m args meth c G own cc nL n0) {n : Int32} {N : Nat} (hd : decode cc pc = .ok (.newarray .int, 2)) (hw : Cond.arrayClass .int ∈ wc_B) (hn : ¬ n < 0) (hN : n.toNatClampNeg = N) (hb : N ≤ 100000) (kk : WW p l e R s m args below meth c Q G nL n0 s0 rc rs (pc + 2) (ls) (eR w.length :: st) (w ++ [cI 0 N (fun _ => 0)])) : WW p l e R s m args below meth c Q G nL n0 s0 (rc + 1) (rs + N) (pc) (ls) (eI n :: st) (w) := by
  intro H locs arr h1 h2 h3 h4 hP hS hL
  intro T hT X
  have hsz := wc_size K h1 hP hS hT X
  refine va_newaK (atype := .int) (g := F0 m pc arr ((eI n :: st).map (wc_v G))) (Q := Q) K.1 K.2.1 (K.2.2.2.2.1 _ hw) rfl hd rfl hn hN (by show N * _ ≤ _; simp only [newarray.typeOf, componentBytes]; omega) (by omega) (by omega) hsz (fun H1 cA e1 z1 o1 hAr hNm => ?_) T hT X
  have hcA : cA = gY G 0 := by
    have h8 : s.vm.findClass ("[" ++ (newarray.typeOf .int).toString) = some (gY G 0) := (K.2.2.2.2.2.1.1.2 0 _ rfl).2
    exact Option.some.inj (hNm.symm.trans h8)
  subst hcA
  have hx : va_at (gD G) vwCl (gZ G + w.length, wc_c G (cI 0 N (fun _ => 0))) H1 := by
    show H1[gZ G + w.length]? = some (vp_cell _ _)
    rw [e1, vp_cell_i]
    rfl
  have h9 := kk H1 locs arr (by rw [List.length_append]; omega) (by rw [wc_SL_push]; omega) (by rw [List.length_append]; show w.length + 1 + rc = _; omega) (by rw [wc_SL_push]; show wc_SL w + N + rs = _; omega) (wc_pushP hP hsz (fun q hq => o1 q (by omega)) hx) (wc_pushS hS (by omega) (fun q hq => o1 q (by omega))) hL
  have c1 : (w ++ [cI 0 N (fun _ => 0)]).length - n0 = w.length - n0 + 1 := by rw [List.length_append]; show w.length + 1 - n0 = _; omega
  have c2 : wc_SL (w ++ [cI 0 N (fun _ => 0)]) - s0 = wc_SL w - s0 + N := by rw [wc_SL_push]; show wc_SL w + N - s0 = _; omega
  rw [c1, c2] at h9
  exact h9
theorem ww_newZ (K : wc_C p s m args meth c G own cc nL n0) {n : Int32} {N : Nat} (hd : decode cc pc = .ok (.newarray .boolean, 2)) (hw : Cond.arrayClass .boolean ∈ wc_B) (hn : ¬ n < 0) (hN : n.toNatClampNeg = N) (hb : N ≤ 100000) (kk : WW p l e R s m args below meth c Q G nL n0 s0 rc rs (pc + 2) (ls) (eR w.length :: st) (w ++ [cI 1 N (fun _ => 0)])) : WW p l e R s m args below meth c Q G nL n0 s0 (rc + 1) (rs + N) (pc) (ls) (eI n :: st) (w) := by
  intro H locs arr h1 h2 h3 h4 hP hS hL
  intro T hT X
  have hsz := wc_size K h1 hP hS hT X
  refine va_newaK (atype := .boolean) (g := F0 m pc arr ((eI n :: st).map (wc_v G))) (Q := Q) K.1 K.2.1 (K.2.2.2.2.1 _ hw) rfl hd rfl hn hN (by show N * _ ≤ _; simp only [newarray.typeOf, componentBytes]; omega) (by omega) (by omega) hsz (fun H1 cA e1 z1 o1 hAr hNm => ?_) T hT X
  have hcA : cA = gY G 1 := by
    have h8 : s.vm.findClass ("[" ++ (newarray.typeOf .boolean).toString) = some (gY G 1) := (K.2.2.2.2.2.1.1.2 1 _ rfl).2
    exact Option.some.inj (hNm.symm.trans h8)
  subst hcA
  have hx : va_at (gD G) vwCl (gZ G + w.length, wc_c G (cI 1 N (fun _ => 0))) H1 := by
    show H1[gZ G + w.length]? = some (vp_cell _ _)
    rw [e1, vp_cell_i]
    rfl
  have h9 := kk H1 locs arr (by rw [List.length_append]; omega) (by rw [wc_SL_push]; omega) (by rw [List.length_append]; show w.length + 1 + rc = _; omega) (by rw [wc_SL_push]; show wc_SL w + N + rs = _; omega) (wc_pushP hP hsz (fun q hq => o1 q (by omega)) hx) (wc_pushS hS (by omega) (fun q hq => o1 q (by omega))) hL
  have c1 : (w ++ [cI 1 N (fun _ => 0)]).length - n0 = w.length - n0 + 1 := by rw [List.length_append]; show w.length + 1 - n0 = _; omega
  have c2 : wc_SL (w ++ [cI 1 N (fun _ => 0)]) - s0 = wc_SL w - s0 + N := by rw [wc_SL_push]; show wc_SL w + N - s0 = _; omega
  rw [c1, c2] at h9
  exact h9
theorem ww_newq2 (K : wc_C p s m args meth c G own cc nL n0) {idx : Nat} {n : Int32} {N : Nat} (hd : decode cc pc = .ok (.anewarray idx, 3)) (hw : Cond.classLink own idx RX2 ∈ wc_B) (hn : ¬ n < 0) (hN : n.toNatClampNeg = N) (hb : N ≤ 100000) (kk : WW p l e R s m args below meth c Q G nL n0 s0 rc rs (pc + 3) (ls) (eR w.length :: st) (w ++ [cQ 2 N (fun _ => none)])) : WW p l e R s m args below meth c Q G nL n0 s0 (rc + 1) (rs + N) (pc) (ls) (eI n :: st) (w) := by
  intro H locs arr h1 h2 h3 h4 hP hS hL
  intro T hT X
  subst hN
  have hsz := wc_size K h1 hP hS hT X
  refine W.anew (g := F0 m pc arr ((eI n :: st).map (wc_v G))) (Q := Q) K.1 K.2.1 K.2.2.2.1 (K.2.2.2.2.1 _ hw) (va_AO.use K.2.2.2.2.2.1.2.2.2.2.2.1) rfl hd rfl hn (by omega) (by omega) (by omega) (fun cA kA comp f1 f2 f3 f4 => ?_) T hT X
  have hcA : cA = gY G 2 := by
    have h8 : va_RA s (gY G 2) (.object RX2) := (K.2.2.2.2.2.1.1.2 2 _ rfl).2
    obtain ⟨kA', comp', g1, g2, g3, g4⟩ := h8
    exact Option.some.inj (f1.symm.trans g4)
  subst hcA
  generalize hH1 : H.push ({ cls := gY G 2, slots := Array.replicate n.toNatClampNeg .null, vm := .none } : Cell) = H1
  have z1 : H1.size = H.size + 1 := by rw [← hH1, Array.size_push]
  have e1 : H1[gZ G + w.length]? = some (arrV (gY G 2) n.toNatClampNeg (fun _ => .null)) := by rw [← hsz, ← hH1, Array.getElem?_push_size, ← arrV_new]
  have o1 : ∀ q : Nat, q < H.size → H1[q]? = H[q]? := fun q hq => by rw [← hH1, Array.getElem?_push, if_neg (Nat.ne_of_lt hq)]
  have hx : va_at (gD G) vwCl (gZ G + w.length, wc_c G (cQ 2 n.toNatClampNeg (fun _ => none))) H1 := by
    show H1[gZ G + w.length]? = some (vp_cell _ _)
    rw [e1, vp_cell_q]
    rfl
  have h9 := kk H1 locs arr (by rw [List.length_append]; omega) (by rw [wc_SL_push]; omega) (by rw [List.length_append]; show w.length + 1 + rc = _; omega) (by rw [wc_SL_push]; show wc_SL w + n.toNatClampNeg + rs = _; omega) (wc_pushP hP hsz o1 hx) (wc_pushS hS z1 o1) hL
  have c1 : (w ++ [cQ 2 n.toNatClampNeg (fun _ => none)]).length - n0 = w.length - n0 + 1 := by rw [List.length_append]; show w.length + 1 - n0 = _; omega
  have c2 : wc_SL (w ++ [cQ 2 n.toNatClampNeg (fun _ => none)]) - s0 = wc_SL w - s0 + n.toNatClampNeg := by rw [wc_SL_push]; show wc_SL w + n.toNatClampNeg - s0 = _; omega
  rw [c1, c2] at h9
  rw [hsz]
  exact h9
theorem ww_newq3 (K : wc_C p s m args meth c G own cc nL n0) {idx : Nat} {n : Int32} {N : Nat} (hd : decode cc pc = .ok (.anewarray idx, 3)) (hw : Cond.classLink own idx RX3 ∈ wc_B) (hn : ¬ n < 0) (hN : n.toNatClampNeg = N) (hb : N ≤ 100000) (kk : WW p l e R s m args below meth c Q G nL n0 s0 rc rs (pc + 3) (ls) (eR w.length :: st) (w ++ [cQ 3 N (fun _ => none)])) : WW p l e R s m args below meth c Q G nL n0 s0 (rc + 1) (rs + N) (pc) (ls) (eI n :: st) (w) := by
  intro H locs arr h1 h2 h3 h4 hP hS hL
  intro T hT X
  subst hN
  have hsz := wc_size K h1 hP hS hT X
  refine W.anew (g := F0 m pc arr ((eI n :: st).map (wc_v G))) (Q := Q) K.1 K.2.1 K.2.2.2.1 (K.2.2.2.2.1 _ hw) (va_AO.use K.2.2.2.2.2.1.2.2.2.2.2.2.1) rfl hd rfl hn (by omega) (by omega) (by omega) (fun cA kA comp f1 f2 f3 f4 => ?_) T hT X
  have hcA : cA = gY G 3 := by
    have h8 : va_RA s (gY G 3) (.object RX3) := (K.2.2.2.2.2.1.1.2 3 _ rfl).2
    obtain ⟨kA', comp', g1, g2, g3, g4⟩ := h8
    exact Option.some.inj (f1.symm.trans g4)
  subst hcA
  generalize hH1 : H.push ({ cls := gY G 3, slots := Array.replicate n.toNatClampNeg .null, vm := .none } : Cell) = H1
  have z1 : H1.size = H.size + 1 := by rw [← hH1, Array.size_push]
  have e1 : H1[gZ G + w.length]? = some (arrV (gY G 3) n.toNatClampNeg (fun _ => .null)) := by rw [← hsz, ← hH1, Array.getElem?_push_size, ← arrV_new]
  have o1 : ∀ q : Nat, q < H.size → H1[q]? = H[q]? := fun q hq => by rw [← hH1, Array.getElem?_push, if_neg (Nat.ne_of_lt hq)]
  have hx : va_at (gD G) vwCl (gZ G + w.length, wc_c G (cQ 3 n.toNatClampNeg (fun _ => none))) H1 := by
    show H1[gZ G + w.length]? = some (vp_cell _ _)
    rw [e1, vp_cell_q]
    rfl
  have h9 := kk H1 locs arr (by rw [List.length_append]; omega) (by rw [wc_SL_push]; omega) (by rw [List.length_append]; show w.length + 1 + rc = _; omega) (by rw [wc_SL_push]; show wc_SL w + n.toNatClampNeg + rs = _; omega) (wc_pushP hP hsz o1 hx) (wc_pushS hS z1 o1) hL
  have c1 : (w ++ [cQ 3 n.toNatClampNeg (fun _ => none)]).length - n0 = w.length - n0 + 1 := by rw [List.length_append]; show w.length + 1 - n0 = _; omega
  have c2 : wc_SL (w ++ [cQ 3 n.toNatClampNeg (fun _ => none)]) - s0 = wc_SL w - s0 + n.toNatClampNeg := by rw [wc_SL_push]; show wc_SL w + n.toNatClampNeg - s0 = _; omega
  rw [c1, c2] at h9
  rw [hsz]
  exact h9
theorem ww_newq4 (K : wc_C p s m args meth c G own cc nL n0) {idx : Nat} {n : Int32} {N : Nat} (hd : decode cc pc = .ok (.anewarray idx, 3)) (hw : Cond.classLink own idx RX5 ∈ wc_B) (hn : ¬ n < 0) (hN : n.toNatClampNeg = N) (hb : N ≤ 100000) (kk : WW p l e R s m args below meth c Q G nL n0 s0 rc rs (pc + 3) (ls) (eR w.length :: st) (w ++ [cQ 4 N (fun _ => none)])) : WW p l e R s m args below meth c Q G nL n0 s0 (rc + 1) (rs + N) (pc) (ls) (eI n :: st) (w) := by
  intro H locs arr h1 h2 h3 h4 hP hS hL
  intro T hT X
  subst hN
  have hsz := wc_size K h1 hP hS hT X
  refine W.anew (g := F0 m pc arr ((eI n :: st).map (wc_v G))) (Q := Q) K.1 K.2.1 K.2.2.2.1 (K.2.2.2.2.1 _ hw) (va_AO.use K.2.2.2.2.2.1.2.2.2.2.2.2.2) rfl hd rfl hn (by omega) (by omega) (by omega) (fun cA kA comp f1 f2 f3 f4 => ?_) T hT X
  have hcA : cA = gY G 4 := by
    have h8 : va_RA s (gY G 4) (.object RX5) := (K.2.2.2.2.2.1.1.2 4 _ rfl).2
    obtain ⟨kA', comp', g1, g2, g3, g4⟩ := h8
    exact Option.some.inj (f1.symm.trans g4)
  subst hcA
  generalize hH1 : H.push ({ cls := gY G 4, slots := Array.replicate n.toNatClampNeg .null, vm := .none } : Cell) = H1
  have z1 : H1.size = H.size + 1 := by rw [← hH1, Array.size_push]
  have e1 : H1[gZ G + w.length]? = some (arrV (gY G 4) n.toNatClampNeg (fun _ => .null)) := by rw [← hsz, ← hH1, Array.getElem?_push_size, ← arrV_new]
  have o1 : ∀ q : Nat, q < H.size → H1[q]? = H[q]? := fun q hq => by rw [← hH1, Array.getElem?_push, if_neg (Nat.ne_of_lt hq)]
  have hx : va_at (gD G) vwCl (gZ G + w.length, wc_c G (cQ 4 n.toNatClampNeg (fun _ => none))) H1 := by
    show H1[gZ G + w.length]? = some (vp_cell _ _)
    rw [e1, vp_cell_q]
    rfl
  have h9 := kk H1 locs arr (by rw [List.length_append]; omega) (by rw [wc_SL_push]; omega) (by rw [List.length_append]; show w.length + 1 + rc = _; omega) (by rw [wc_SL_push]; show wc_SL w + n.toNatClampNeg + rs = _; omega) (wc_pushP hP hsz o1 hx) (wc_pushS hS z1 o1) hL
  have c1 : (w ++ [cQ 4 n.toNatClampNeg (fun _ => none)]).length - n0 = w.length - n0 + 1 := by rw [List.length_append]; show w.length + 1 - n0 = _; omega
  have c2 : wc_SL (w ++ [cQ 4 n.toNatClampNeg (fun _ => none)]) - s0 = wc_SL w - s0 + n.toNatClampNeg := by rw [wc_SL_push]; show wc_SL w + n.toNatClampNeg - s0 = _; omega
  rw [c1, c2] at h9
  rw [hsz]
  exact h9
theorem ww_objInit (K : wc_C p s m args meth c G own cc nL n0) {idx k : Nat} (hd : decode cc pc = .ok (.invokespecial idx, 3)) (hw : ∀ w ∈ [Cond.methodLink own idx objectInit, .instanceMethod objectInit, .code objectInit ⟨#[0xb1]⟩ 1 none], w ∈ wc_B) (hR : 1 ≤ R.frames ∧ wc_rest st + 12 ≤ R.locals) (kk : WW p l e R s m args below meth c Q G nL n0 s0 rc rs (pc + 3) (ls) (st) (w)) : WW p l e R s m args below meth c Q G nL n0 s0 rc rs (pc) (ls) (eR k :: st) (w) := fun H locs arr h1 h2 h3 h4 hP hS hL =>
  W.objInit K.1 K.2.1 K.2.2.2.1 (K.2.2.2.2.1 _ (hw _ (by simp))) (K.2.2.2.2.1 _ (hw _ (by simp))) (K.2.2.2.2.1 _ (hw _ (by simp))) rfl (hL.1.trans K.2.2.1.symm) rfl hd hR.1 (by show 2 * 0 + _ + 12 ≤ _; rw [wc_rest_ok]; omega) (kk H locs arr h1 h2 h3 h4 hP hS hL)
theorem ww_mmin (K : wc_C p s m args meth c G own cc nL n0) {idx : Nat} {x y : Int32} (hd : decode cc pc = .ok (.invokestatic idx, 3)) (hw : ∀ w ∈ [Cond.methodLink own idx Lib.Math.min.name, .static Lib.Math.min.name, .initialized "java/lang/Math", .code Lib.Math.min.name Lib.Math.min.code 2 (some .int)], w ∈ wc_B) (hR : 1 ≤ R.frames ∧ wc_rest st + 13 ≤ R.locals) (kk : WW p l e R s m args below meth c Q G nL n0 s0 rc rs (pc + 3) (ls) (eI (if y < x then y else x) :: st) (w)) : WW p l e R s m args below meth c Q G nL n0 s0 rc rs (pc) (ls) (eI y :: eI x :: st) (w) := fun H locs arr h1 h2 h3 h4 hP hS hL =>
  va_mmin K.1 K.2.1 (K.2.2.1.trans hL.1.symm) K.2.2.2.1 (K.2.2.2.2.1 _ (hw _ (by simp))) (K.2.2.2.2.1 _ (hw _ (by simp))) (K.2.2.2.2.1 _ (hw _ (by simp))) (K.2.2.2.2.1 _ (hw _ (by simp))) hR.1 (by rw [wc_rest_ok]; exact hR.2) (by omega) (by omega) hd (kk H locs arr h1 h2 h3 h4 hP hS hL)
theorem ww_mmax (K : wc_C p s m args meth c G own cc nL n0) {idx : Nat} {x y : Int32} (hd : decode cc pc = .ok (.invokestatic idx, 3)) (hw : ∀ w ∈ [Cond.methodLink own idx Lib.Math.max.name, .static Lib.Math.max.name, .initialized "java/lang/Math", .code Lib.Math.max.name Lib.Math.max.code 2 (some .int)], w ∈ wc_B) (hR : 1 ≤ R.frames ∧ wc_rest st + 13 ≤ R.locals) (kk : WW p l e R s m args below meth c Q G nL n0 s0 rc rs (pc + 3) (ls) (eI (if x < y then y else x) :: st) (w)) : WW p l e R s m args below meth c Q G nL n0 s0 rc rs (pc) (ls) (eI y :: eI x :: st) (w) := fun H locs arr h1 h2 h3 h4 hP hS hL =>
  va_mmax K.1 K.2.1 (K.2.2.1.trans hL.1.symm) K.2.2.2.1 (K.2.2.2.2.1 _ (hw _ (by simp))) (K.2.2.2.2.1 _ (hw _ (by simp))) (K.2.2.2.2.1 _ (hw _ (by simp))) (K.2.2.2.2.1 _ (hw _ (by simp))) hR.1 (by rw [wc_rest_ok]; exact hR.2) (by omega) (by omega) hd (kk H locs arr h1 h2 h3 h4 hP hS hL)
theorem ww_mabs (K : wc_C p s m args meth c G own cc nL n0) {idx : Nat} {x : Int32} (hd : decode cc pc = .ok (.invokestatic idx, 3)) (hw : ∀ w ∈ [Cond.methodLink own idx Lib.Math.abs.name, .static Lib.Math.abs.name, .initialized "java/lang/Math", .code Lib.Math.abs.name Lib.Math.abs.code 1 (some .int)], w ∈ wc_B) (hR : 1 ≤ R.frames ∧ wc_rest st + 13 ≤ R.locals) (kk : WW p l e R s m args below meth c Q G nL n0 s0 rc rs (pc + 3) (ls) (eI (if 0 ≤ x then x else 0 - x) :: st) (w)) : WW p l e R s m args below meth c Q G nL n0 s0 rc rs (pc) (ls) (eI x :: st) (w) := fun H locs arr h1 h2 h3 h4 hP hS hL =>
  va_mabs K.1 K.2.1 (K.2.2.1.trans hL.1.symm) K.2.2.2.1 (K.2.2.2.2.1 _ (hw _ (by simp))) (K.2.2.2.2.1 _ (hw _ (by simp))) (K.2.2.2.2.1 _ (hw _ (by simp))) (K.2.2.2.2.1 _ (hw _ (by simp))) hR.1 (by rw [wc_rest_ok]; exact hR.2) (by omega) (by omega) hd (kk H locs arr h1 h2 h3 h4 hP hS hL)
theorem ww_copy (K : wc_C p s m args meth c G own cc nL n0) {idx k0 k1 n0' n1 : Nat} {f g : Nat → Int32} {sp dp n : Int32} (hd : decode cc pc = .ok (.invokestatic idx, 3)) (hw : ∀ w ∈ [Cond.methodLink own idx arraycopyName, .native arraycopyName, .static arraycopyName, .initialized "java/lang/System"], w ∈ wc_B) (hk0 : w[k0]? = some (cI 0 n0' f)) (hk1 : w[k1]? = some (cI 0 n1 g)) (g1 : ¬ sp < 0) (g2 : ¬ dp < 0) (g3 : ¬ n < 0) (g4 : sp.toNatClampNeg + n.toNatClampNeg ≤ n0') (g5 : dp.toNatClampNeg + n.toNatClampNeg ≤ n1) (hR : 1 ≤ R.frames ∧ wc_rest st + (nativeFrameWords "java/lang/System" "arraycopy" 5 + 11) ≤ R.locals) (kk : WW p l e R s m args below meth c Q G nL n0 s0 rc rs (pc + 3) (ls) (st) (w.set k1 (cI 0 n1 (va_cpy f g sp.toNatClampNeg dp.toNatClampNeg n.toNatClampNeg)))) : WW p l e R s m args below meth c Q G nL n0 s0 rc rs (pc) (ls) (eI n :: eI dp :: eR k1 :: eI sp :: eR k0 :: st) (w) := fun H locs arr h1 h2 h3 h4 hP hS hL => by
  refine va_copyi K.1 K.2.1 (K.2.2.1.trans hL.1.symm) K.2.2.2.1 (K.2.2.2.2.1 _ (hw _ (by simp))) (K.2.2.2.2.1 _ (hw _ (by simp))) (K.2.2.2.2.1 _ (hw _ (by simp))) (K.2.2.2.2.1 _ (hw _ (by simp))) K.2.2.2.2.2.1.1 hP wc_D hS k0 k1 0 0 (wc_l_get hk0) (wc_l_get hk1) rfl rfl rfl g1 g2 g3 g4 g5 (fun _ _ => rfl) hR.1 (by rw [wc_rest_ok]; exact hR.2) hd (fun H1 locs1 hP1 _ hS1 => ?_)
  have hP2 : va_P (gD G) vwCl (wc_l G (w.set k1 (cI 0 n1 (va_cpy f g sp.toNatClampNeg dp.toNatClampNeg n.toNatClampNeg)))) H1 := by rw [← wc_l_set]; exact hP1
  have e2 := wc_SL_set (d := cI 0 n1 (va_cpy f g sp.toNatClampNeg dp.toNatClampNeg n.toNatClampNeg)) hk1 rfl
  have hk2 := kk H1 locs1 arr (by rw [List.length_set]; exact h1) (by rw [e2]; exact h2) (by rw [List.length_set]; exact h3) (by rw [e2]; exact h4) hP2 hS1 hL
  rw [List.length_set, e2] at hk2
  exact hk2
end WM
end
section
/-- w2 is w but for the cells in S -/
def wc_same (S : List Nat) (w w2 : EW) : Prop := ∀ j : Nat, j ∉ S → w2[j]? = w[j]?
theorem wc_same.rf {S : List Nat} {w : EW} : wc_same S w w := fun _ _ => rfl
theorem wc_same.put {S : List Nat} {w w1 w2 : EW} {k : Nat} (h : wc_same S w w1) (hk : k ∈ S) (hn : ∀ j : Nat, j ≠ k → w2[j]? = w1[j]?) : wc_same S w w2 := fun j hj => (hn j (fun q => hj (q ▸ hk))).trans (h j hj)
theorem wc_same.call {S T : List Nat} {w w1 w2 : EW} (h : wc_same S w w1) (h2 : wc_same T w1 w2) (hT : ∀ j ∈ T, j ∈ S) : wc_same S w w2 := fun j hj => (h2 j (fun q => hj (hT j q))).trans (h j hj)
theorem wc_same.keep {S : List Nat} {w w2 : EW} {j : Nat} {cx : EC} (h : wc_same S w w2) (hw : w[j]? = some cx) (hj : j ∉ S) : w2[j]? = some cx := (h j hj).trans hw
theorem wc_set_at {w : EW} {k : Nat} {cx d : EC} (h : w[k]? = some cx) : (w.set k d)[k]? = some d := by
  rw [List.getElem?_set_self (List.getElem?_eq_some_iff.mp h).1]
theorem wc_set_ne {w : EW} {k : Nat} {d : EC} : ∀ j : Nat, j ≠ k → (w.set k d)[j]? = w[j]? := fun j hj => List.getElem?_set_ne (fun q => hj q.symm)
section WF
variable {p : Program} {l : Launch} {e : Env} {R : Room} {s : State} {m : MethodId} {args : Array Value} {below : List Frame} {meth : Method} {c : Code} {Q : State → Prop} {G : EG} {own : String} {cc : ByteArray} {nL n0 s0 rc rs pc : Nat} {ls : List (Option EV)} {st : List EV} {w : EW}
theorem ww_cS (K : wc_C p s m args meth c G own cc nL n0) {y : MethodName} {b : ByteArray} {nL2 d idx : Nat} {ret : Option FieldType} {as : List EV} {st0 : List EV} {v : EV} {w2 : EW} (hd : decode cc pc = .ok (.invokestatic idx, 3)) (hw : wk_S own idx y b nL2 ret as.length) (hC : Ct G l y b nL2 ret d 0 0 as w (fun r w3 => r = (some v) ∧ w3 = w2)) (hst0 : st0 = as.reverse ++ st) (hR : d + 1 ≤ R.frames ∧ 8 + (nL2 + 11) + 40 * d ≤ R.locals) (hrest : wc_rest st ≤ 8) (kk : WW p l e R s m args below meth c Q G nL n0 s0 rc rs (pc + 3) (ls) (v :: st) (w2)) : WW p l e R s m args below meth c Q G nL n0 s0 rc rs (pc) (ls) (st0) (w) :=
  ww_callS K hd hw hC hst0 hR hrest (fun r w3 hq _ _ => by obtain ⟨rfl, rfl⟩ := hq; exact kk)
theorem ww_xS (K : wc_C p s m args meth c G own cc nL n0) {y : MethodName} {b : ByteArray} {nL2 d idx : Nat} {ret : Option FieldType} {as : List EV} {st0 : List EV} {Pq : Int32 → EW → Prop} (hd : decode cc pc = .ok (.invokestatic idx, 3)) (hw : wk_S own idx y b nL2 ret as.length) (hC : Ct G l y b nL2 ret d 0 0 as w (fun r w3 => (∃ x : Int32, r = some (eI x) ∧ Pq x w3))) (hst0 : st0 = as.reverse ++ st) (hR : d + 1 ≤ R.frames ∧ 8 + (nL2 + 11) + 40 * d ≤ R.locals) (hrest : wc_rest st ≤ 8) (kk : ∀ (x : Int32) (w2 : EW), Pq x w2 → w2.length = w.length → WW p l e R s m args below meth c Q G nL n0 s0 rc rs (pc + 3) (ls) (eI x :: st) (w2)) : WW p l e R s m args below meth c Q G nL n0 s0 rc rs (pc) (ls) (st0) (w) :=
  ww_callS K hd hw hC hst0 hR hrest (fun r w3 hq hl _ => by obtain ⟨x, rfl, hq⟩ := hq; exact kk x w3 hq hl)
theorem ww_cSv (K : wc_C p s m args meth c G own cc nL n0) {y : MethodName} {b : ByteArray} {nL2 d idx : Nat} {ret : Option FieldType} {as : List EV} {st0 : List EV} {v : EV} {w2 : EW} (hd : decode cc pc = .ok (.invokestatic idx, 3)) (hw : wk_S own idx y b nL2 ret as.length) (hC : Ct G l y b nL2 ret d 0 0 as w (fun r w3 => r = none ∧ w3 = w2)) (hst0 : st0 = as.reverse ++ st) (hR : d + 1 ≤ R.frames ∧ 8 + (nL2 + 11) + 40 * d ≤ R.locals) (hrest : wc_rest st ≤ 8) (kk : WW p l e R s m args below meth c Q G nL n0 s0 rc rs (pc + 3) (ls) (st) (w2)) : WW p l e R s m args below meth c Q G nL n0 s0 rc rs (pc) (ls) (st0) (w) :=
  ww_callS K hd hw hC hst0 hR hrest (fun r w3 hq _ _ => by obtain ⟨rfl, rfl⟩ := hq; exact kk)
theorem ww_xSv (K : wc_C p s m args meth c G own cc nL n0) {y : MethodName} {b : ByteArray} {nL2 d idx : Nat} {ret : Option FieldType} {as : List EV} {st0 : List EV} {Pq : EW → Prop} (hd : decode cc pc = .ok (.invokestatic idx, 3)) (hw : wk_S own idx y b nL2 ret as.length) (hC : Ct G l y b nL2 ret d 0 0 as w (fun r w3 => (r = none ∧ Pq w3))) (hst0 : st0 = as.reverse ++ st) (hR : d + 1 ≤ R.frames ∧ 8 + (nL2 + 11) + 40 * d ≤ R.locals) (hrest : wc_rest st ≤ 8) (kk : ∀ w2 : EW, Pq w2 → w2.length = w.length → WW p l e R s m args below meth c Q G nL n0 s0 rc rs (pc + 3) (ls) (st) (w2)) : WW p l e R s m args below meth c Q G nL n0 s0 rc rs (pc) (ls) (st0) (w) :=
  ww_callS K hd hw hC hst0 hR hrest (fun r w3 hq hl _ => by obtain ⟨rfl, hq⟩ := hq; exact kk w3 hq hl)
theorem ww_cSN (K : wc_C p s m args meth c G own cc nL n0) {y : MethodName} {b : ByteArray} {nL2 d idx : Nat} {ret : Option FieldType} {as : List EV} {st0 : List EV} {host : String} {v : EV} {w2 : EW} (hd : decode cc pc = .ok (.invokestatic idx, 3)) (hw : wk_SN own idx y host b nL2 ret as.length) (hC : Ct G l y b nL2 ret d 0 0 as w (fun r w3 => r = (some v) ∧ w3 = w2)) (hst0 : st0 = as.reverse ++ st) (hR : d + 1 ≤ R.frames ∧ 8 + (nL2 + 11) + 40 * d ≤ R.locals) (hrest : wc_rest st ≤ 8) (kk : WW p l e R s m args below meth c Q G nL n0 s0 rc rs (pc + 3) (ls) (v :: st) (w2)) : WW p l e R s m args below meth c Q G nL n0 s0 rc rs (pc) (ls) (st0) (w) :=
  ww_callSN K hd hw hC hst0 hR hrest (fun r w3 hq _ _ => by obtain ⟨rfl, rfl⟩ := hq; exact kk)
theorem ww_xSN (K : wc_C p s m args meth c G own cc nL n0) {y : MethodName} {b : ByteArray} {nL2 d idx : Nat} {ret : Option FieldType} {as : List EV} {st0 : List EV} {host : String} {Pq : Int32 → EW → Prop} (hd : decode cc pc = .ok (.invokestatic idx, 3)) (hw : wk_SN own idx y host b nL2 ret as.length) (hC : Ct G l y b nL2 ret d 0 0 as w (fun r w3 => (∃ x : Int32, r = some (eI x) ∧ Pq x w3))) (hst0 : st0 = as.reverse ++ st) (hR : d + 1 ≤ R.frames ∧ 8 + (nL2 + 11) + 40 * d ≤ R.locals) (hrest : wc_rest st ≤ 8) (kk : ∀ (x : Int32) (w2 : EW), Pq x w2 → w2.length = w.length → WW p l e R s m args below meth c Q G nL n0 s0 rc rs (pc + 3) (ls) (eI x :: st) (w2)) : WW p l e R s m args below meth c Q G nL n0 s0 rc rs (pc) (ls) (st0) (w) :=
  ww_callSN K hd hw hC hst0 hR hrest (fun r w3 hq hl _ => by obtain ⟨x, rfl, hq⟩ := hq; exact kk x w3 hq hl)
theorem ww_cSNv (K : wc_C p s m args meth c G own cc nL n0) {y : MethodName} {b : ByteArray} {nL2 d idx : Nat} {ret : Option FieldType} {as : List EV} {st0 : List EV} {host : String} {v : EV} {w2 : EW} (hd : decode cc pc = .ok (.invokestatic idx, 3)) (hw : wk_SN own idx y host b nL2 ret as.length) (hC : Ct G l y b nL2 ret d 0 0 as w (fun r w3 => r = none ∧ w3 = w2)) (hst0 : st0 = as.reverse ++ st) (hR : d + 1 ≤ R.frames ∧ 8 + (nL2 + 11) + 40 * d ≤ R.locals) (hrest : wc_rest st ≤ 8) (kk : WW p l e R s m args below meth c Q G nL n0 s0 rc rs (pc + 3) (ls) (st) (w2)) : WW p l e R s m args below meth c Q G nL n0 s0 rc rs (pc) (ls) (st0) (w) :=
  ww_callSN K hd hw hC hst0 hR hrest (fun r w3 hq _ _ => by obtain ⟨rfl, rfl⟩ := hq; exact kk)
theorem ww_xSNv (K : wc_C p s m args meth c G own cc nL n0) {y : MethodName} {b : ByteArray} {nL2 d idx : Nat} {ret : Option FieldType} {as : List EV} {st0 : List EV} {host : String} {Pq : EW → Prop} (hd : decode cc pc = .ok (.invokestatic idx, 3)) (hw : wk_SN own idx y host b nL2 ret as.length) (hC : Ct G l y b nL2 ret d 0 0 as w (fun r w3 => (r = none ∧ Pq w3))) (hst0 : st0 = as.reverse ++ st) (hR : d + 1 ≤ R.frames ∧ 8 + (nL2 + 11) + 40 * d ≤ R.locals) (hrest : wc_rest st ≤ 8) (kk : ∀ w2 : EW, Pq w2 → w2.length = w.length → WW p l e R s m args below meth c Q G nL n0 s0 rc rs (pc + 3) (ls) (st) (w2)) : WW p l e R s m args below meth c Q G nL n0 s0 rc rs (pc) (ls) (st0) (w) :=
  ww_callSN K hd hw hC hst0 hR hrest (fun r w3 hq hl _ => by obtain ⟨rfl, hq⟩ := hq; exact kk w3 hq hl)
theorem ww_cV (K : wc_C p s m args meth c G own cc nL n0) {y : MethodName} {b : ByteArray} {nL2 d idx : Nat} {ret : Option FieldType} {as : List EV} {st0 : List EV} {k ci : Nat} {fs : List EV} {v : EV} {w2 : EW} (hd : decode cc pc = .ok (.invokevirtual idx, 3)) (hw : wk_V own idx y b nL2 ret as.length) (hk : w[k]? = some (cO ci fs)) (hci : ∃ q, vwCl[ci]? = some q ∧ q.1 = y.cls) (hC : Ct G l y b nL2 ret d 0 0 (eR k :: as) w (fun r w3 => r = (some v) ∧ w3 = w2)) (hst0 : st0 = as.reverse ++ eR k :: st) (hR : d + 1 ≤ R.frames ∧ 8 + (nL2 + 11) + 40 * d ≤ R.locals) (hrest : wc_rest st ≤ 8) (kk : WW p l e R s m args below meth c Q G nL n0 s0 rc rs (pc + 3) (ls) (v :: st) (w2)) : WW p l e R s m args below meth c Q G nL n0 s0 rc rs (pc) (ls) (st0) (w) :=
  ww_callV K hd hw hk hci hC hst0 hR hrest (fun r w3 hq _ _ => by obtain ⟨rfl, rfl⟩ := hq; exact kk)
theorem ww_xV (K : wc_C p s m args meth c G own cc nL n0) {y : MethodName} {b : ByteArray} {nL2 d idx : Nat} {ret : Option FieldType} {as : List EV} {st0 : List EV} {k ci : Nat} {fs : List EV} {Pq : Int32 → EW → Prop} (hd : decode cc pc = .ok (.invokevirtual idx, 3)) (hw : wk_V own idx y b nL2 ret as.length) (hk : w[k]? = some (cO ci fs)) (hci : ∃ q, vwCl[ci]? = some q ∧ q.1 = y.cls) (hC : Ct G l y b nL2 ret d 0 0 (eR k :: as) w (fun r w3 => (∃ x : Int32, r = some (eI x) ∧ Pq x w3))) (hst0 : st0 = as.reverse ++ eR k :: st) (hR : d + 1 ≤ R.frames ∧ 8 + (nL2 + 11) + 40 * d ≤ R.locals) (hrest : wc_rest st ≤ 8) (kk : ∀ (x : Int32) (w2 : EW), Pq x w2 → w2.length = w.length → WW p l e R s m args below meth c Q G nL n0 s0 rc rs (pc + 3) (ls) (eI x :: st) (w2)) : WW p l e R s m args below meth c Q G nL n0 s0 rc rs (pc) (ls) (st0) (w) :=
  ww_callV K hd hw hk hci hC hst0 hR hrest (fun r w3 hq hl _ => by obtain ⟨x, rfl, hq⟩ := hq; exact kk x w3 hq hl)
theorem ww_cVv (K : wc_C p s m args meth c G own cc nL n0) {y : MethodName} {b : ByteArray} {nL2 d idx : Nat} {ret : Option FieldType} {as : List EV} {st0 : List EV} {k ci : Nat} {fs : List EV} {v : EV} {w2 : EW} (hd : decode cc pc = .ok (.invokevirtual idx, 3)) (hw : wk_V own idx y b nL2 ret as.length) (hk : w[k]? = some (cO ci fs)) (hci : ∃ q, vwCl[ci]? = some q ∧ q.1 = y.cls) (hC : Ct G l y b nL2 ret d 0 0 (eR k :: as) w (fun r w3 => r = none ∧ w3 = w2)) (hst0 : st0 = as.reverse ++ eR k :: st) (hR : d + 1 ≤ R.frames ∧ 8 + (nL2 + 11) + 40 * d ≤ R.locals) (hrest : wc_rest st ≤ 8) (kk : WW p l e R s m args below meth c Q G nL n0 s0 rc rs (pc + 3) (ls) (st) (w2)) : WW p l e R s m args below meth c Q G nL n0 s0 rc rs (pc) (ls) (st0) (w) :=
  ww_callV K hd hw hk hci hC hst0 hR hrest (fun r w3 hq _ _ => by obtain ⟨rfl, rfl⟩ := hq; exact kk)
theorem ww_xVv (K : wc_C p s m args meth c G own cc nL n0) {y : MethodName} {b : ByteArray} {nL2 d idx : Nat} {ret : Option FieldType} {as : List EV} {st0 : List EV} {k ci : Nat} {fs : List EV} {Pq : EW → Prop} (hd : decode cc pc = .ok (.invokevirtual idx, 3)) (hw : wk_V own idx y b nL2 ret as.length) (hk : w[k]? = some (cO ci fs)) (hci : ∃ q, vwCl[ci]? = some q ∧ q.1 = y.cls) (hC : Ct G l y b nL2 ret d 0 0 (eR k :: as) w (fun r w3 => (r = none ∧ Pq w3))) (hst0 : st0 = as.reverse ++ eR k :: st) (hR : d + 1 ≤ R.frames ∧ 8 + (nL2 + 11) + 40 * d ≤ R.locals) (hrest : wc_rest st ≤ 8) (kk : ∀ w2 : EW, Pq w2 → w2.length = w.length → WW p l e R s m args below meth c Q G nL n0 s0 rc rs (pc + 3) (ls) (st) (w2)) : WW p l e R s m args below meth c Q G nL n0 s0 rc rs (pc) (ls) (st0) (w) :=
  ww_callV K hd hw hk hci hC hst0 hR hrest (fun r w3 hq hl _ => by obtain ⟨rfl, hq⟩ := hq; exact kk w3 hq hl)
theorem ww_putX (K : wc_C p s m args meth c G own cc nL n0) {k ci j idx : Nat} {fs : List EV} {v : EV} {ty : FieldType} (hd : decode cc pc = .ok (.putfield idx, 3)) (hF : wc_fpt own idx ci j false ty) (hk : w[k]? = some (cO ci fs)) (hj : j < fs.length) (hn : narrow ty (wc_v G v) = wc_v G v) (hf : fits ty (wc_v G v) = true) (kk : ∀ w2 : EW, w2.length = w.length → w2[k]? = some (cO ci (fs.set j v)) → (∀ j : Nat, j ≠ k → w2[j]? = w[j]?) → WW p l e R s m args below meth c Q G nL n0 s0 rc rs (pc + 3) (ls) (st) (w2)) : WW p l e R s m args below meth c Q G nL n0 s0 rc rs (pc) (ls) (v :: eR k :: st) (w) :=
  ww_put K hd hF hk hj hn hf (kk _ List.length_set (wc_set_at hk) wc_set_ne)
theorem ww_iastX (K : wc_C p s m args meth c G own cc nL n0) {k n : Nat} {f : Nat → Int32} {i x : Int32} (hd : decode cc pc = .ok (.iastore, 1)) (hk : w[k]? = some (cI 0 n f)) (hin : vp_in i n) (kk : ∀ w2 : EW, w2.length = w.length → w2[k]? = some (cI 0 n (upd f i.toNatClampNeg x)) → (∀ j : Nat, j ≠ k → w2[j]? = w[j]?) → WW p l e R s m args below meth c Q G nL n0 s0 rc rs (pc + 1) (ls) (st) (w2)) : WW p l e R s m args below meth c Q G nL n0 s0 rc rs (pc) (ls) (eI x :: eI i :: eR k :: st) (w) :=
  ww_iast K hd hk hin (kk _ List.length_set (wc_set_at hk) wc_set_ne)
theorem ww_zastX (K : wc_C p s m args meth c G own cc nL n0) {k n : Nat} {f : Nat → Int32} {i x : Int32} (hd : decode cc pc = .ok (.bastore, 1)) (hk : w[k]? = some (cI 1 n f)) (hin : vp_in i n) (kk : ∀ w2 : EW, w2.length = w.length → w2[k]? = some (cI 1 n (upd f i.toNatClampNeg (vp_nar .boolean x))) → (∀ j : Nat, j ≠ k → w2[j]? = w[j]?) → WW p l e R s m args below meth c Q G nL n0 s0 rc rs (pc + 1) (ls) (st) (w2)) : WW p l e R s m args below meth c Q G nL n0 s0 rc rs (pc) (ls) (eI x :: eI i :: eR k :: st) (w) :=
  ww_zast K hd hk hin (kk _ List.length_set (wc_set_at hk) wc_set_ne)
theorem ww_copyX (K : wc_C p s m args meth c G own cc nL n0) {idx k0 k n0' n1 : Nat} {f g : Nat → Int32} {sp dp n : Int32} (hd : decode cc pc = .ok (.invokestatic idx, 3)) (hw : ∀ w ∈ [Cond.methodLink own idx arraycopyName, .native arraycopyName, .static arraycopyName, .initialized "java/lang/System"], w ∈ wc_B) (hk0 : w[k0]? = some (cI 0 n0' f)) (hk : w[k]? = some (cI 0 n1 g)) (g1 : ¬ sp < 0) (g2 : ¬ dp < 0) (g3 : ¬ n < 0) (g4 : sp.toNatClampNeg + n.toNatClampNeg ≤ n0') (g5 : dp.toNatClampNeg + n.toNatClampNeg ≤ n1) (hR : 1 ≤ R.frames ∧ wc_rest st + (nativeFrameWords "java/lang/System" "arraycopy" 5 + 11) ≤ R.locals) (kk : ∀ w2 : EW, w2.length = w.length → w2[k]? = some (cI 0 n1 (va_cpy f g sp.toNatClampNeg dp.toNatClampNeg n.toNatClampNeg)) → (∀ j : Nat, j ≠ k → w2[j]? = w[j]?) → WW p l e R s m args below meth c Q G nL n0 s0 rc rs (pc + 3) (ls) (st) (w2)) : WW p l e R s m args below meth c Q G nL n0 s0 rc rs (pc) (ls) (eI n :: eI dp :: eR k :: eI sp :: eR k0 :: st) (w) :=
  ww_copy K hd hw hk0 hk g1 g2 g3 g4 g5 hR (kk _ List.length_set (wc_set_at hk) wc_set_ne)
theorem wc_aget {w0 L : EW} {j : Nat} {cx : EC} (h : L[j]? = some cx) : (w0 ++ L)[w0.length + j]? = some cx := by
  rw [List.getElem?_append_right (Nat.le_add_right _ _), Nat.add_sub_cancel_left]; exact h
theorem wc_aset {w0 L : EW} {j : Nat} {cx : EC} : (w0 ++ L).set (w0.length + j) cx = w0 ++ L.set j cx := by
  rw [List.set_append_right _ _ (Nat.le_add_right _ _), Nat.add_sub_cancel_left]
theorem ww_getA (K : wc_C p s m args meth c G own cc nL n0) {w0 L : EW} {o ci j idx : Nat} {fs : List EV} {v : EV} (hd : decode cc pc = .ok (.getfield idx, 3)) (hF : wc_fld own idx ci j) (hk : L[o]? = some (cO ci fs)) (hv : fs[j]? = some v) (kk : WW p l e R s m args below meth c Q G nL n0 s0 rc rs (pc + 3) (ls) (v :: st) (w0 ++ L)) : WW p l e R s m args below meth c Q G nL n0 s0 rc rs (pc) (ls) (eR (w0.length + o) :: st) (w0 ++ L) := ww_get K hd hF (wc_aget hk) hv kk
theorem ww_putA (K : wc_C p s m args meth c G own cc nL n0) {w0 L L2 : EW} {o ci j idx : Nat} {fs : List EV} {v : EV} {ty : FieldType} (hd : decode cc pc = .ok (.putfield idx, 3)) (hF : wc_fpt own idx ci j false ty) (hk : L[o]? = some (cO ci fs)) (hj : j < fs.length) (hn : narrow ty (wc_v G v) = wc_v G v) (hf : fits ty (wc_v G v) = true) (hL : L.set o (cO ci (fs.set j v)) = L2) (kk : WW p l e R s m args below meth c Q G nL n0 s0 rc rs (pc + 3) (ls) (st) (w0 ++ L2)) : WW p l e R s m args below meth c Q G nL n0 s0 rc rs (pc) (ls) (v :: eR (w0.length + o) :: st) (w0 ++ L) := ww_put K hd hF (wc_aget hk) hj hn hf (by rw [wc_aset, hL]; exact kk)
theorem ww_putFA (K : wc_C p s m args meth c G own cc nL n0) {w0 L L2 : EW} {o ci j idx : Nat} {fs : List EV} {v : EV} {ty : FieldType} (hin : meth.name = "<init>") (hd : decode cc pc = .ok (.putfield idx, 3)) (hF : wc_fpt own idx ci j true ty) (hC : ∀ q, vwCl[ci]? = some q → q.1 = own) (hk : L[o]? = some (cO ci fs)) (hj : j < fs.length) (hn : narrow ty (wc_v G v) = wc_v G v) (hf : fits ty (wc_v G v) = true) (hL : L.set o (cO ci (fs.set j v)) = L2) (kk : WW p l e R s m args below meth c Q G nL n0 s0 rc rs (pc + 3) (ls) (st) (w0 ++ L2)) : WW p l e R s m args below meth c Q G nL n0 s0 rc rs (pc) (ls) (v :: eR (w0.length + o) :: st) (w0 ++ L) := ww_putF K hin hd hF hC (wc_aget hk) hj hn hf (by rw [wc_aset, hL]; exact kk)
theorem ww_newA (K : wc_C p s m args meth c G own cc nL n0) {w0 L L2 : EW} {o idx ci : Nat} {fs : List EV} (hd : decode cc pc = .ok (.new idx, 3)) (hN : wk_N own idx ci fs) (ho : L.length = o) (hL : L ++ [cO ci fs] = L2) (kk : WW p l e R s m args below meth c Q G nL n0 s0 rc rs (pc + 3) (ls) (eR (w0.length + o) :: st) (w0 ++ L2)) : WW p l e R s m args below meth c Q G nL n0 s0 (rc + 1) (rs + fs.length) (pc) (ls) (st) (w0 ++ L) := by
  refine ww_new K hd hN ?_
  rw [List.length_append, ho, List.append_assoc, hL]
  exact kk
theorem ww_newIA (K : wc_C p s m args meth c G own cc nL n0) {w0 L L2 : EW} {o : Nat} {n : Int32} {N : Nat} (hd : decode cc pc = .ok (.newarray .int, 2)) (hw : Cond.arrayClass .int ∈ wc_B) (hn : ¬ n < 0) (hN : n.toNatClampNeg = N) (hb : N ≤ 100000) (ho : L.length = o) (hL : L ++ [cI 0 N (fun _ => 0)] = L2) (kk : WW p l e R s m args below meth c Q G nL n0 s0 rc rs (pc + 2) (ls) (eR (w0.length + o) :: st) (w0 ++ L2)) : WW p l e R s m args below meth c Q G nL n0 s0 (rc + 1) (rs + N) (pc) (ls) (eI n :: st) (w0 ++ L) := by
  refine ww_newI K hd hw hn hN hb ?_
  rw [List.length_append, ho, List.append_assoc, hL]
  exact kk
theorem ww_newZA (K : wc_C p s m args meth c G own cc nL n0) {w0 L L2 : EW} {o : Nat} {n : Int32} {N : Nat} (hd : decode cc pc = .ok (.newarray .boolean, 2)) (hw : Cond.arrayClass .boolean ∈ wc_B) (hn : ¬ n < 0) (hN : n.toNatClampNeg = N) (hb : N ≤ 100000) (ho : L.length = o) (hL : L ++ [cI 1 N (fun _ => 0)] = L2) (kk : WW p l e R s m args below meth c Q G nL n0 s0 rc rs (pc + 2) (ls) (eR (w0.length + o) :: st) (w0 ++ L2)) : WW p l e R s m args below meth c Q G nL n0 s0 (rc + 1) (rs + N) (pc) (ls) (eI n :: st) (w0 ++ L) := by
  refine ww_newZ K hd hw hn hN hb ?_
  rw [List.length_append, ho, List.append_assoc, hL]
  exact kk
theorem ww_newq2A (K : wc_C p s m args meth c G own cc nL n0) {w0 L L2 : EW} {o idx : Nat} {n : Int32} {N : Nat} (hd : decode cc pc = .ok (.anewarray idx, 3)) (hw : Cond.classLink own idx RX2 ∈ wc_B) (hn : ¬ n < 0) (hN : n.toNatClampNeg = N) (hb : N ≤ 100000) (ho : L.length = o) (hL : L ++ [cQ 2 N (fun _ => none)] = L2) (kk : WW p l e R s m args below meth c Q G nL n0 s0 rc rs (pc + 3) (ls) (eR (w0.length + o) :: st) (w0 ++ L2)) : WW p l e R s m args below meth c Q G nL n0 s0 (rc + 1) (rs + N) (pc) (ls) (eI n :: st) (w0 ++ L) := by
  refine ww_newq2 K hd hw hn hN hb ?_
  rw [List.length_append, ho, List.append_assoc, hL]
  exact kk
theorem ww_aast2A (K : wc_C p s m args meth c G own cc nL n0) {w0 L L2 : EW} {o v n : Nat} {f : Nat → Option Nat} {i : Int32} {vs : List EV} (hd : decode cc pc = .ok (.aastore, 1)) (hk : L[o]? = some (cQ 2 n f)) (hv : L[v]? = some (cO 2 vs)) (hin : vp_in i n) (hL : L.set o (cQ 2 n (va_up f i.toNatClampNeg (some (w0.length + v)))) = L2) (kk : WW p l e R s m args below meth c Q G nL n0 s0 rc rs (pc + 1) (ls) (st) (w0 ++ L2)) : WW p l e R s m args below meth c Q G nL n0 s0 rc rs (pc) (ls) (eR (w0.length + v) :: eI i :: eR (w0.length + o) :: st) (w0 ++ L) := ww_aast2 K hd (wc_aget hk) (wc_aget hv) hin (by rw [wc_aset, hL]; exact kk)
theorem ww_alenq2A (K : wc_C p s m args meth c G own cc nL n0) {w0 L : EW} {o n : Nat} {f : Nat → Option Nat} (hd : decode cc pc = .ok (.arraylength, 1)) (hk : L[o]? = some (cQ 2 n f)) (kk : WW p l e R s m args below meth c Q G nL n0 s0 rc rs (pc + 1) (ls) (eI (Int32.ofNat n) :: st) (w0 ++ L)) : WW p l e R s m args below meth c Q G nL n0 s0 rc rs (pc) (ls) (eR (w0.length + o) :: st) (w0 ++ L) := ww_alenq K hd (wc_aget hk) (by decide) kk
theorem ww_newq3A (K : wc_C p s m args meth c G own cc nL n0) {w0 L L2 : EW} {o idx : Nat} {n : Int32} {N : Nat} (hd : decode cc pc = .ok (.anewarray idx, 3)) (hw : Cond.classLink own idx RX3 ∈ wc_B) (hn : ¬ n < 0) (hN : n.toNatClampNeg = N) (hb : N ≤ 100000) (ho : L.length = o) (hL : L ++ [cQ 3 N (fun _ => none)] = L2) (kk : WW p l e R s m args below meth c Q G nL n0 s0 rc rs (pc + 3) (ls) (eR (w0.length + o) :: st) (w0 ++ L2)) : WW p l e R s m args below meth c Q G nL n0 s0 (rc + 1) (rs + N) (pc) (ls) (eI n :: st) (w0 ++ L) := by
  refine ww_newq3 K hd hw hn hN hb ?_
  rw [List.length_append, ho, List.append_assoc, hL]
  exact kk
theorem ww_aast3A (K : wc_C p s m args meth c G own cc nL n0) {w0 L L2 : EW} {o v n : Nat} {f : Nat → Option Nat} {i : Int32} {vs : List EV} (hd : decode cc pc = .ok (.aastore, 1)) (hk : L[o]? = some (cQ 3 n f)) (hv : L[v]? = some (cO 3 vs)) (hin : vp_in i n) (hL : L.set o (cQ 3 n (va_up f i.toNatClampNeg (some (w0.length + v)))) = L2) (kk : WW p l e R s m args below meth c Q G nL n0 s0 rc rs (pc + 1) (ls) (st) (w0 ++ L2)) : WW p l e R s m args below meth c Q G nL n0 s0 rc rs (pc) (ls) (eR (w0.length + v) :: eI i :: eR (w0.length + o) :: st) (w0 ++ L) := ww_aast3 K hd (wc_aget hk) (wc_aget hv) hin (by rw [wc_aset, hL]; exact kk)
theorem ww_alenq3A (K : wc_C p s m args meth c G own cc nL n0) {w0 L : EW} {o n : Nat} {f : Nat → Option Nat} (hd : decode cc pc = .ok (.arraylength, 1)) (hk : L[o]? = some (cQ 3 n f)) (kk : WW p l e R s m args below meth c Q G nL n0 s0 rc rs (pc + 1) (ls) (eI (Int32.ofNat n) :: st) (w0 ++ L)) : WW p l e R s m args below meth c Q G nL n0 s0 rc rs (pc) (ls) (eR (w0.length + o) :: st) (w0 ++ L) := ww_alenq K hd (wc_aget hk) (by decide) kk
theorem ww_newq4A (K : wc_C p s m args meth c G own cc nL n0) {w0 L L2 : EW} {o idx : Nat} {n : Int32} {N : Nat} (hd : decode cc pc = .ok (.anewarray idx, 3)) (hw : Cond.classLink own idx RX5 ∈ wc_B) (hn : ¬ n < 0) (hN : n.toNatClampNeg = N) (hb : N ≤ 100000) (ho : L.length = o) (hL : L ++ [cQ 4 N (fun _ => none)] = L2) (kk : WW p l e R s m args below meth c Q G nL n0 s0 rc rs (pc + 3) (ls) (eR (w0.length + o) :: st) (w0 ++ L2)) : WW p l e R s m args below meth c Q G nL n0 s0 (rc + 1) (rs + N) (pc) (ls) (eI n :: st) (w0 ++ L) := by
  refine ww_newq4 K hd hw hn hN hb ?_
  rw [List.length_append, ho, List.append_assoc, hL]
  exact kk
theorem ww_aast4A (K : wc_C p s m args meth c G own cc nL n0) {w0 L L2 : EW} {o v n : Nat} {f : Nat → Option Nat} {i : Int32} {vs : List EV} (hd : decode cc pc = .ok (.aastore, 1)) (hk : L[o]? = some (cQ 4 n f)) (hv : L[v]? = some (cO 5 vs)) (hin : vp_in i n) (hL : L.set o (cQ 4 n (va_up f i.toNatClampNeg (some (w0.length + v)))) = L2) (kk : WW p l e R s m args below meth c Q G nL n0 s0 rc rs (pc + 1) (ls) (st) (w0 ++ L2)) : WW p l e R s m args below meth c Q G nL n0 s0 rc rs (pc) (ls) (eR (w0.length + v) :: eI i :: eR (w0.length + o) :: st) (w0 ++ L) := ww_aast4 K hd (wc_aget hk) (wc_aget hv) hin (by rw [wc_aset, hL]; exact kk)
theorem ww_alenq4A (K : wc_C p s m args meth c G own cc nL n0) {w0 L : EW} {o n : Nat} {f : Nat → Option Nat} (hd : decode cc pc = .ok (.arraylength, 1)) (hk : L[o]? = some (cQ 4 n f)) (kk : WW p l e R s m args below meth c Q G nL n0 s0 rc rs (pc + 1) (ls) (eI (Int32.ofNat n) :: st) (w0 ++ L)) : WW p l e R s m args below meth c Q G nL n0 s0 rc rs (pc) (ls) (eR (w0.length + o) :: st) (w0 ++ L) := ww_alenq K hd (wc_aget hk) (by decide) kk
end WF
end
