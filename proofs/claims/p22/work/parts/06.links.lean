theorem hzd_0 : (parseMethodDescriptor "([BI)C").map (fun d => d.parameters.length) = some 2 := by decide +kernel
theorem hzc_0 : ("java/lang/StringLatin1" : String) ≠ "java/lang/invoke/MethodHandle" := by decide +kernel
theorem hzv_0 : ("java/lang/StringLatin1" : String) ≠ "java/lang/invoke/VarHandle" := by decide +kernel
theorem hzc_1 : ("java/lang/StringUTF16" : String) ≠ "java/lang/invoke/MethodHandle" := by decide +kernel
theorem hzv_1 : ("java/lang/StringUTF16" : String) ≠ "java/lang/invoke/VarHandle" := by decide +kernel
theorem hzd_1 : (parseMethodDescriptor "(IILjava/util/function/BiFunction;)I").map (fun d => d.parameters.length) = some 3 := by decide +kernel
theorem hzc_2 : ("jdk/internal/util/Preconditions" : String) ≠ "java/lang/invoke/MethodHandle" := by decide +kernel
theorem hzv_2 : ("jdk/internal/util/Preconditions" : String) ≠ "java/lang/invoke/VarHandle" := by decide +kernel
theorem hzd_2 : (parseMethodDescriptor "()B").map (fun d => d.parameters.length) = some 0 := by decide +kernel
theorem hzc_3 : ("java/lang/String" : String) ≠ "java/lang/invoke/MethodHandle" := by decide +kernel
theorem hzv_3 : ("java/lang/String" : String) ≠ "java/lang/invoke/VarHandle" := by decide +kernel
theorem hzd_3 : (parseMethodDescriptor "()Z").map (fun d => d.parameters.length) = some 0 := by decide +kernel
theorem hzd_4 : (parseMethodDescriptor "(II)V").map (fun d => d.parameters.length) = some 2 := by decide +kernel
theorem hzd_5 : (parseMethodDescriptor "()V").map (fun d => d.parameters.length) = some 0 := by decide +kernel
theorem hzc_4 : ("WindCabinet" : String) ≠ "java/lang/invoke/MethodHandle" := by decide +kernel
theorem hzv_4 : ("WindCabinet" : String) ≠ "java/lang/invoke/VarHandle" := by decide +kernel
theorem hzc_5 : ("WindCabinetModel" : String) ≠ "java/lang/invoke/MethodHandle" := by decide +kernel
theorem hzv_5 : ("WindCabinetModel" : String) ≠ "java/lang/invoke/VarHandle" := by decide +kernel
theorem hzd_6 : (parseMethodDescriptor "(IIIII)I").map (fun d => d.parameters.length) = some 5 := by decide +kernel
theorem hzd_7 : (parseMethodDescriptor "(I)I").map (fun d => d.parameters.length) = some 1 := by decide +kernel
theorem hzd_8 : (parseMethodDescriptor "(II)I").map (fun d => d.parameters.length) = some 2 := by decide +kernel
theorem hzd_9 : (parseMethodDescriptor "(III)I").map (fun d => d.parameters.length) = some 3 := by decide +kernel
theorem hzd_10 : (parseMethodDescriptor "(IIIIII)I").map (fun d => d.parameters.length) = some 6 := by decide +kernel
theorem hzd_11 : (parseMethodDescriptor "(IIIIIIZ)I").map (fun d => d.parameters.length) = some 7 := by decide +kernel
theorem hzd_12 : (parseMethodDescriptor "(IIZ)I").map (fun d => d.parameters.length) = some 3 := by decide +kernel
theorem hzd_13 : (parseMethodDescriptor "(IIIIIII)I").map (fun d => d.parameters.length) = some 7 := by decide +kernel
theorem hzd_14 : (parseMethodDescriptor "(IZ)I").map (fun d => d.parameters.length) = some 2 := by decide +kernel
theorem hzd_15 : (parseMethodDescriptor "(IIII)I").map (fun d => d.parameters.length) = some 4 := by decide +kernel
theorem hzd_16 : (parseMethodDescriptor "(I)Z").map (fun d => d.parameters.length) = some 1 := by decide +kernel
theorem hzc_6 : ("WindCabinet$Sky" : String) ≠ "java/lang/invoke/MethodHandle" := by decide +kernel
theorem hzv_6 : ("WindCabinet$Sky" : String) ≠ "java/lang/invoke/VarHandle" := by decide +kernel
theorem hzd_17 : (parseMethodDescriptor "([II)V").map (fun d => d.parameters.length) = some 2 := by decide +kernel
theorem hzc_7 : ("java/util/Arrays" : String) ≠ "java/lang/invoke/MethodHandle" := by decide +kernel
theorem hzv_7 : ("java/util/Arrays" : String) ≠ "java/lang/invoke/VarHandle" := by decide +kernel
theorem hzd_18 : (parseMethodDescriptor "([I[I)V").map (fun d => d.parameters.length) = some 2 := by decide +kernel
theorem hzd_19 : (parseMethodDescriptor "(II)Z").map (fun d => d.parameters.length) = some 2 := by decide +kernel
theorem hzd_20 : (parseMethodDescriptor "(LWindCabinet$Rows;III)I").map (fun d => d.parameters.length) = some 4 := by decide +kernel
theorem hzd_21 : (parseMethodDescriptor "([III)V").map (fun d => d.parameters.length) = some 3 := by decide +kernel
theorem hzd_22 : (parseMethodDescriptor "([II)I").map (fun d => d.parameters.length) = some 2 := by decide +kernel
theorem hzc_8 : ("java/lang/Integer" : String) ≠ "java/lang/invoke/MethodHandle" := by decide +kernel
theorem hzv_8 : ("java/lang/Integer" : String) ≠ "java/lang/invoke/VarHandle" := by decide +kernel
theorem hzd_23 : (parseMethodDescriptor "(LWindCabinet$Republic;)V").map (fun d => d.parameters.length) = some 1 := by decide +kernel
theorem hzd_24 : (parseMethodDescriptor "()I").map (fun d => d.parameters.length) = some 0 := by decide +kernel
theorem hzc_9 : ("WindCabinet$Republic" : String) ≠ "java/lang/invoke/MethodHandle" := by decide +kernel
theorem hzv_9 : ("WindCabinet$Republic" : String) ≠ "java/lang/invoke/VarHandle" := by decide +kernel
theorem hzc_10 : ("WindCabinet$Course" : String) ≠ "java/lang/invoke/MethodHandle" := by decide +kernel
theorem hzv_10 : ("WindCabinet$Course" : String) ≠ "java/lang/invoke/VarHandle" := by decide +kernel
theorem hzd_25 : (parseMethodDescriptor "(LWindCabinet$Republic;LWindCabinet$Rows;LWindCabinet$Rows;I)Z").map (fun d => d.parameters.length) = some 4 := by decide +kernel
theorem hzc_11 : ("WindCabinet$Rows" : String) ≠ "java/lang/invoke/MethodHandle" := by decide +kernel
theorem hzv_11 : ("WindCabinet$Rows" : String) ≠ "java/lang/invoke/VarHandle" := by decide +kernel
theorem hzd_26 : (parseMethodDescriptor "(LWindCabinet$Republic;II)V").map (fun d => d.parameters.length) = some 3 := by decide +kernel
theorem hzd_27 : (parseMethodDescriptor "(LWindCabinet$Republic;I)Z").map (fun d => d.parameters.length) = some 2 := by decide +kernel
theorem hzd_28 : (parseMethodDescriptor "(I)V").map (fun d => d.parameters.length) = some 1 := by decide +kernel
theorem hzd_29 : (parseMethodDescriptor "(LWindCabinet$Republic;IZ)V").map (fun d => d.parameters.length) = some 3 := by decide +kernel
theorem hzd_30 : (parseMethodDescriptor "(I)Ljava/lang/String;").map (fun d => d.parameters.length) = some 1 := by decide +kernel
theorem hzc_12 : ("WindCabinet$Reader" : String) ≠ "java/lang/invoke/MethodHandle" := by decide +kernel
theorem hzv_12 : ("WindCabinet$Reader" : String) ≠ "java/lang/invoke/VarHandle" := by decide +kernel
theorem hzd_31 : (parseMethodDescriptor "(Ljava/lang/String;I)I").map (fun d => d.parameters.length) = some 2 := by decide +kernel
theorem hzd_32 : (parseMethodDescriptor "(C)Ljava/lang/String;").map (fun d => d.parameters.length) = some 1 := by decide +kernel
theorem hzd_33 : (parseMethodDescriptor "(C)I").map (fun d => d.parameters.length) = some 1 := by decide +kernel
theorem hzd_34 : (parseMethodDescriptor "(Ljava/lang/String;)I").map (fun d => d.parameters.length) = some 1 := by decide +kernel
theorem hzd_35 : (parseMethodDescriptor "(I)C").map (fun d => d.parameters.length) = some 1 := by decide +kernel
theorem hzd_36 : (parseMethodDescriptor "(CI)Z").map (fun d => d.parameters.length) = some 2 := by decide +kernel
theorem hzd_37 : (parseMethodDescriptor "(I[I)V").map (fun d => d.parameters.length) = some 2 := by decide +kernel
theorem hzd_38 : (parseMethodDescriptor "(I[II)V").map (fun d => d.parameters.length) = some 3 := by decide +kernel
theorem hzd_39 : (parseMethodDescriptor "(III)V").map (fun d => d.parameters.length) = some 3 := by decide +kernel
theorem hzd_40 : (parseMethodDescriptor "(Ljava/lang/String;II)Z").map (fun d => d.parameters.length) = some 3 := by decide +kernel
theorem hzd_41 : (parseMethodDescriptor "([I)V").map (fun d => d.parameters.length) = some 1 := by decide +kernel
theorem hzd_42 : (parseMethodDescriptor "(LWindCabinet$Rows;)V").map (fun d => d.parameters.length) = some 1 := by decide +kernel
theorem hzc_13 : ("WindCabinet$Told" : String) ≠ "java/lang/invoke/MethodHandle" := by decide +kernel
theorem hzv_13 : ("WindCabinet$Told" : String) ≠ "java/lang/invoke/VarHandle" := by decide +kernel
theorem hzd_43 : (parseMethodDescriptor "(LWindCabinet$Rows;IIII)Z").map (fun d => d.parameters.length) = some 5 := by decide +kernel
theorem hzd_44 : (parseMethodDescriptor "(LWindCabinet$Republic;I)I").map (fun d => d.parameters.length) = some 2 := by decide +kernel
theorem hzd_45 : (parseMethodDescriptor "(LWindCabinet$Republic;)I").map (fun d => d.parameters.length) = some 1 := by decide +kernel
theorem hzd_46 : (parseMethodDescriptor "(LWindCabinet$Republic;IIII)I").map (fun d => d.parameters.length) = some 5 := by decide +kernel
theorem hzd_47 : (parseMethodDescriptor "(LWindCabinet$Republic;III)Z").map (fun d => d.parameters.length) = some 4 := by decide +kernel
theorem hzd_48 : (parseMethodDescriptor "(LWindCabinet$Republic;IIIZ)I").map (fun d => d.parameters.length) = some 5 := by decide +kernel
theorem hzd_49 : (parseMethodDescriptor "(LWindCabinet$Republic;III)I").map (fun d => d.parameters.length) = some 4 := by decide +kernel
theorem hzd_50 : (parseMethodDescriptor "(LWindCabinet$Republic;LWindCabinet$Rows;Z)I").map (fun d => d.parameters.length) = some 3 := by decide +kernel
theorem hzd_51 : (parseMethodDescriptor "(LWindCabinet$Republic;LWindCabinet$Rows;I)I").map (fun d => d.parameters.length) = some 3 := by decide +kernel
theorem hzd_52 : (parseMethodDescriptor "(LWindCabinet$Republic;LWindCabinet$Rows;I)Z").map (fun d => d.parameters.length) = some 3 := by decide +kernel
theorem hzd_53 : (parseMethodDescriptor "(LWindCabinet$Republic;LWindCabinet$Rows;)Z").map (fun d => d.parameters.length) = some 2 := by decide +kernel
theorem hzd_54 : (parseMethodDescriptor "(LWindCabinet$Republic;LWindCabinet$Rows;IIZ)I").map (fun d => d.parameters.length) = some 5 := by decide +kernel
theorem hzd_55 : (parseMethodDescriptor "(LWindCabinet$Republic;LWindCabinet$Rows;II)I").map (fun d => d.parameters.length) = some 4 := by decide +kernel
theorem hzd_56 : (parseMethodDescriptor "(LWindCabinet$Republic;LWindCabinet$Rows;IIIZ)I").map (fun d => d.parameters.length) = some 6 := by decide +kernel
theorem hzd_57 : (parseMethodDescriptor "(LWindCabinet$Republic;LWindCabinet$Rows;III)I").map (fun d => d.parameters.length) = some 5 := by decide +kernel
theorem hzd_58 : (parseMethodDescriptor "(I)LWindCabinet$Republic;").map (fun d => d.parameters.length) = some 1 := by decide +kernel
theorem hzd_59 : (parseMethodDescriptor "(II)LWindCabinet$Rows;").map (fun d => d.parameters.length) = some 2 := by decide +kernel
theorem hzd_60 : (parseMethodDescriptor "(LWindCabinet$Told;)V").map (fun d => d.parameters.length) = some 1 := by decide +kernel
theorem hzd_61 : (parseMethodDescriptor "(IIII)LWindCabinet$Republic;").map (fun d => d.parameters.length) = some 4 := by decide +kernel
theorem hzd_62 : (parseMethodDescriptor "(LWindCabinet$Republic;LWindCabinet$Rows;LWindCabinet$Rows;I)I").map (fun d => d.parameters.length) = some 4 := by decide +kernel
theorem hzd_63 : (parseMethodDescriptor "(LWindCabinet$Republic;LWindCabinet$Rows;III)Z").map (fun d => d.parameters.length) = some 5 := by decide +kernel
theorem hzd_64 : (parseMethodDescriptor "(LWindCabinet$Republic;LWindCabinet$Rows;)I").map (fun d => d.parameters.length) = some 2 := by decide +kernel
theorem hzd_65 : (parseMethodDescriptor "(LWindCabinet$Republic;II)I").map (fun d => d.parameters.length) = some 3 := by decide +kernel
theorem hzd_66 : (parseMethodDescriptor "(IIII)J").map (fun d => d.parameters.length) = some 4 := by decide +kernel
theorem hzd_67 : (parseMethodDescriptor "(IIIIIIII)J").map (fun d => d.parameters.length) = some 8 := by decide +kernel
theorem hzd_68 : (parseMethodDescriptor "(J)I").map (fun d => d.parameters.length) = some 1 := by decide +kernel
theorem hzd_69 : (parseMethodDescriptor "(III)Z").map (fun d => d.parameters.length) = some 3 := by decide +kernel
theorem hzd_70 : (parseMethodDescriptor "(IIIIII)V").map (fun d => d.parameters.length) = some 6 := by decide +kernel
theorem hzd_71 : (parseMethodDescriptor "(IIIIII)Z").map (fun d => d.parameters.length) = some 6 := by decide +kernel
theorem hzd_72 : (parseMethodDescriptor "(IZ)Z").map (fun d => d.parameters.length) = some 2 := by decide +kernel
theorem lj_J0_9 : Cond.fieldLink RJ0 9 "java/lang/String" "value" "[B" ∈ wc_B := wc_Bm (7, 161) rfl rfl
theorem lj_J0_15 : Cond.fieldLink RJ0 15 "java/lang/String" "coder" "B" ∈ wc_B := wc_Bm (7, 162) rfl rfl
theorem ls_J0_38 : Cond.fieldLink RJ0 38 "java/lang/String" "COMPACT_STRINGS" "Z" ∈ wc_B := wc_Bm (2, 155) rfl rfl
theorem ls_J0_1053 : Cond.fieldLink RJ0 1053 "jdk/internal/util/Preconditions" "SIOOBE_FORMATTER" "Ljava/util/function/BiFunction;" ∈ wc_B := wc_Bm (2, 171) rfl rfl
theorem lc_J0_495 : wk_S RJ0 495 yJ1_charAt_3b067 cJ1_charAt_3b067 2 (some .char) 2 := ⟨wc_Bl [(2, 165), (2, 166), (1, 13), (2, 167)] rfl rfl, hzc_0, hzv_0, hzd_0⟩
theorem lc_J0_498 : wk_S RJ0 498 yJ2_charAt_3b067 cJ2_charAt_3b067 2 (some .char) 2 := ⟨wc_Bl [(2, 176), (2, 177), (1, 15), (2, 178)] rfl rfl, hzc_1, hzv_1, hzd_0⟩
theorem lc_J0_1059 : wk_S RJ0 1059 yJ3_checkIndex_8e157 cJ3_checkIndex_8e157 3 (some .int) 3 := ⟨wc_Bl [(2, 173), (2, 174), (1, 14), (2, 175)] rfl rfl, hzc_2, hzv_2, hzd_1⟩
theorem lc_J0_335 : wk_V RJ0 335 yJ0_coder_7d493 cJ0_coder_7d493 1 (some .byte) 0 := ⟨wc_Bl [(2, 151), (2, 152), (2, 153), (1, 12), (2, 154)] rfl rfl, hzc_3, hzv_3, hzd_2⟩
theorem lc_J0_492 : wk_V RJ0 492 yJ0_isLatin1_aae02 cJ0_isLatin1_aae02 1 (some .boolean) 0 := ⟨wc_Bl [(2, 161), (2, 162), (2, 163), (1, 12), (2, 164)] rfl rfl, hzc_3, hzv_3, hzd_3⟩
theorem lc_J1_9 : wk_S RJ1 9 yJ0_checkIndex_df160 cJ0_checkIndex_df160 2 none 2 := ⟨wc_Bl [(2, 168), (2, 169), (1, 12), (2, 170)] rfl rfl, hzc_3, hzv_3, hzd_4⟩
theorem lk_J6_265 : Cond.constant RJ6 265 1431655765 ∈ wc_B := wc_Bm (4, 83) rfl rfl
theorem lk_J6_266 : Cond.constant RJ6 266 858993459 ∈ wc_B := wc_Bm (4, 84) rfl rfl
theorem lk_J6_267 : Cond.constant RJ6 267 252645135 ∈ wc_B := wc_Bm (4, 85) rfl rfl
theorem lc_L_9 : wk_I RL 9 yX6_init cX6_init 1 0 := ⟨wc_Bl [(1, 19), (1, 20), (1, 1), (1, 21)] rfl rfl, rfl, hzc_4, hzv_4, hzd_5⟩
theorem lc_L_12 : wk_I RL 12 yX7_init cX7_init 1 0 := ⟨wc_Bl [(5, 12), (5, 13), (1, 8), (5, 14)] rfl rfl, rfl, hzc_5, hzv_5, hzd_5⟩
theorem lc_L_13 : wk_V RL 13 yX6_feed cX6_feed 6 (some .int) 5 := ⟨wc_Bl [(2, 60), (2, 61), (2, 62), (1, 1), (2, 63)] rfl rfl, hzc_4, hzv_4, hzd_6⟩
theorem lc_L_17 : wk_V RL 17 yX7_feed cX7_feed 8 (some .int) 5 := ⟨wc_Bl [(5, 123), (5, 124), (5, 125), (1, 8), (5, 126)] rfl rfl, hzc_5, hzv_5, hzd_6⟩
theorem lc_L_18 : wk_V RL 18 yX6_end cX6_end 2 (some .int) 1 := ⟨wc_Bl [(2, 71), (2, 72), (2, 73), (1, 1), (2, 74)] rfl rfl, hzc_4, hzv_4, hzd_7⟩
theorem lc_L_22 : wk_V RL 22 yX7_end cX7_end 2 (some .int) 1 := ⟨wc_Bl [(5, 127), (5, 128), (5, 129), (1, 8), (5, 130)] rfl rfl, hzc_5, hzv_5, hzd_7⟩
theorem lc_L_23 : wk_V RL 23 yX6_text cX6_text 5 (some .int) 2 := ⟨wc_Bl [(2, 75), (2, 76), (2, 77), (1, 1), (2, 78)] rfl rfl, hzc_4, hzv_4, hzd_8⟩
theorem lc_L_27 : wk_V RL 27 yX7_text cX7_text 5 (some .int) 2 := ⟨wc_Bl [(5, 131), (5, 132), (5, 133), (1, 8), (5, 134)] rfl rfl, hzc_5, hzv_5, hzd_8⟩
theorem lc_L_28 : wk_V RL 28 yX6_fault cX6_fault 2 (some .int) 1 := ⟨wc_Bl [(3, 80), (3, 81), (3, 82), (1, 1), (3, 83)] rfl rfl, hzc_4, hzv_4, hzd_7⟩
theorem lc_L_31 : wk_V RL 31 yX7_fault cX7_fault 2 (some .int) 1 := ⟨wc_Bl [(6, 20), (6, 21), (6, 22), (1, 8), (6, 23)] rfl rfl, hzc_5, hzv_5, hzd_7⟩
theorem lc_L_32 : wk_V RL 32 yX6_republic cX6_republic 4 (some .int) 2 := ⟨wc_Bl [(3, 103), (3, 104), (3, 105), (1, 1), (3, 106)] rfl rfl, hzc_4, hzv_4, hzd_8⟩
theorem lc_L_35 : wk_V RL 35 yX7_republic cX7_republic 3 (some .int) 2 := ⟨wc_Bl [(6, 24), (6, 25), (6, 26), (1, 8), (6, 27)] rfl rfl, hzc_5, hzv_5, hzd_8⟩
theorem lc_L_36 : wk_V RL 36 yX6_minister cX6_minister 5 (some .int) 3 := ⟨wc_Bl [(3, 111), (3, 112), (3, 113), (1, 1), (3, 114)] rfl rfl, hzc_4, hzv_4, hzd_9⟩
theorem lc_L_40 : wk_V RL 40 yX7_minister cX7_minister 4 (some .int) 3 := ⟨wc_Bl [(6, 44), (6, 45), (6, 46), (1, 8), (6, 47)] rfl rfl, hzc_5, hzv_5, hzd_9⟩
theorem lc_L_41 : wk_V RL 41 yX6_off cX6_off 9 (some .int) 6 := ⟨wc_Bl [(3, 153), (3, 154), (3, 155), (1, 1), (3, 156)] rfl rfl, hzc_4, hzv_4, hzd_10⟩
theorem lc_L_45 : wk_V RL 45 yX7_off cX7_off 7 (some .int) 6 := ⟨wc_Bl [(6, 56), (6, 57), (6, 58), (1, 8), (6, 59)] rfl rfl, hzc_5, hzv_5, hzd_10⟩
theorem lc_L_46 : wk_V RL 46 yX6_vote cX6_vote 11 (some .int) 7 := ⟨wc_Bl [(3, 183), (3, 184), (3, 185), (1, 1), (3, 186)] rfl rfl, hzc_4, hzv_4, hzd_11⟩
theorem lc_L_50 : wk_V RL 50 yX7_vote cX7_vote 8 (some .int) 7 := ⟨wc_Bl [(6, 82), (6, 83), (6, 84), (1, 8), (6, 85)] rfl rfl, hzc_5, hzv_5, hzd_11⟩
theorem lc_L_51 : wk_V RL 51 yX6_order cX6_order 4 (some .int) 3 := ⟨wc_Bl [(3, 126), (3, 127), (3, 128), (1, 1), (3, 129)] rfl rfl, hzc_4, hzv_4, hzd_9⟩
theorem lc_L_54 : wk_V RL 54 yX7_order cX7_order 4 (some .int) 3 := ⟨wc_Bl [(6, 110), (6, 111), (6, 112), (1, 8), (6, 113)] rfl rfl, hzc_5, hzv_5, hzd_9⟩
theorem lc_L_55 : wk_V RL 55 yX6_broken cX6_broken 9 (some .int) 6 := ⟨wc_Bl [(3, 209), (3, 210), (3, 211), (1, 1), (3, 212)] rfl rfl, hzc_4, hzv_4, hzd_10⟩
theorem lc_L_58 : wk_V RL 58 yX7_broken cX7_broken 7 (some .int) 6 := ⟨wc_Bl [(6, 122), (6, 123), (6, 124), (1, 8), (6, 125)] rfl rfl, hzc_5, hzv_5, hzd_10⟩
theorem lc_L_59 : wk_V RL 59 yX6_deed cX6_deed 4 (some .int) 3 := ⟨wc_Bl [(3, 141), (3, 142), (3, 143), (1, 1), (3, 144)] rfl rfl, hzc_4, hzv_4, hzd_9⟩
theorem lc_L_62 : wk_V RL 62 yX7_deed cX7_deed 4 (some .int) 3 := ⟨wc_Bl [(6, 141), (6, 142), (6, 143), (1, 8), (6, 144)] rfl rfl, hzc_5, hzv_5, hzd_9⟩
theorem lc_L_63 : wk_V RL 63 yX6_stop cX6_stop 7 (some .int) 3 := ⟨wc_Bl [(3, 220), (3, 221), (3, 222), (1, 1), (3, 223)] rfl rfl, hzc_4, hzv_4, hzd_9⟩
theorem lc_L_66 : wk_V RL 66 yX7_stop cX7_stop 4 (some .int) 3 := ⟨wc_Bl [(6, 153), (6, 154), (6, 155), (1, 8), (6, 156)] rfl rfl, hzc_5, hzv_5, hzd_9⟩
theorem lc_L_67 : wk_V RL 67 yX6_state cX6_state 9 (some .int) 5 := ⟨wc_Bl [(4, 59), (4, 60), (4, 61), (1, 1), (4, 62)] rfl rfl, hzc_4, hzv_4, hzd_6⟩
theorem lc_L_70 : wk_V RL 70 yX7_state cX7_state 6 (some .int) 5 := ⟨wc_Bl [(6, 197), (6, 198), (6, 199), (1, 8), (6, 200)] rfl rfl, hzc_5, hzv_5, hzd_6⟩
theorem lc_L_71 : wk_V RL 71 yX6_agreed cX6_agreed 8 (some .int) 5 := ⟨wc_Bl [(4, 95), (4, 96), (4, 97), (1, 1), (4, 98)] rfl rfl, hzc_4, hzv_4, hzd_6⟩
theorem lc_L_74 : wk_V RL 74 yX7_agreed cX7_agreed 9 (some .int) 5 := ⟨wc_Bl [(6, 201), (6, 202), (6, 203), (1, 8), (6, 204)] rfl rfl, hzc_5, hzv_5, hzd_6⟩
theorem lc_L_75 : wk_V RL 75 yX6_power cX6_power 5 (some .int) 3 := ⟨wc_Bl [(4, 116), (4, 117), (4, 118), (1, 1), (4, 119)] rfl rfl, hzc_4, hzv_4, hzd_12⟩
theorem lc_L_79 : wk_V RL 79 yX7_power cX7_power 7 (some .int) 3 := ⟨wc_Bl [(6, 212), (6, 213), (6, 214), (1, 8), (6, 215)] rfl rfl, hzc_5, hzv_5, hzd_12⟩
theorem lc_L_80 : wk_V RL 80 yX6_coalition cX6_coalition 4 (some .int) 2 := ⟨wc_Bl [(4, 132), (4, 133), (4, 134), (1, 1), (4, 135)] rfl rfl, hzc_4, hzv_4, hzd_8⟩
theorem lc_L_83 : wk_V RL 83 yX7_coalition cX7_coalition 5 (some .int) 2 := ⟨wc_Bl [(6, 236), (6, 237), (6, 238), (1, 8), (6, 239)] rfl rfl, hzc_5, hzv_5, hzd_8⟩
theorem lc_L_84 : wk_V RL 84 yX6_bribe cX6_bribe 15 (some .int) 7 := ⟨wc_Bl [(4, 145), (4, 146), (4, 147), (1, 1), (4, 148)] rfl rfl, hzc_4, hzv_4, hzd_11⟩
theorem lc_L_87 : wk_V RL 87 yX7_bribe cX7_bribe 13 (some .int) 7 := ⟨wc_Bl [(7, 8), (7, 9), (7, 10), (1, 8), (7, 11)] rfl rfl, hzc_5, hzv_5, hzd_11⟩
theorem lc_L_88 : wk_V RL 88 yX6_lobby cX6_lobby 14 (some .int) 7 := ⟨wc_Bl [(4, 153), (4, 154), (4, 155), (1, 1), (4, 156)] rfl rfl, hzc_4, hzv_4, hzd_13⟩
theorem lc_L_92 : wk_V RL 92 yX7_lobby cX7_lobby 11 (some .int) 7 := ⟨wc_Bl [(7, 16), (7, 17), (7, 18), (1, 8), (7, 19)] rfl rfl, hzc_5, hzv_5, hzd_13⟩
theorem lc_L_93 : wk_V RL 93 yX6_bargain cX6_bargain 6 (some .int) 3 := ⟨wc_Bl [(4, 166), (4, 167), (4, 168), (1, 1), (4, 169)] rfl rfl, hzc_4, hzv_4, hzd_9⟩
theorem lc_L_96 : wk_V RL 96 yX7_bargain cX7_bargain 10 (some .int) 3 := ⟨wc_Bl [(7, 32), (7, 33), (7, 34), (1, 8), (7, 35)] rfl rfl, hzc_5, hzv_5, hzd_9⟩
theorem lc_L_97 : wk_V RL 97 yX6_was cX6_was 4 (some .int) 3 := ⟨wc_Bl [(3, 149), (3, 150), (3, 151), (1, 1), (3, 152)] rfl rfl, hzc_4, hzv_4, hzd_9⟩
theorem lc_L_100 : wk_V RL 100 yX7_was cX7_was 4 (some .int) 3 := ⟨wc_Bl [(7, 36), (7, 37), (7, 38), (1, 8), (7, 39)] rfl rfl, hzc_5, hzv_5, hzd_9⟩
theorem lc_L_101 : wk_V RL 101 yX6_nature cX6_nature 8 (some .int) 3 := ⟨wc_Bl [(4, 176), (4, 177), (4, 178), (1, 1), (4, 179)] rfl rfl, hzc_4, hzv_4, hzd_9⟩
theorem lc_L_104 : wk_V RL 104 yX7_nature cX7_nature 5 (some .int) 3 := ⟨wc_Bl [(7, 52), (7, 53), (7, 54), (1, 8), (7, 55)] rfl rfl, hzc_5, hzv_5, hzd_9⟩
theorem lc_L_105 : wk_V RL 105 yX6_seats cX6_seats 7 (some .int) 3 := ⟨wc_Bl [(4, 190), (4, 191), (4, 192), (1, 1), (4, 193)] rfl rfl, hzc_4, hzv_4, hzd_9⟩
theorem lc_L_108 : wk_V RL 108 yX7_seats cX7_seats 6 (some .int) 3 := ⟨wc_Bl [(7, 80), (7, 81), (7, 82), (1, 8), (7, 83)] rfl rfl, hzc_5, hzv_5, hzd_9⟩
theorem lc_L_109 : wk_V RL 109 yX6_reshuffle cX6_reshuffle 8 (some .int) 2 := ⟨wc_Bl [(4, 221), (4, 222), (4, 223), (1, 1), (4, 224)] rfl rfl, hzc_4, hzv_4, hzd_14⟩
theorem lc_L_113 : wk_V RL 113 yX7_reshuffle cX7_reshuffle 7 (some .int) 2 := ⟨wc_Bl [(7, 100), (7, 101), (7, 102), (1, 8), (7, 103)] rfl rfl, hzc_5, hzv_5, hzd_14⟩
theorem lc_L_114 : wk_V RL 114 yX6_leak cX6_leak 4 (some .int) 3 := ⟨wc_Bl [(3, 145), (3, 146), (3, 147), (1, 1), (3, 148)] rfl rfl, hzc_4, hzv_4, hzd_9⟩
theorem lc_L_117 : wk_V RL 117 yX7_leak cX7_leak 4 (some .int) 3 := ⟨wc_Bl [(7, 108), (7, 109), (7, 110), (1, 8), (7, 111)] rfl rfl, hzc_5, hzv_5, hzd_9⟩
theorem lc_L_118 : wk_V RL 118 yX6_fits cX6_fits 8 (some .int) 5 := ⟨wc_Bl [(4, 228), (4, 229), (4, 230), (1, 1), (4, 231)] rfl rfl, hzc_4, hzv_4, hzd_6⟩
theorem lc_L_121 : wk_V RL 121 yX7_fits cX7_fits 9 (some .int) 5 := ⟨wc_Bl [(7, 116), (7, 117), (7, 118), (1, 8), (7, 119)] rfl rfl, hzc_5, hzv_5, hzd_6⟩
theorem lc_L_122 : wk_V RL 122 yX6_drawn cX6_drawn 6 (some .int) 4 := ⟨wc_Bl [(4, 68), (4, 69), (4, 70), (1, 1), (4, 71)] rfl rfl, hzc_4, hzv_4, hzd_15⟩
theorem lc_L_126 : wk_V RL 126 yX7_drawn cX7_drawn 12 (some .int) 4 := ⟨wc_Bl [(7, 136), (7, 137), (7, 138), (1, 8), (7, 139)] rfl rfl, hzc_5, hzv_5, hzd_15⟩
theorem lc_L_127 : wk_V RL 127 yX6_count cX6_count 2 (some .int) 1 := ⟨wc_Bl [(3, 84), (3, 85), (3, 86), (1, 1), (3, 87)] rfl rfl, hzc_4, hzv_4, hzd_7⟩
theorem lc_L_130 : wk_V RL 130 yX7_count cX7_count 2 (some .int) 1 := ⟨wc_Bl [(7, 149), (7, 150), (7, 151), (1, 8), (7, 152)] rfl rfl, hzc_5, hzv_5, hzd_7⟩
theorem lc_L_131 : wk_V RL 131 yX6_image cX6_image 3 (some .boolean) 1 := ⟨wc_Bl [(3, 88), (3, 89), (3, 90), (1, 1), (3, 91)] rfl rfl, hzc_4, hzv_4, hzd_16⟩
theorem lc_L_135 : wk_V RL 135 yX7_image cX7_image 3 (some .boolean) 1 := ⟨wc_Bl [(7, 153), (7, 154), (7, 155), (1, 8), (7, 156)] rfl rfl, hzc_5, hzv_5, hzd_16⟩
theorem lc_L_136 : wk_V RL 136 yX6_again cX6_again 2 (some .boolean) 1 := ⟨wc_Bl [(3, 99), (3, 100), (3, 101), (1, 1), (3, 102)] rfl rfl, hzc_4, hzv_4, hzd_16⟩
theorem lc_L_139 : wk_V RL 139 yX7_again cX7_again 3 (some .boolean) 1 := ⟨wc_Bl [(7, 157), (7, 158), (7, 159), (1, 8), (7, 160)] rfl rfl, hzc_5, hzv_5, hzd_16⟩
theorem ln_L_7 : wk_N RL 7 6 [eN, eN, eN, eN, eN, eN, eN, eN] := ⟨RX6, TX6, 8, tyX6, rfl, wc_Bm (1, 17) rfl rfl, wc_Bm (1, 18) rfl rfl, wc_Bm (1, 1) rfl rfl, wuX6, tyX6_ok, rfl, fun G j hj => by rcases (by omega : j = 0 ∨ j = 1 ∨ j = 2 ∨ j = 3 ∨ j = 4 ∨ j = 5 ∨ j = 6 ∨ j = 7) with rfl | rfl | rfl | rfl | rfl | rfl | rfl | rfl <;> rfl⟩
theorem ln_L_10 : wk_N RL 10 7 [eN, eN, eI 0, eI 0, eI 0, eI 0, eI 0, eI 0, eI 0, eI 0, eN, eI 0, eI 0, eI 0, eI 0, eI 0, eI 0, eI 0, eI 0, eI 0, eI 0, eI 0, eI 0, eI 0, eI 0, eI 0, eI 0, eN, eN, eI 0, eI 0, eN, eN, eI 0, eI 0] := ⟨RX7, TX7, 35, tyX7, rfl, wc_Bm (5, 10) rfl rfl, wc_Bm (5, 11) rfl rfl, wc_Bm (1, 8) rfl rfl, wuX7, tyX7_ok, rfl, fun G j hj => by rcases (by omega : j = 0 ∨ j = 1 ∨ j = 2 ∨ j = 3 ∨ j = 4 ∨ j = 5 ∨ j = 6 ∨ j = 7 ∨ j = 8 ∨ j = 9 ∨ j = 10 ∨ j = 11 ∨ j = 12 ∨ j = 13 ∨ j = 14 ∨ j = 15 ∨ j = 16 ∨ j = 17 ∨ j = 18 ∨ j = 19 ∨ j = 20 ∨ j = 21 ∨ j = 22 ∨ j = 23 ∨ j = 24 ∨ j = 25 ∨ j = 26 ∨ j = 27 ∨ j = 28 ∨ j = 29 ∨ j = 30 ∨ j = 31 ∨ j = 32 ∨ j = 33 ∨ j = 34) with rfl | rfl | rfl | rfl | rfl | rfl | rfl | rfl | rfl | rfl | rfl | rfl | rfl | rfl | rfl | rfl | rfl | rfl | rfl | rfl | rfl | rfl | rfl | rfl | rfl | rfl | rfl | rfl | rfl | rfl | rfl | rfl | rfl | rfl | rfl <;> rfl⟩
theorem lf_X0_12 : wc_fld RX0 12 0 0 := ⟨RX0, TX0, 13, rfl, by decide, wc_Bm (1, 222) rfl rfl, wuX0⟩
theorem lf_X0_18 : wc_fld RX0 18 0 4 := ⟨RX0, TX0, 13, rfl, by decide, wc_Bm (1, 230) rfl rfl, wuX0⟩
theorem lf_X0_22 : wc_fld RX0 22 0 5 := ⟨RX0, TX0, 13, rfl, by decide, wc_Bm (1, 232) rfl rfl, wuX0⟩
theorem lf_X0_29 : wc_fld RX0 29 0 1 := ⟨RX0, TX0, 13, rfl, by decide, wc_Bm (1, 224) rfl rfl, wuX0⟩
theorem lf_X0_39 : wc_fld RX0 39 0 2 := ⟨RX0, TX0, 13, rfl, by decide, wc_Bm (1, 226) rfl rfl, wuX0⟩
theorem lf_X0_42 : wc_fld RX0 42 0 3 := ⟨RX0, TX0, 13, rfl, by decide, wc_Bm (1, 228) rfl rfl, wuX0⟩
theorem lf_X0_51 : wc_fld RX0 51 2 7 := ⟨RX2, TX2, 14, rfl, by decide, wc_Bm (1, 57) rfl rfl, wuX2⟩
theorem lf_X0_56 : wc_fld RX0 56 0 6 := ⟨RX0, TX0, 13, rfl, by decide, wc_Bm (1, 234) rfl rfl, wuX0⟩
theorem lf_X0_59 : wc_fld RX0 59 0 7 := ⟨RX0, TX0, 13, rfl, by decide, wc_Bm (1, 236) rfl rfl, wuX0⟩
theorem lf_X0_62 : wc_fld RX0 62 0 8 := ⟨RX0, TX0, 13, rfl, by decide, wc_Bm (1, 238) rfl rfl, wuX0⟩
theorem lf_X0_65 : wc_fld RX0 65 0 9 := ⟨RX0, TX0, 13, rfl, by decide, wc_Bm (2, 0) rfl rfl, wuX0⟩
theorem lf_X0_68 : wc_fld RX0 68 0 10 := ⟨RX0, TX0, 13, rfl, by decide, wc_Bm (2, 2) rfl rfl, wuX0⟩
theorem lf_X0_71 : wc_fld RX0 71 0 11 := ⟨RX0, TX0, 13, rfl, by decide, wc_Bm (2, 4) rfl rfl, wuX0⟩
theorem lf_X0_137 : wc_fld RX0 137 2 0 := ⟨RX2, TX2, 14, rfl, by decide, wc_Bm (1, 42) rfl rfl, wuX2⟩
theorem lf_X0_148 : wc_fld RX0 148 2 3 := ⟨RX2, TX2, 14, rfl, by decide, wc_Bm (1, 49) rfl rfl, wuX2⟩
theorem lf_X0_151 : wc_fld RX0 151 4 0 := ⟨RX4, TX4, 3, rfl, by decide, wc_Bm (1, 209) rfl rfl, wuX4⟩
theorem lf_X0_171 : wc_fld RX0 171 0 12 := ⟨RX0, TX0, 13, rfl, by decide, wc_Bm (2, 5) rfl rfl, wuX0⟩
theorem lo_X0_3 : ∀ w ∈ [Cond.methodLink RX0 3 objectInit, .instanceMethod objectInit, .code objectInit ⟨#[0xb1]⟩ 1 none], w ∈ wc_B := wc_Bl [(1, 201), (1, 23), (1, 24)] rfl rfl
theorem lc_X0_11 : wk_IN RX0 11 yX4_init "WindCabinet" cX4_init 1 0 := ⟨wc_Bl [(1, 205), (1, 7), (1, 206)] rfl rfl, by decide +kernel, rfl, hzc_6, hzv_6, hzd_5⟩
theorem lc_X0_45 : wk_S RX0 45 yJ7_fill_53178 cJ7_fill_53178 4 none 2 := ⟨wc_Bl [(3, 237), (2, 108), (1, 11), (2, 109)] rfl rfl, hzc_7, hzv_7, hzd_17⟩
theorem lc_X0_52 : wk_SN RX0 52 yX6_copy "WindCabinet" cX6_copy 2 none 2 := ⟨wc_Bl [(2, 91), (1, 1), (2, 92)] rfl rfl, by decide +kernel, hzc_4, hzv_4, hzd_18⟩
theorem lc_X0_90 : wk_SN RX0 90 yX6_has "WindCabinet" cX6_has 2 (some .boolean) 2 := ⟨wc_Bl [(3, 120), (1, 1), (3, 121)] rfl rfl, by decide +kernel, hzc_4, hzv_4, hzd_19⟩
theorem lc_X0_98 : wk_SN RX0 98 yX6_firstBroken "WindCabinet" cX6_firstBroken 5 (some .int) 4 := ⟨wc_Bl [(3, 214), (1, 1), (3, 215)] rfl rfl, by decide +kernel, hzc_4, hzv_4, hzd_20⟩
theorem lc_X0_119 : wk_SN RX0 119 yX6_put "WindCabinet" cX6_put 3 none 3 := ⟨wc_Bl [(2, 69), (1, 1), (2, 70)] rfl rfl, by decide +kernel, hzc_4, hzv_4, hzd_21⟩
theorem lc_X0_144 : wk_SN RX0 144 yX6_cell "WindCabinet" cX6_cell 2 (some .int) 2 := ⟨wc_Bl [(2, 84), (1, 1), (2, 85)] rfl rfl, by decide +kernel, hzc_4, hzv_4, hzd_22⟩
theorem lm_X0_154 : ∀ w ∈ [Cond.methodLink RX0 154 Lib.Math.min.name, .static Lib.Math.min.name, .initialized "java/lang/Math", .code Lib.Math.min.name Lib.Math.min.code 2 (some .int)], w ∈ wc_B := wc_Bl [(4, 44), (2, 94), (1, 9), (2, 95)] rfl rfl
theorem lc_X0_159 : wk_SN RX0 159 yX6_numberOf "WindCabinet" cX6_numberOf 3 (some .int) 3 := ⟨wc_Bl [(3, 164), (1, 1), (3, 165)] rfl rfl, by decide +kernel, hzc_4, hzv_4, hzd_9⟩
theorem lc_X0_165 : wk_SN RX0 165 yX6_amount "WindCabinet" cX6_amount 2 (some .int) 2 := ⟨wc_Bl [(3, 178), (1, 1), (3, 179)] rfl rfl, by decide +kernel, hzc_4, hzv_4, hzd_8⟩
theorem lm_X0_168 : ∀ w ∈ [Cond.methodLink RX0 168 Lib.Math.max.name, .static Lib.Math.max.name, .initialized "java/lang/Math", .code Lib.Math.max.name Lib.Math.max.code 2 (some .int)], w ∈ wc_B := wc_Bl [(4, 33), (3, 77), (1, 9), (3, 78)] rfl rfl
theorem lc_X0_177 : wk_S RX0 177 yJ6_bitCount_0f7a4 cJ6_bitCount_0f7a4 1 (some .int) 1 := ⟨wc_Bl [(4, 80), (4, 81), (1, 16), (4, 82)] rfl rfl, hzc_8, hzv_8, hzd_7⟩
theorem lc_X0_25 : wk_V RX0 25 yX4_settle cX4_settle 2 none 1 := ⟨wc_Bl [(3, 232), (3, 233), (3, 234), (1, 7), (3, 235)] rfl rfl, hzc_6, hzv_6, hzd_23⟩
theorem lc_X0_33 : wk_V RX0 33 yX2_everybody cX2_everybody 1 (some .int) 0 := ⟨wc_Bl [(3, 236), (3, 198), (3, 199), (1, 3), (3, 200)] rfl rfl, hzc_9, hzv_9, hzd_24⟩
theorem lc_X0_74 : wk_V RX0 74 yX0_open cX0_open 2 none 1 := ⟨wc_Bl [(3, 228), (3, 230), (12, 6), (1, 6), (3, 231)] rfl rfl, hzc_10, hzv_10, hzd_23⟩
theorem lc_X0_77 : wk_V RX0 77 yX0_happens cX0_happens 7 (some .boolean) 4 := ⟨wc_Bl [(3, 239), (4, 1), (12, 7), (1, 6), (4, 2)] rfl rfl, hzc_10, hzv_10, hzd_25⟩
theorem lc_X0_81 : wk_V RX0 81 yX3_part cX3_part 3 (some .int) 2 := ⟨wc_Bl [(4, 3), (3, 138), (3, 139), (1, 4), (3, 140)] rfl rfl, hzc_11, hzv_11, hzd_8⟩
theorem lc_X0_87 : wk_V RX0 87 yX3_dayFrom cX3_dayFrom 3 (some .int) 2 := ⟨wc_Bl [(4, 4), (4, 5), (4, 6), (1, 4), (4, 7)] rfl rfl, hzc_11, hzv_11, hzd_8⟩
theorem lc_X0_94 : wk_V RX0 94 yX4_can cX4_can 3 (some .boolean) 1 := ⟨wc_Bl [(4, 11), (4, 12), (4, 13), (1, 7), (4, 14)] rfl rfl, hzc_6, hzv_6, hzd_16⟩
theorem lc_X0_102 : wk_V RX0 102 yX0_decide cX0_decide 6 none 3 := ⟨wc_Bl [(4, 17), (4, 19), (12, 8), (1, 6), (4, 20)] rfl rfl, hzc_10, hzv_10, hzd_26⟩
theorem lc_X0_106 : wk_V RX0 106 yX0_takesOffice cX0_takesOffice 4 (some .boolean) 2 := ⟨wc_Bl [(4, 46), (4, 48), (12, 12), (1, 6), (4, 49)] rfl rfl, hzc_10, hzv_10, hzd_19⟩
theorem lc_X0_109 : wk_V RX0 109 yX0_isDismissed cX0_isDismissed 3 (some .boolean) 1 := ⟨wc_Bl [(4, 50), (4, 52), (12, 13), (1, 6), (4, 53)] rfl rfl, hzc_10, hzv_10, hzd_16⟩
theorem lc_X0_112 : wk_V RX0 112 yX0_isRecalled cX0_isRecalled 4 (some .boolean) 2 := ⟨wc_Bl [(4, 54), (4, 56), (12, 14), (1, 6), (4, 57)] rfl rfl, hzc_10, hzv_10, hzd_27⟩
theorem lc_X0_116 : wk_V RX0 116 yX0_committee cX0_committee 1 none 0 := ⟨wc_Bl [(4, 40), (4, 42), (12, 11), (1, 6), (4, 43)] rfl rfl, hzc_10, hzv_10, hzd_5⟩
theorem lc_X0_123 : wk_V RX0 123 yX2_isMinister cX2_isMinister 2 (some .boolean) 1 := ⟨wc_Bl [(4, 58), (3, 116), (3, 117), (1, 3), (3, 118)] rfl rfl, hzc_9, hzv_9, hzd_16⟩
theorem lc_X0_126 : wk_V RX0 126 yX2_agreeing cX2_agreeing 6 (some .int) 3 := ⟨wc_Bl [(4, 21), (3, 188), (3, 189), (1, 3), (3, 190)] rfl rfl, hzc_9, hzv_9, hzd_9⟩
theorem lc_X0_130 : wk_V RX0 130 yX2_isPassed cX2_isPassed 3 (some .boolean) 2 := ⟨wc_Bl [(4, 22), (3, 202), (3, 203), (1, 3), (3, 204)] rfl rfl, hzc_9, hzv_9, hzd_19⟩
theorem lc_X0_133 : wk_V RX0 133 yX0_record cX0_record 2 none 1 := ⟨wc_Bl [(4, 23), (4, 25), (12, 9), (1, 6), (4, 26)] rfl rfl, hzc_10, hzv_10, hzd_28⟩
theorem lc_X0_140 : wk_V RX0 140 yX0_bear cX0_bear 6 none 3 := ⟨wc_Bl [(4, 34), (4, 36), (12, 10), (1, 6), (4, 37)] rfl rfl, hzc_10, hzv_10, hzd_29⟩
theorem lc_X0_162 : wk_V RX0 162 yX4_bring cX4_bring 4 none 1 := ⟨wc_Bl [(4, 27), (4, 28), (4, 29), (1, 7), (4, 30)] rfl rfl, hzc_6, hzv_6, hzd_28⟩
theorem lc_X0_174 : wk_V RX0 174 yX0_drawMotion cX0_drawMotion 7 none 1 := ⟨wc_Bl [(4, 76), (4, 78), (13, 0), (1, 6), (4, 79)] rfl rfl, hzc_10, hzv_10, hzd_23⟩
theorem lc_X0_183 : wk_V RX0 183 yX0_drawBelow cX0_drawBelow 2 (some .int) 1 := ⟨wc_Bl [(4, 86), (4, 88), (13, 1), (1, 6), (4, 89)] rfl rfl, hzc_10, hzv_10, hzd_7⟩
theorem lc_X0_186 : wk_V RX0 186 yX0_oneThere cX0_oneThere 4 (some .int) 1 := ⟨wc_Bl [(4, 91), (4, 93), (13, 2), (1, 6), (4, 94)] rfl rfl, hzc_10, hzv_10, hzd_7⟩
theorem lk_X0_189 : Cond.constant RX0 189 1103515245 ∈ wc_B := wc_Bm (4, 90) rfl rfl
theorem ln_X0_9 : wk_N RX0 9 4 [eI 0, eI 0, eI 0] := ⟨RX4, TX4, 3, tyX4, rfl, wc_Bm (1, 202) rfl rfl, wc_Bm (1, 203) rfl rfl, wc_Bm (1, 7) rfl rfl, wuX4, tyX4_ok, rfl, fun G j hj => by rcases (by omega : j = 0 ∨ j = 1 ∨ j = 2) with rfl | rfl | rfl <;> rfl⟩
theorem lp_X0_12 : wc_fpt RX0 12 0 0 true (.object "WindCabinet$Sky") := ⟨RX0, TX0, 13, tyX0, rfl, by decide, wc_Bm (1, 222) rfl rfl, wuX0, tyX0_ok, nmX0, rfl, by decide +kernel, rfl⟩
theorem lp_X0_18 : wc_fpt RX0 18 0 4 true (.array .int) := ⟨RX0, TX0, 13, tyX0, rfl, by decide, wc_Bm (1, 230) rfl rfl, wuX0, tyX0_ok, nmX0, rfl, by decide +kernel, rfl⟩
theorem lp_X0_22 : wc_fpt RX0 22 0 5 true (.array .int) := ⟨RX0, TX0, 13, tyX0, rfl, by decide, wc_Bm (1, 232) rfl rfl, wuX0, tyX0_ok, nmX0, rfl, by decide +kernel, rfl⟩
theorem lp_X0_29 : wc_fpt RX0 29 0 1 false .int := ⟨RX0, TX0, 13, tyX0, rfl, by decide, wc_Bm (1, 224) rfl rfl, wuX0, tyX0_ok, nmX0, rfl, by decide +kernel, rfl⟩
theorem lp_X0_39 : wc_fpt RX0 39 0 2 false .int := ⟨RX0, TX0, 13, tyX0, rfl, by decide, wc_Bm (1, 226) rfl rfl, wuX0, tyX0_ok, nmX0, rfl, by decide +kernel, rfl⟩
theorem lp_X0_42 : wc_fpt RX0 42 0 3 false .int := ⟨RX0, TX0, 13, tyX0, rfl, by decide, wc_Bm (1, 228) rfl rfl, wuX0, tyX0_ok, nmX0, rfl, by decide +kernel, rfl⟩
theorem lp_X0_56 : wc_fpt RX0 56 0 6 false .int := ⟨RX0, TX0, 13, tyX0, rfl, by decide, wc_Bm (1, 234) rfl rfl, wuX0, tyX0_ok, nmX0, rfl, by decide +kernel, rfl⟩
theorem lp_X0_59 : wc_fpt RX0 59 0 7 false .int := ⟨RX0, TX0, 13, tyX0, rfl, by decide, wc_Bm (1, 236) rfl rfl, wuX0, tyX0_ok, nmX0, rfl, by decide +kernel, rfl⟩
theorem lp_X0_62 : wc_fpt RX0 62 0 8 false .int := ⟨RX0, TX0, 13, tyX0, rfl, by decide, wc_Bm (1, 238) rfl rfl, wuX0, tyX0_ok, nmX0, rfl, by decide +kernel, rfl⟩
theorem lp_X0_65 : wc_fpt RX0 65 0 9 false .int := ⟨RX0, TX0, 13, tyX0, rfl, by decide, wc_Bm (2, 0) rfl rfl, wuX0, tyX0_ok, nmX0, rfl, by decide +kernel, rfl⟩
theorem lp_X0_68 : wc_fpt RX0 68 0 10 false .int := ⟨RX0, TX0, 13, tyX0, rfl, by decide, wc_Bm (2, 2) rfl rfl, wuX0, tyX0_ok, nmX0, rfl, by decide +kernel, rfl⟩
theorem lp_X0_71 : wc_fpt RX0 71 0 11 false .int := ⟨RX0, TX0, 13, tyX0, rfl, by decide, wc_Bm (2, 4) rfl rfl, wuX0, tyX0_ok, nmX0, rfl, by decide +kernel, rfl⟩
theorem lp_X0_171 : wc_fpt RX0 171 0 12 false .int := ⟨RX0, TX0, 13, tyX0, rfl, by decide, wc_Bm (2, 5) rfl rfl, wuX0, tyX0_ok, nmX0, rfl, by decide +kernel, rfl⟩
theorem lf_X1_12 : wc_fld RX1 12 1 0 := ⟨RX1, TX1, 12, rfl, by decide, wc_Bm (1, 155) rfl rfl, wuX1⟩
theorem lf_X1_21 : wc_fld RX1 21 1 1 := ⟨RX1, TX1, 12, rfl, by decide, wc_Bm (1, 157) rfl rfl, wuX1⟩
theorem lf_X1_25 : wc_fld RX1 25 1 4 := ⟨RX1, TX1, 12, rfl, by decide, wc_Bm (1, 163) rfl rfl, wuX1⟩
theorem lf_X1_29 : wc_fld RX1 29 1 5 := ⟨RX1, TX1, 12, rfl, by decide, wc_Bm (1, 164) rfl rfl, wuX1⟩
theorem lf_X1_40 : wc_fld RX1 40 1 7 := ⟨RX1, TX1, 12, rfl, by decide, wc_Bm (1, 166) rfl rfl, wuX1⟩
theorem lf_X1_48 : wc_fld RX1 48 1 11 := ⟨RX1, TX1, 12, rfl, by decide, wc_Bm (1, 170) rfl rfl, wuX1⟩
theorem lf_X1_51 : wc_fld RX1 51 2 0 := ⟨RX2, TX2, 14, rfl, by decide, wc_Bm (1, 41) rfl rfl, wuX2⟩
theorem lf_X1_54 : wc_fld RX1 54 1 6 := ⟨RX1, TX1, 12, rfl, by decide, wc_Bm (1, 165) rfl rfl, wuX1⟩
theorem lf_X1_65 : wc_fld RX1 65 1 2 := ⟨RX1, TX1, 12, rfl, by decide, wc_Bm (1, 159) rfl rfl, wuX1⟩
theorem lf_X1_71 : wc_fld RX1 71 1 9 := ⟨RX1, TX1, 12, rfl, by decide, wc_Bm (1, 168) rfl rfl, wuX1⟩
theorem lf_X1_74 : wc_fld RX1 74 1 10 := ⟨RX1, TX1, 12, rfl, by decide, wc_Bm (1, 169) rfl rfl, wuX1⟩
theorem lf_X1_80 : wc_fld RX1 80 1 8 := ⟨RX1, TX1, 12, rfl, by decide, wc_Bm (1, 167) rfl rfl, wuX1⟩
theorem lo_X1_3 : ∀ w ∈ [Cond.methodLink RX1 3 objectInit, .instanceMethod objectInit, .code objectInit ⟨#[0xb1]⟩ 1 none], w ∈ wc_B := wc_Bl [(1, 150), (1, 23), (1, 24)] rfl rfl
theorem lc_X1_11 : wk_IN RX1 11 yX2_init "WindCabinet" cX2_init 1 0 := ⟨wc_Bl [(1, 37), (1, 3), (1, 38)] rfl rfl, by decide +kernel, rfl, hzc_9, hzv_9, hzd_5⟩
theorem lc_X1_20 : wk_IN RX1 20 yX3_init "WindCabinet" cX3_init 1 0 := ⟨wc_Bl [(1, 106), (1, 4), (1, 107)] rfl rfl, by decide +kernel, rfl, hzc_11, hzv_11, hzd_5⟩
theorem lc_X1_32 : wk_SN RX1 32 yX6_copy "WindCabinet" cX6_copy 2 none 2 := ⟨wc_Bl [(2, 91), (1, 1), (2, 92)] rfl rfl, by decide +kernel, hzc_4, hzv_4, hzd_18⟩
theorem lc_X1_109 : wk_S RX1 109 yX1_wordsOf cX1_wordsOf 1 (some (.object "java/lang/String")) 1 := ⟨wc_Bl [(2, 133), (2, 134), (1, 5), (2, 135)] rfl rfl, hzc_12, hzv_12, hzd_30⟩
theorem lc_X1_124 : wk_S RX1 124 yJ7_fill_53178 cJ7_fill_53178 4 none 2 := ⟨wc_Bl [(2, 213), (2, 108), (1, 11), (2, 109)] rfl rfl, hzc_7, hzv_7, hzd_17⟩
theorem lc_X1_130 : wk_S RX1 130 yX1_formsOf cX1_formsOf 1 (some (.object "java/lang/String")) 1 := ⟨wc_Bl [(2, 214), (2, 215), (1, 5), (2, 216)] rfl rfl, hzc_12, hzv_12, hzd_30⟩
theorem lc_X1_133 : wk_S RX1 133 yX1_startOf cX1_startOf 4 (some .int) 2 := ⟨wc_Bl [(2, 223), (2, 224), (1, 5), (2, 225)] rfl rfl, hzc_12, hzv_12, hzd_31⟩
theorem lc_X1_156 : wk_SN RX1 156 yX6_cell "WindCabinet" cX6_cell 2 (some .int) 2 := ⟨wc_Bl [(2, 84), (1, 1), (2, 85)] rfl rfl, by decide +kernel, hzc_4, hzv_4, hzd_22⟩
theorem lc_X1_165 : wk_S RX1 165 yX1_choicesOf cX1_choicesOf 1 (some (.object "java/lang/String")) 1 := ⟨wc_Bl [(2, 235), (2, 236), (1, 5), (2, 237)] rfl rfl, hzc_12, hzv_12, hzd_32⟩
theorem lc_X1_175 : wk_SN RX1 175 yX6_put "WindCabinet" cX6_put 3 none 3 := ⟨wc_Bl [(2, 69), (1, 1), (2, 70)] rfl rfl, by decide +kernel, hzc_4, hzv_4, hzd_21⟩
theorem lc_X1_187 : wk_S RX1 187 yX1_leastOf cX1_leastOf 1 (some .int) 1 := ⟨wc_Bl [(3, 10), (3, 11), (1, 5), (3, 12)] rfl rfl, hzc_12, hzv_12, hzd_33⟩
theorem lc_X1_191 : wk_S RX1 191 yX1_mostOf cX1_mostOf 1 (some .int) 1 := ⟨wc_Bl [(3, 13), (3, 14), (1, 5), (3, 15)] rfl rfl, hzc_12, hzv_12, hzd_33⟩
theorem lc_X1_216 : wk_S RX1 216 yX1_isBlank cX1_isBlank 1 (some .boolean) 1 := ⟨wc_Bl [(2, 120), (2, 121), (1, 5), (2, 122)] rfl rfl, hzc_12, hzv_12, hzd_16⟩
theorem lc_X1_219 : wk_S RX1 219 yX1_isLetter cX1_isLetter 1 (some .boolean) 1 := ⟨wc_Bl [(2, 123), (2, 124), (1, 5), (2, 125)] rfl rfl, hzc_12, hzv_12, hzd_16⟩
theorem lc_X1_222 : wk_S RX1 222 yX1_isDigit cX1_isDigit 1 (some .boolean) 1 := ⟨wc_Bl [(2, 126), (2, 127), (1, 5), (2, 128)] rfl rfl, hzc_12, hzv_12, hzd_16⟩
theorem lc_X1_36 : wk_V RX1 36 yX1_startOn cX1_startOn 2 none 1 := ⟨wc_Bl [(2, 99), (2, 101), (11, 2), (1, 5), (2, 102)] rfl rfl, hzc_12, hzv_12, hzd_28⟩
theorem lc_X1_44 : wk_V RX1 44 yX1_readLine cX1_readLine 6 (some .boolean) 1 := ⟨wc_Bl [(2, 129), (2, 131), (11, 4), (1, 5), (2, 132)] rfl rfl, hzc_12, hzv_12, hzd_16⟩
theorem lc_X1_57 : wk_V RX1 57 yX1_note cX1_note 3 none 2 := ⟨wc_Bl [(2, 203), (2, 205), (11, 8), (1, 5), (2, 206)] rfl rfl, hzc_12, hzv_12, hzd_4⟩
theorem lc_X1_61 : wk_V RX1 61 yX2_clear cX2_clear 1 none 0 := ⟨wc_Bl [(2, 103), (2, 104), (2, 105), (1, 3), (2, 106)] rfl rfl, hzc_9, hzv_9, hzd_5⟩
theorem lc_X1_64 : wk_V RX1 64 yX3_clear cX3_clear 1 none 0 := ⟨wc_Bl [(2, 110), (2, 111), (2, 112), (1, 4), (2, 113)] rfl rfl, hzc_11, hzv_11, hzd_5⟩
theorem lc_X1_77 : wk_V RX1 77 yX1_advance cX1_advance 1 none 0 := ⟨wc_Bl [(2, 115), (2, 117), (11, 3), (1, 5), (2, 118)] rfl rfl, hzc_12, hzv_12, hzd_5⟩
theorem lc_X1_113 : wk_V RX1 113 yX1_chosen cX1_chosen 5 (some .int) 1 := ⟨wc_Bl [(2, 143), (2, 145), (11, 5), (1, 5), (2, 146)] rfl rfl, hzc_12, hzv_12, hzd_34⟩
theorem lc_X1_117 : wk_V RX1 117 yX1_refuse cX1_refuse 1 (some .boolean) 0 := ⟨wc_Bl [(2, 199), (2, 201), (11, 7), (1, 5), (2, 202)] rfl rfl, hzc_12, hzv_12, hzd_3⟩
theorem lc_X1_121 : wk_V RX1 121 yX1_countLine cX1_countLine 3 none 2 := ⟨wc_Bl [(2, 207), (2, 209), (11, 9), (1, 5), (2, 210)] rfl rfl, hzc_12, hzv_12, hzd_4⟩
theorem lc_X1_137 : wk_V RX1 137 yJ0_length_8abf5 cJ0_length_8abf5 1 (some .int) 0 := ⟨wc_Bl [(2, 147), (2, 148), (2, 149), (1, 12), (2, 150)] rfl rfl, hzc_3, hzv_3, hzd_24⟩
theorem lc_X1_142 : wk_V RX1 142 yJ0_charAt_5068e cJ0_charAt_5068e 2 (some .char) 1 := ⟨wc_Bl [(2, 157), (2, 158), (2, 159), (1, 12), (2, 160)] rfl rfl, hzc_3, hzv_3, hzd_35⟩
theorem lc_X1_146 : wk_V RX1 146 yX1_readPart cX1_readPart 5 (some .boolean) 2 := ⟨wc_Bl [(2, 226), (2, 228), (11, 10), (1, 5), (2, 229)] rfl rfl, hzc_12, hzv_12, hzd_36⟩
theorem lc_X1_150 : wk_V RX1 150 yX1_take cX1_take 3 none 2 := ⟨wc_Bl [(3, 17), (3, 19), (11, 13), (1, 5), (3, 20)] rfl rfl, hzc_12, hzv_12, hzd_4⟩
theorem lc_X1_160 : wk_V RX1 160 yX1_readSemicolon cX1_readSemicolon 1 (some .boolean) 0 := ⟨wc_Bl [(2, 230), (2, 232), (11, 11), (1, 5), (2, 233)] rfl rfl, hzc_12, hzv_12, hzd_3⟩
theorem lc_X1_169 : wk_V RX1 169 yJ0_isEmpty_aae02 cJ0_isEmpty_aae02 1 (some .boolean) 0 := ⟨wc_Bl [(3, 2), (3, 3), (3, 4), (1, 12), (3, 5)] rfl rfl, hzc_3, hzv_3, hzd_3⟩
theorem lc_X1_172 : wk_V RX1 172 yX1_readNumber cX1_readNumber 5 (some .boolean) 2 := ⟨wc_Bl [(3, 6), (3, 8), (11, 12), (1, 5), (3, 9)] rfl rfl, hzc_12, hzv_12, hzd_36⟩
theorem lc_X1_194 : wk_V RX1 194 yX2_takeLine cX2_takeLine 6 none 2 := ⟨wc_Bl [(3, 21), (3, 22), (3, 23), (1, 3), (3, 24)] rfl rfl, hzc_9, hzv_9, hzd_37⟩
theorem lc_X1_198 : wk_V RX1 198 yX1_takeToldOf cX1_takeToldOf 4 none 1 := ⟨wc_Bl [(3, 35), (3, 37), (12, 0), (1, 5), (3, 38)] rfl rfl, hzc_12, hzv_12, hzd_28⟩
theorem lc_X1_201 : wk_V RX1 201 yX1_takeOrder cX1_takeOrder 3 none 1 := ⟨wc_Bl [(3, 39), (3, 41), (12, 1), (1, 5), (3, 42)] rfl rfl, hzc_12, hzv_12, hzd_28⟩
theorem lc_X1_204 : wk_V RX1 204 yX3_add cX3_add 5 none 3 := ⟨wc_Bl [(3, 43), (3, 44), (3, 45), (1, 4), (3, 46)] rfl rfl, hzc_11, hzv_11, hzd_38⟩
theorem lc_X1_208 : wk_V RX1 208 yX3_set cX3_set 4 none 3 := ⟨wc_Bl [(3, 53), (3, 48), (3, 49), (1, 4), (3, 50)] rfl rfl, hzc_11, hzv_11, hzd_39⟩
theorem lc_X1_212 : wk_V RX1 212 yX1_isToken cX1_isToken 5 (some .boolean) 3 := ⟨wc_Bl [(2, 195), (2, 197), (11, 6), (1, 5), (2, 198)] rfl rfl, hzc_12, hzv_12, hzd_40⟩
theorem ln_X1_9 : wk_N RX1 9 2 [eI 0, eN, eN, eN, eN, eN, eN, eN, eI 0, eI 0, eI 0, eI 0, eI 0, eI 0] := ⟨RX2, TX2, 14, tyX2, rfl, wc_Bm (1, 151) rfl rfl, wc_Bm (1, 35) rfl rfl, wc_Bm (1, 3) rfl rfl, wuX2, tyX2_ok, rfl, fun G j hj => by rcases (by omega : j = 0 ∨ j = 1 ∨ j = 2 ∨ j = 3 ∨ j = 4 ∨ j = 5 ∨ j = 6 ∨ j = 7 ∨ j = 8 ∨ j = 9 ∨ j = 10 ∨ j = 11 ∨ j = 12 ∨ j = 13) with rfl | rfl | rfl | rfl | rfl | rfl | rfl | rfl | rfl | rfl | rfl | rfl | rfl | rfl <;> rfl⟩
theorem ln_X1_18 : wk_N RX1 18 3 [eI 0, eN] := ⟨RX3, TX3, 2, tyX3, rfl, wc_Bm (1, 153) rfl rfl, wc_Bm (1, 104) rfl rfl, wc_Bm (1, 4) rfl rfl, wuX3, tyX3_ok, rfl, fun G j hj => by rcases (by omega : j = 0 ∨ j = 1) with rfl | rfl <;> rfl⟩
theorem lp_X1_12 : wc_fpt RX1 12 1 0 true (.object "WindCabinet$Republic") := ⟨RX1, TX1, 12, tyX1, rfl, by decide, wc_Bm (1, 155) rfl rfl, wuX1, tyX1_ok, nmX1, rfl, by decide +kernel, rfl⟩
theorem lp_X1_21 : wc_fpt RX1 21 1 1 true (.object "WindCabinet$Rows") := ⟨RX1, TX1, 12, tyX1, rfl, by decide, wc_Bm (1, 157) rfl rfl, wuX1, tyX1_ok, nmX1, rfl, by decide +kernel, rfl⟩
theorem lp_X1_25 : wc_fpt RX1 25 1 4 true (.array .int) := ⟨RX1, TX1, 12, tyX1, rfl, by decide, wc_Bm (1, 163) rfl rfl, wuX1, tyX1_ok, nmX1, rfl, by decide +kernel, rfl⟩
theorem lp_X1_29 : wc_fpt RX1 29 1 5 true (.array .int) := ⟨RX1, TX1, 12, tyX1, rfl, by decide, wc_Bm (1, 164) rfl rfl, wuX1, tyX1_ok, nmX1, rfl, by decide +kernel, rfl⟩
theorem lp_X1_40 : wc_fpt RX1 40 1 7 false .int := ⟨RX1, TX1, 12, tyX1, rfl, by decide, wc_Bm (1, 166) rfl rfl, wuX1, tyX1_ok, nmX1, rfl, by decide +kernel, rfl⟩
theorem lp_X1_48 : wc_fpt RX1 48 1 11 false .int := ⟨RX1, TX1, 12, tyX1, rfl, by decide, wc_Bm (1, 170) rfl rfl, wuX1, tyX1_ok, nmX1, rfl, by decide +kernel, rfl⟩
theorem lp_X1_54 : wc_fpt RX1 54 1 6 false .int := ⟨RX1, TX1, 12, tyX1, rfl, by decide, wc_Bm (1, 165) rfl rfl, wuX1, tyX1_ok, nmX1, rfl, by decide +kernel, rfl⟩
theorem lp_X1_65 : wc_fpt RX1 65 1 2 false .int := ⟨RX1, TX1, 12, tyX1, rfl, by decide, wc_Bm (1, 159) rfl rfl, wuX1, tyX1_ok, nmX1, rfl, by decide +kernel, rfl⟩
theorem lp_X1_68 : wc_fpt RX1 68 1 3 false .int := ⟨RX1, TX1, 12, tyX1, rfl, by decide, wc_Bm (1, 161) rfl rfl, wuX1, tyX1_ok, nmX1, rfl, by decide +kernel, rfl⟩
theorem lp_X1_71 : wc_fpt RX1 71 1 9 false .int := ⟨RX1, TX1, 12, tyX1, rfl, by decide, wc_Bm (1, 168) rfl rfl, wuX1, tyX1_ok, nmX1, rfl, by decide +kernel, rfl⟩
theorem lp_X1_74 : wc_fpt RX1 74 1 10 false .int := ⟨RX1, TX1, 12, tyX1, rfl, by decide, wc_Bm (1, 169) rfl rfl, wuX1, tyX1_ok, nmX1, rfl, by decide +kernel, rfl⟩
theorem lp_X1_80 : wc_fpt RX1 80 1 8 false .int := ⟨RX1, TX1, 12, tyX1, rfl, by decide, wc_Bm (1, 167) rfl rfl, wuX1, tyX1_ok, nmX1, rfl, by decide +kernel, rfl⟩
theorem lf_X2_9 : wc_fld RX2 9 2 1 := ⟨RX2, TX2, 14, rfl, by decide, wc_Bm (1, 44) rfl rfl, wuX2⟩
theorem lf_X2_15 : wc_fld RX2 15 2 2 := ⟨RX2, TX2, 14, rfl, by decide, wc_Bm (1, 46) rfl rfl, wuX2⟩
theorem lf_X2_18 : wc_fld RX2 18 2 3 := ⟨RX2, TX2, 14, rfl, by decide, wc_Bm (1, 48) rfl rfl, wuX2⟩
theorem lf_X2_21 : wc_fld RX2 21 2 4 := ⟨RX2, TX2, 14, rfl, by decide, wc_Bm (1, 51) rfl rfl, wuX2⟩
theorem lf_X2_24 : wc_fld RX2 24 2 5 := ⟨RX2, TX2, 14, rfl, by decide, wc_Bm (1, 53) rfl rfl, wuX2⟩
theorem lf_X2_27 : wc_fld RX2 27 2 6 := ⟨RX2, TX2, 14, rfl, by decide, wc_Bm (1, 54) rfl rfl, wuX2⟩
theorem lf_X2_30 : wc_fld RX2 30 2 7 := ⟨RX2, TX2, 14, rfl, by decide, wc_Bm (1, 56) rfl rfl, wuX2⟩
theorem lf_X2_33 : wc_fld RX2 33 2 0 := ⟨RX2, TX2, 14, rfl, by decide, wc_Bm (1, 40) rfl rfl, wuX2⟩
theorem lf_X2_43 : wc_fld RX2 43 2 8 := ⟨RX2, TX2, 14, rfl, by decide, wc_Bm (1, 59) rfl rfl, wuX2⟩
theorem lf_X2_46 : wc_fld RX2 46 2 9 := ⟨RX2, TX2, 14, rfl, by decide, wc_Bm (1, 61) rfl rfl, wuX2⟩
theorem lf_X2_49 : wc_fld RX2 49 2 10 := ⟨RX2, TX2, 14, rfl, by decide, wc_Bm (1, 63) rfl rfl, wuX2⟩
theorem lf_X2_52 : wc_fld RX2 52 2 11 := ⟨RX2, TX2, 14, rfl, by decide, wc_Bm (1, 66) rfl rfl, wuX2⟩
theorem lf_X2_55 : wc_fld RX2 55 2 12 := ⟨RX2, TX2, 14, rfl, by decide, wc_Bm (1, 69) rfl rfl, wuX2⟩
theorem lf_X2_58 : wc_fld RX2 58 2 13 := ⟨RX2, TX2, 14, rfl, by decide, wc_Bm (1, 72) rfl rfl, wuX2⟩
theorem lo_X2_3 : ∀ w ∈ [Cond.methodLink RX2 3 objectInit, .instanceMethod objectInit, .code objectInit ⟨#[0xb1]⟩ 1 none], w ∈ wc_B := wc_Bl [(1, 39), (1, 23), (1, 24)] rfl rfl
theorem lc_X2_37 : wk_S RX2 37 yJ7_fill_53178 cJ7_fill_53178 4 none 2 := ⟨wc_Bl [(2, 107), (2, 108), (1, 11), (2, 109)] rfl rfl, hzc_7, hzv_7, hzd_17⟩
theorem lc_X2_61 : wk_SN RX2 61 yX6_copy "WindCabinet" cX6_copy 2 none 2 := ⟨wc_Bl [(2, 91), (1, 1), (2, 92)] rfl rfl, by decide +kernel, hzc_4, hzv_4, hzd_18⟩
theorem lc_X2_65 : wk_SN RX2 65 yX6_cell "WindCabinet" cX6_cell 2 (some .int) 2 := ⟨wc_Bl [(2, 84), (1, 1), (2, 85)] rfl rfl, by decide +kernel, hzc_4, hzv_4, hzd_22⟩
theorem lc_X2_73 : wk_SN RX2 73 yX6_put "WindCabinet" cX6_put 3 none 3 := ⟨wc_Bl [(2, 69), (1, 1), (2, 70)] rfl rfl, by decide +kernel, hzc_4, hzv_4, hzd_21⟩
theorem lc_X2_81 : wk_SN RX2 81 yX6_amount "WindCabinet" cX6_amount 2 (some .int) 2 := ⟨wc_Bl [(3, 178), (1, 1), (3, 179)] rfl rfl, by decide +kernel, hzc_4, hzv_4, hzd_8⟩
theorem lm_X2_85 : ∀ w ∈ [Cond.methodLink RX2 85 Lib.Math.abs.name, .static Lib.Math.abs.name, .initialized "java/lang/Math", .code Lib.Math.abs.name Lib.Math.abs.code 1 (some .int)], w ∈ wc_B := wc_Bl [(3, 180), (3, 181), (1, 9), (3, 182)] rfl rfl
theorem lc_X2_91 : wk_SN RX2 91 yX6_has "WindCabinet" cX6_has 2 (some .boolean) 2 := ⟨wc_Bl [(3, 120), (1, 1), (3, 121)] rfl rfl, by decide +kernel, hzc_4, hzv_4, hzd_19⟩
theorem lc_X2_112 : wk_SN RX2 112 yX6_numberOf "WindCabinet" cX6_numberOf 3 (some .int) 3 := ⟨wc_Bl [(3, 164), (1, 1), (3, 165)] rfl rfl, by decide +kernel, hzc_4, hzv_4, hzd_9⟩
theorem lc_X2_69 : wk_V RX2 69 yX2_addMinister cX2_addMinister 2 none 1 := ⟨wc_Bl [(3, 26), (3, 28), (11, 14), (1, 3), (3, 29)] rfl rfl, hzc_9, hzv_9, hzd_41⟩
theorem lc_X2_77 : wk_V RX2 77 yX2_setNumber cX2_setNumber 3 none 2 := ⟨wc_Bl [(3, 31), (3, 33), (11, 15), (1, 3), (3, 34)] rfl rfl, hzc_9, hzv_9, hzd_4⟩
theorem lc_X2_95 : wk_V RX2 95 yX2_distance cX2_distance 7 (some .int) 3 := ⟨wc_Bl [(3, 191), (3, 174), (3, 175), (1, 3), (3, 176)] rfl rfl, hzc_9, hzv_9, hzd_9⟩
theorem lc_X2_99 : wk_V RX2 99 yX2_patience cX2_patience 3 (some .int) 2 := ⟨wc_Bl [(3, 192), (3, 193), (3, 194), (1, 3), (3, 195)] rfl rfl, hzc_9, hzv_9, hzd_8⟩
theorem lc_X2_102 : wk_V RX2 102 yX2_votesOf cX2_votesOf 4 (some .int) 1 := ⟨wc_Bl [(3, 205), (3, 206), (3, 207), (1, 3), (3, 208)] rfl rfl, hzc_9, hzv_9, hzd_7⟩
theorem lc_X2_105 : wk_V RX2 105 yX2_isMinister cX2_isMinister 2 (some .boolean) 1 := ⟨wc_Bl [(4, 202), (3, 116), (3, 117), (1, 3), (3, 118)] rfl rfl, hzc_9, hzv_9, hzd_16⟩
theorem lc_X2_109 : wk_V RX2 109 yX2_want cX2_want 3 (some .int) 2 := ⟨wc_Bl [(4, 210), (3, 123), (3, 124), (1, 3), (3, 125)] rfl rfl, hzc_9, hzv_9, hzd_8⟩
theorem lp_X2_9 : wc_fpt RX2 9 2 1 true (.array .int) := ⟨RX2, TX2, 14, tyX2, rfl, by decide, wc_Bm (1, 44) rfl rfl, wuX2, tyX2_ok, nmX2, rfl, by decide +kernel, rfl⟩
theorem lp_X2_15 : wc_fpt RX2 15 2 2 true (.array .int) := ⟨RX2, TX2, 14, tyX2, rfl, by decide, wc_Bm (1, 46) rfl rfl, wuX2, tyX2_ok, nmX2, rfl, by decide +kernel, rfl⟩
theorem lp_X2_18 : wc_fpt RX2 18 2 3 true (.array .int) := ⟨RX2, TX2, 14, tyX2, rfl, by decide, wc_Bm (1, 48) rfl rfl, wuX2, tyX2_ok, nmX2, rfl, by decide +kernel, rfl⟩
theorem lp_X2_21 : wc_fpt RX2 21 2 4 true (.array .int) := ⟨RX2, TX2, 14, tyX2, rfl, by decide, wc_Bm (1, 51) rfl rfl, wuX2, tyX2_ok, nmX2, rfl, by decide +kernel, rfl⟩
theorem lp_X2_24 : wc_fpt RX2 24 2 5 true (.array .int) := ⟨RX2, TX2, 14, tyX2, rfl, by decide, wc_Bm (1, 53) rfl rfl, wuX2, tyX2_ok, nmX2, rfl, by decide +kernel, rfl⟩
theorem lp_X2_27 : wc_fpt RX2 27 2 6 true (.array .int) := ⟨RX2, TX2, 14, tyX2, rfl, by decide, wc_Bm (1, 54) rfl rfl, wuX2, tyX2_ok, nmX2, rfl, by decide +kernel, rfl⟩
theorem lp_X2_30 : wc_fpt RX2 30 2 7 true (.array .int) := ⟨RX2, TX2, 14, tyX2, rfl, by decide, wc_Bm (1, 56) rfl rfl, wuX2, tyX2_ok, nmX2, rfl, by decide +kernel, rfl⟩
theorem lp_X2_33 : wc_fpt RX2 33 2 0 false .int := ⟨RX2, TX2, 14, tyX2, rfl, by decide, wc_Bm (1, 40) rfl rfl, wuX2, tyX2_ok, nmX2, rfl, by decide +kernel, rfl⟩
theorem lp_X2_43 : wc_fpt RX2 43 2 8 false .int := ⟨RX2, TX2, 14, tyX2, rfl, by decide, wc_Bm (1, 59) rfl rfl, wuX2, tyX2_ok, nmX2, rfl, by decide +kernel, rfl⟩
theorem lp_X2_46 : wc_fpt RX2 46 2 9 false .int := ⟨RX2, TX2, 14, tyX2, rfl, by decide, wc_Bm (1, 61) rfl rfl, wuX2, tyX2_ok, nmX2, rfl, by decide +kernel, rfl⟩
theorem lp_X2_49 : wc_fpt RX2 49 2 10 false .int := ⟨RX2, TX2, 14, tyX2, rfl, by decide, wc_Bm (1, 63) rfl rfl, wuX2, tyX2_ok, nmX2, rfl, by decide +kernel, rfl⟩
theorem lp_X2_52 : wc_fpt RX2 52 2 11 false .int := ⟨RX2, TX2, 14, tyX2, rfl, by decide, wc_Bm (1, 66) rfl rfl, wuX2, tyX2_ok, nmX2, rfl, by decide +kernel, rfl⟩
theorem lp_X2_55 : wc_fpt RX2 55 2 12 false .int := ⟨RX2, TX2, 14, tyX2, rfl, by decide, wc_Bm (1, 69) rfl rfl, wuX2, tyX2_ok, nmX2, rfl, by decide +kernel, rfl⟩
theorem lp_X2_58 : wc_fpt RX2 58 2 13 false .int := ⟨RX2, TX2, 14, tyX2, rfl, by decide, wc_Bm (1, 72) rfl rfl, wuX2, tyX2_ok, nmX2, rfl, by decide +kernel, rfl⟩
theorem lf_X3_9 : wc_fld RX3 9 3 1 := ⟨RX3, TX3, 2, rfl, by decide, wc_Bm (1, 111) rfl rfl, wuX3⟩
theorem lf_X3_15 : wc_fld RX3 15 3 0 := ⟨RX3, TX3, 2, rfl, by decide, wc_Bm (1, 109) rfl rfl, wuX3⟩
theorem lo_X3_3 : ∀ w ∈ [Cond.methodLink RX3 3 objectInit, .instanceMethod objectInit, .code objectInit ⟨#[0xb1]⟩ 1 none], w ∈ wc_B := wc_Bl [(1, 108), (1, 23), (1, 24)] rfl rfl
theorem lc_X3_19 : wk_S RX3 19 yJ7_fill_53178 cJ7_fill_53178 4 none 2 := ⟨wc_Bl [(2, 114), (2, 108), (1, 11), (2, 109)] rfl rfl, hzc_7, hzv_7, hzd_17⟩
theorem lc_X3_25 : wk_SN RX3 25 yX6_copy "WindCabinet" cX6_copy 2 none 2 := ⟨wc_Bl [(2, 91), (1, 1), (2, 92)] rfl rfl, by decide +kernel, hzc_4, hzv_4, hzd_18⟩
theorem lc_X3_29 : wk_SN RX3 29 yX6_cell "WindCabinet" cX6_cell 2 (some .int) 2 := ⟨wc_Bl [(2, 84), (1, 1), (2, 85)] rfl rfl, by decide +kernel, hzc_4, hzv_4, hzd_22⟩
theorem lc_X3_33 : wk_SN RX3 33 yX6_put "WindCabinet" cX6_put 3 none 3 := ⟨wc_Bl [(2, 69), (1, 1), (2, 70)] rfl rfl, by decide +kernel, hzc_4, hzv_4, hzd_21⟩
theorem lc_X3_41 : wk_SN RX3 41 yX6_numberOf "WindCabinet" cX6_numberOf 3 (some .int) 3 := ⟨wc_Bl [(3, 164), (1, 1), (3, 165)] rfl rfl, by decide +kernel, hzc_4, hzv_4, hzd_9⟩
theorem lc_X3_37 : wk_V RX3 37 yX3_part cX3_part 3 (some .int) 2 := ⟨wc_Bl [(4, 8), (3, 138), (3, 139), (1, 4), (3, 140)] rfl rfl, hzc_11, hzv_11, hzd_8⟩
theorem lc_X3_45 : wk_V RX3 45 yX3_set cX3_set 4 none 3 := ⟨wc_Bl [(3, 47), (3, 48), (3, 49), (1, 4), (3, 50)] rfl rfl, hzc_11, hzv_11, hzd_39⟩
theorem lp_X3_9 : wc_fpt RX3 9 3 1 true (.array .int) := ⟨RX3, TX3, 2, tyX3, rfl, by decide, wc_Bm (1, 111) rfl rfl, wuX3, tyX3_ok, nmX3, rfl, by decide +kernel, rfl⟩
theorem lp_X3_15 : wc_fpt RX3 15 3 0 false .int := ⟨RX3, TX3, 2, tyX3, rfl, by decide, wc_Bm (1, 109) rfl rfl, wuX3, tyX3_ok, nmX3, rfl, by decide +kernel, rfl⟩
theorem lf_X4_9 : wc_fld RX4 9 2 11 := ⟨RX2, TX2, 14, rfl, by decide, wc_Bm (1, 65) rfl rfl, wuX2⟩
theorem lf_X4_15 : wc_fld RX4 15 4 0 := ⟨RX4, TX4, 3, rfl, by decide, wc_Bm (1, 208) rfl rfl, wuX4⟩
theorem lf_X4_18 : wc_fld RX4 18 2 12 := ⟨RX2, TX2, 14, rfl, by decide, wc_Bm (1, 68) rfl rfl, wuX2⟩
theorem lf_X4_21 : wc_fld RX4 21 4 1 := ⟨RX4, TX4, 3, rfl, by decide, wc_Bm (1, 211) rfl rfl, wuX4⟩
theorem lf_X4_22 : wc_fld RX4 22 2 13 := ⟨RX2, TX2, 14, rfl, by decide, wc_Bm (1, 71) rfl rfl, wuX2⟩
theorem lf_X4_25 : wc_fld RX4 25 4 2 := ⟨RX4, TX4, 3, rfl, by decide, wc_Bm (1, 213) rfl rfl, wuX4⟩
theorem lo_X4_3 : ∀ w ∈ [Cond.methodLink RX4 3 objectInit, .instanceMethod objectInit, .code objectInit ⟨#[0xb1]⟩ 1 none], w ∈ wc_B := wc_Bl [(1, 207), (1, 23), (1, 24)] rfl rfl
theorem lc_X4_26 : wk_SN RX4 26 yX6_amount "WindCabinet" cX6_amount 2 (some .int) 2 := ⟨wc_Bl [(3, 178), (1, 1), (3, 179)] rfl rfl, by decide +kernel, hzc_4, hzv_4, hzd_8⟩
theorem lm_X4_30 : ∀ w ∈ [Cond.methodLink RX4 30 Lib.Math.min.name, .static Lib.Math.min.name, .initialized "java/lang/Math", .code Lib.Math.min.name Lib.Math.min.code 2 (some .int)], w ∈ wc_B := wc_Bl [(4, 31), (2, 94), (1, 9), (2, 95)] rfl rfl
theorem lp_X4_15 : wc_fpt RX4 15 4 0 false .int := ⟨RX4, TX4, 3, tyX4, rfl, by decide, wc_Bm (1, 208) rfl rfl, wuX4, tyX4_ok, nmX4, rfl, by decide +kernel, rfl⟩
theorem lp_X4_21 : wc_fpt RX4 21 4 1 false .int := ⟨RX4, TX4, 3, tyX4, rfl, by decide, wc_Bm (1, 211) rfl rfl, wuX4, tyX4_ok, nmX4, rfl, by decide +kernel, rfl⟩
theorem lp_X4_25 : wc_fpt RX4 25 4 2 false .int := ⟨RX4, TX4, 3, tyX4, rfl, by decide, wc_Bm (1, 213) rfl rfl, wuX4, tyX4_ok, nmX4, rfl, by decide +kernel, rfl⟩
theorem lq_X5_22 : Cond.classLink RX5 22 RX2 ∈ wc_B := wc_Bm (1, 31) rfl rfl
theorem lq_X5_28 : Cond.classLink RX5 28 RX3 ∈ wc_B := wc_Bm (1, 33) rfl rfl
theorem lf_X5_9 : wc_fld RX5 9 5 0 := ⟨RX5, TX5, 7, rfl, by decide, wc_Bm (1, 117) rfl rfl, wuX5⟩
theorem lf_X5_15 : wc_fld RX5 15 5 3 := ⟨RX5, TX5, 7, rfl, by decide, wc_Bm (1, 123) rfl rfl, wuX5⟩
theorem lf_X5_19 : wc_fld RX5 19 5 4 := ⟨RX5, TX5, 7, rfl, by decide, wc_Bm (1, 125) rfl rfl, wuX5⟩
theorem lf_X5_24 : wc_fld RX5 24 5 5 := ⟨RX5, TX5, 7, rfl, by decide, wc_Bm (1, 127) rfl rfl, wuX5⟩
theorem lf_X5_30 : wc_fld RX5 30 5 6 := ⟨RX5, TX5, 7, rfl, by decide, wc_Bm (1, 128) rfl rfl, wuX5⟩
theorem lf_X5_40 : wc_fld RX5 40 5 1 := ⟨RX5, TX5, 7, rfl, by decide, wc_Bm (1, 120) rfl rfl, wuX5⟩
theorem lf_X5_43 : wc_fld RX5 43 5 2 := ⟨RX5, TX5, 7, rfl, by decide, wc_Bm (1, 121) rfl rfl, wuX5⟩
theorem lo_X5_3 : ∀ w ∈ [Cond.methodLink RX5 3 objectInit, .instanceMethod objectInit, .code objectInit ⟨#[0xb1]⟩ 1 none], w ∈ wc_B := wc_Bl [(1, 30), (1, 23), (1, 24)] rfl rfl
theorem lc_X5_34 : wk_IN RX5 34 yX2_init "WindCabinet" cX2_init 1 0 := ⟨wc_Bl [(1, 37), (1, 3), (1, 38)] rfl rfl, by decide +kernel, rfl, hzc_9, hzv_9, hzd_5⟩
theorem lc_X5_35 : wk_IN RX5 35 yX3_init "WindCabinet" cX3_init 1 0 := ⟨wc_Bl [(1, 106), (1, 4), (1, 107)] rfl rfl, by decide +kernel, rfl, hzc_11, hzv_11, hzd_5⟩
theorem lc_X5_36 : wk_SN RX5 36 yX6_copy "WindCabinet" cX6_copy 2 none 2 := ⟨wc_Bl [(2, 91), (1, 1), (2, 92)] rfl rfl, by decide +kernel, hzc_4, hzv_4, hzd_18⟩
theorem lc_X5_46 : wk_V RX5 46 yX2_copyRepublic cX2_copyRepublic 2 none 1 := ⟨wc_Bl [(3, 97), (3, 63), (3, 64), (1, 3), (3, 65)] rfl rfl, hzc_9, hzv_9, hzd_23⟩
theorem lc_X5_50 : wk_V RX5 50 yX3_copyRows cX3_copyRows 2 none 1 := ⟨wc_Bl [(3, 98), (3, 72), (3, 73), (1, 4), (3, 74)] rfl rfl, hzc_11, hzv_11, hzd_42⟩
theorem ln_X5_22 : wk_N RX5 22 2 [eI 0, eN, eN, eN, eN, eN, eN, eN, eI 0, eI 0, eI 0, eI 0, eI 0, eI 0] := ⟨RX2, TX2, 14, tyX2, rfl, wc_Bm (1, 31) rfl rfl, wc_Bm (1, 35) rfl rfl, wc_Bm (1, 3) rfl rfl, wuX2, tyX2_ok, rfl, fun G j hj => by rcases (by omega : j = 0 ∨ j = 1 ∨ j = 2 ∨ j = 3 ∨ j = 4 ∨ j = 5 ∨ j = 6 ∨ j = 7 ∨ j = 8 ∨ j = 9 ∨ j = 10 ∨ j = 11 ∨ j = 12 ∨ j = 13) with rfl | rfl | rfl | rfl | rfl | rfl | rfl | rfl | rfl | rfl | rfl | rfl | rfl | rfl <;> rfl⟩
theorem ln_X5_28 : wk_N RX5 28 3 [eI 0, eN] := ⟨RX3, TX3, 2, tyX3, rfl, wc_Bm (1, 33) rfl rfl, wc_Bm (1, 104) rfl rfl, wc_Bm (1, 4) rfl rfl, wuX3, tyX3_ok, rfl, fun G j hj => by rcases (by omega : j = 0 ∨ j = 1) with rfl | rfl <;> rfl⟩
theorem lp_X5_9 : wc_fpt RX5 9 5 0 true (.array .int) := ⟨RX5, TX5, 7, tyX5, rfl, by decide, wc_Bm (1, 117) rfl rfl, wuX5, tyX5_ok, nmX5, rfl, by decide +kernel, rfl⟩
theorem lp_X5_15 : wc_fpt RX5 15 5 3 false .int := ⟨RX5, TX5, 7, tyX5, rfl, by decide, wc_Bm (1, 123) rfl rfl, wuX5, tyX5_ok, nmX5, rfl, by decide +kernel, rfl⟩
theorem lp_X5_19 : wc_fpt RX5 19 5 4 true (.array .int) := ⟨RX5, TX5, 7, tyX5, rfl, by decide, wc_Bm (1, 125) rfl rfl, wuX5, tyX5_ok, nmX5, rfl, by decide +kernel, rfl⟩
theorem lp_X5_24 : wc_fpt RX5 24 5 5 true (.array (.object "WindCabinet$Republic")) := ⟨RX5, TX5, 7, tyX5, rfl, by decide, wc_Bm (1, 127) rfl rfl, wuX5, tyX5_ok, nmX5, rfl, by decide +kernel, rfl⟩
theorem lp_X5_30 : wc_fpt RX5 30 5 6 true (.array (.object "WindCabinet$Rows")) := ⟨RX5, TX5, 7, tyX5, rfl, by decide, wc_Bm (1, 128) rfl rfl, wuX5, tyX5_ok, nmX5, rfl, by decide +kernel, rfl⟩
theorem lp_X5_40 : wc_fpt RX5 40 5 1 false .int := ⟨RX5, TX5, 7, tyX5, rfl, by decide, wc_Bm (1, 120) rfl rfl, wuX5, tyX5_ok, nmX5, rfl, by decide +kernel, rfl⟩
theorem lp_X5_43 : wc_fpt RX5 43 5 2 false .int := ⟨RX5, TX5, 7, tyX5, rfl, by decide, wc_Bm (1, 121) rfl rfl, wuX5, tyX5_ok, nmX5, rfl, by decide +kernel, rfl⟩
theorem lq_X6_7 : Cond.classLink RX6 7 RX5 ∈ wc_B := wc_Bm (1, 25) rfl rfl
theorem lf_X6_10 : wc_fld RX6 10 6 0 := ⟨RX6, TX6, 8, rfl, by decide, wc_Bm (2, 35) rfl rfl, wuX6⟩
theorem lf_X6_16 : wc_fld RX6 16 6 1 := ⟨RX6, TX6, 8, rfl, by decide, wc_Bm (2, 36) rfl rfl, wuX6⟩
theorem lf_X6_23 : wc_fld RX6 23 6 2 := ⟨RX6, TX6, 8, rfl, by decide, wc_Bm (2, 37) rfl rfl, wuX6⟩
theorem lf_X6_30 : wc_fld RX6 30 6 3 := ⟨RX6, TX6, 8, rfl, by decide, wc_Bm (2, 38) rfl rfl, wuX6⟩
theorem lf_X6_37 : wc_fld RX6 37 6 4 := ⟨RX6, TX6, 8, rfl, by decide, wc_Bm (2, 39) rfl rfl, wuX6⟩
theorem lf_X6_41 : wc_fld RX6 41 6 5 := ⟨RX6, TX6, 8, rfl, by decide, wc_Bm (2, 40) rfl rfl, wuX6⟩
theorem lf_X6_45 : wc_fld RX6 45 6 6 := ⟨RX6, TX6, 8, rfl, by decide, wc_Bm (2, 41) rfl rfl, wuX6⟩
theorem lf_X6_48 : wc_fld RX6 48 6 7 := ⟨RX6, TX6, 8, rfl, by decide, wc_Bm (2, 42) rfl rfl, wuX6⟩
theorem lf_X6_51 : wc_fld RX6 51 5 1 := ⟨RX5, TX5, 7, rfl, by decide, wc_Bm (1, 119) rfl rfl, wuX5⟩
theorem lf_X6_59 : wc_fld RX6 59 5 0 := ⟨RX5, TX5, 7, rfl, by decide, wc_Bm (1, 118) rfl rfl, wuX5⟩
theorem lf_X6_70 : wc_fld RX6 70 5 2 := ⟨RX5, TX5, 7, rfl, by decide, wc_Bm (1, 122) rfl rfl, wuX5⟩
theorem lf_X6_73 : wc_fld RX6 73 5 3 := ⟨RX5, TX5, 7, rfl, by decide, wc_Bm (1, 124) rfl rfl, wuX5⟩
theorem lf_X6_79 : wc_fld RX6 79 1 2 := ⟨RX1, TX1, 12, rfl, by decide, wc_Bm (1, 160) rfl rfl, wuX1⟩
theorem lf_X6_80 : wc_fld RX6 80 1 3 := ⟨RX1, TX1, 12, rfl, by decide, wc_Bm (1, 162) rfl rfl, wuX1⟩
theorem lf_X6_85 : wc_fld RX6 85 5 4 := ⟨RX5, TX5, 7, rfl, by decide, wc_Bm (1, 126) rfl rfl, wuX5⟩
theorem lf_X6_96 : wc_fld RX6 96 1 0 := ⟨RX1, TX1, 12, rfl, by decide, wc_Bm (1, 156) rfl rfl, wuX1⟩
theorem lf_X6_110 : wc_fld RX6 110 1 1 := ⟨RX1, TX1, 12, rfl, by decide, wc_Bm (1, 158) rfl rfl, wuX1⟩
theorem lf_X6_132 : wc_fld RX6 132 2 0 := ⟨RX2, TX2, 14, rfl, by decide, wc_Bm (1, 43) rfl rfl, wuX2⟩
theorem lf_X6_135 : wc_fld RX6 135 2 9 := ⟨RX2, TX2, 14, rfl, by decide, wc_Bm (1, 62) rfl rfl, wuX2⟩
theorem lf_X6_138 : wc_fld RX6 138 2 10 := ⟨RX2, TX2, 14, rfl, by decide, wc_Bm (1, 64) rfl rfl, wuX2⟩
theorem lf_X6_141 : wc_fld RX6 141 2 11 := ⟨RX2, TX2, 14, rfl, by decide, wc_Bm (1, 67) rfl rfl, wuX2⟩
theorem lf_X6_144 : wc_fld RX6 144 2 12 := ⟨RX2, TX2, 14, rfl, by decide, wc_Bm (1, 70) rfl rfl, wuX2⟩
theorem lf_X6_147 : wc_fld RX6 147 2 13 := ⟨RX2, TX2, 14, rfl, by decide, wc_Bm (1, 73) rfl rfl, wuX2⟩
theorem lf_X6_150 : wc_fld RX6 150 2 7 := ⟨RX2, TX2, 14, rfl, by decide, wc_Bm (1, 58) rfl rfl, wuX2⟩
theorem lf_X6_157 : wc_fld RX6 157 2 1 := ⟨RX2, TX2, 14, rfl, by decide, wc_Bm (1, 45) rfl rfl, wuX2⟩
theorem lf_X6_160 : wc_fld RX6 160 2 2 := ⟨RX2, TX2, 14, rfl, by decide, wc_Bm (1, 47) rfl rfl, wuX2⟩
theorem lf_X6_163 : wc_fld RX6 163 2 3 := ⟨RX2, TX2, 14, rfl, by decide, wc_Bm (1, 50) rfl rfl, wuX2⟩
theorem lf_X6_166 : wc_fld RX6 166 2 4 := ⟨RX2, TX2, 14, rfl, by decide, wc_Bm (1, 52) rfl rfl, wuX2⟩
theorem lf_X6_169 : wc_fld RX6 169 2 8 := ⟨RX2, TX2, 14, rfl, by decide, wc_Bm (1, 60) rfl rfl, wuX2⟩
theorem lf_X6_176 : wc_fld RX6 176 2 6 := ⟨RX2, TX2, 14, rfl, by decide, wc_Bm (1, 55) rfl rfl, wuX2⟩
theorem lf_X6_189 : wc_fld RX6 189 3 0 := ⟨RX3, TX3, 2, rfl, by decide, wc_Bm (1, 110) rfl rfl, wuX3⟩
theorem lf_X6_235 : wc_fld RX6 235 0 6 := ⟨RX0, TX0, 13, rfl, by decide, wc_Bm (1, 235) rfl rfl, wuX0⟩
theorem lf_X6_238 : wc_fld RX6 238 0 1 := ⟨RX0, TX0, 13, rfl, by decide, wc_Bm (1, 225) rfl rfl, wuX0⟩
theorem lf_X6_241 : wc_fld RX6 241 0 2 := ⟨RX0, TX0, 13, rfl, by decide, wc_Bm (1, 227) rfl rfl, wuX0⟩
theorem lf_X6_244 : wc_fld RX6 244 0 3 := ⟨RX0, TX0, 13, rfl, by decide, wc_Bm (1, 229) rfl rfl, wuX0⟩
theorem lf_X6_247 : wc_fld RX6 247 0 0 := ⟨RX0, TX0, 13, rfl, by decide, wc_Bm (1, 223) rfl rfl, wuX0⟩
theorem lf_X6_248 : wc_fld RX6 248 4 0 := ⟨RX4, TX4, 3, rfl, by decide, wc_Bm (1, 210) rfl rfl, wuX4⟩
theorem lf_X6_249 : wc_fld RX6 249 4 1 := ⟨RX4, TX4, 3, rfl, by decide, wc_Bm (1, 212) rfl rfl, wuX4⟩
theorem lf_X6_250 : wc_fld RX6 250 4 2 := ⟨RX4, TX4, 3, rfl, by decide, wc_Bm (1, 214) rfl rfl, wuX4⟩
theorem lf_X6_251 : wc_fld RX6 251 0 7 := ⟨RX0, TX0, 13, rfl, by decide, wc_Bm (1, 237) rfl rfl, wuX0⟩
theorem lf_X6_258 : wc_fld RX6 258 0 8 := ⟨RX0, TX0, 13, rfl, by decide, wc_Bm (1, 239) rfl rfl, wuX0⟩
theorem lf_X6_261 : wc_fld RX6 261 0 5 := ⟨RX0, TX0, 13, rfl, by decide, wc_Bm (1, 233) rfl rfl, wuX0⟩
theorem lf_X6_262 : wc_fld RX6 262 0 4 := ⟨RX0, TX0, 13, rfl, by decide, wc_Bm (1, 231) rfl rfl, wuX0⟩
theorem lf_X6_269 : wc_fld RX6 269 0 9 := ⟨RX0, TX0, 13, rfl, by decide, wc_Bm (2, 1) rfl rfl, wuX0⟩
theorem lf_X6_272 : wc_fld RX6 272 0 10 := ⟨RX0, TX0, 13, rfl, by decide, wc_Bm (2, 3) rfl rfl, wuX0⟩
theorem ls_X6_303 : Cond.fieldLink RX6 303 RX6 "FACTORIALS" "[I" ∈ wc_B := wc_Bm (4, 124) rfl rfl
theorem lo_X6_1 : ∀ w ∈ [Cond.methodLink RX6 1 objectInit, .instanceMethod objectInit, .code objectInit ⟨#[0xb1]⟩ 1 none], w ∈ wc_B := wc_Bl [(1, 22), (1, 23), (1, 24)] rfl rfl
theorem lc_X6_9 : wk_I RX6 9 yX5_init cX5_init 2 0 := ⟨wc_Bl [(1, 27), (1, 28), (1, 2), (1, 29)] rfl rfl, rfl, hzc_13, hzv_13, hzd_5⟩
theorem lc_X6_22 : wk_IN RX6 22 yX1_init "WindCabinet" cX1_init 1 0 := ⟨wc_Bl [(1, 148), (1, 5), (1, 149)] rfl rfl, by decide +kernel, rfl, hzc_12, hzv_12, hzd_5⟩
theorem lc_X6_29 : wk_IN RX6 29 yX0_init "WindCabinet" cX0_init 1 0 := ⟨wc_Bl [(1, 199), (1, 6), (1, 200)] rfl rfl, by decide +kernel, rfl, hzc_10, hzv_10, hzd_5⟩
theorem lc_X6_36 : wk_IN RX6 36 yX4_init "WindCabinet" cX4_init 1 0 := ⟨wc_Bl [(1, 205), (1, 7), (1, 206)] rfl rfl, by decide +kernel, rfl, hzc_6, hzv_6, hzd_5⟩
theorem lc_X6_62 : wk_S RX6 62 yX6_put cX6_put 3 none 3 := ⟨wc_Bl [(2, 68), (2, 69), (1, 1), (2, 70)] rfl rfl, hzc_4, hzv_4, hzd_21⟩
theorem lc_X6_88 : wk_S RX6 88 yX6_cell cX6_cell 2 (some .int) 2 := ⟨wc_Bl [(2, 83), (2, 84), (1, 1), (2, 85)] rfl rfl, hzc_4, hzv_4, hzd_22⟩
theorem lm_X6_120 : ∀ w ∈ [Cond.methodLink RX6 120 Lib.Math.max.name, .static Lib.Math.max.name, .initialized "java/lang/Math", .code Lib.Math.max.name Lib.Math.max.code 2 (some .int)], w ∈ wc_B := wc_Bl [(3, 76), (3, 77), (1, 9), (3, 78)] rfl rfl
theorem lc_X6_172 : wk_S RX6 172 yX6_has cX6_has 2 (some .boolean) 2 := ⟨wc_Bl [(3, 119), (3, 120), (1, 1), (3, 121)] rfl rfl, hzc_4, hzv_4, hzd_19⟩
theorem lc_X6_185 : wk_S RX6 185 yX6_rowTold cX6_rowTold 4 (some .int) 4 := ⟨wc_Bl [(3, 134), (3, 135), (1, 1), (3, 136)] rfl rfl, hzc_4, hzv_4, hzd_20⟩
theorem lc_X6_193 : wk_S RX6 193 yX6_isSeason cX6_isSeason 1 (some .boolean) 1 := ⟨wc_Bl [(3, 170), (3, 171), (1, 1), (3, 172)] rfl rfl, hzc_4, hzv_4, hzd_16⟩
theorem lc_X6_196 : wk_S RX6 196 yX6_dayOf cX6_dayOf 3 (some .int) 3 := ⟨wc_Bl [(3, 157), (3, 158), (1, 1), (3, 159)] rfl rfl, hzc_4, hzv_4, hzd_9⟩
theorem lc_X6_217 : wk_S RX6 217 yX6_firstBroken cX6_firstBroken 5 (some .int) 4 := ⟨wc_Bl [(3, 213), (3, 214), (1, 1), (3, 215)] rfl rfl, hzc_4, hzv_4, hzd_20⟩
theorem lc_X6_220 : wk_S RX6 220 yX6_isBroken cX6_isBroken 9 (some .boolean) 5 := ⟨wc_Bl [(3, 216), (3, 217), (1, 1), (3, 218)] rfl rfl, hzc_4, hzv_4, hzd_43⟩
theorem lc_X6_224 : wk_S RX6 224 yX6_amount cX6_amount 2 (some .int) 2 := ⟨wc_Bl [(3, 219), (3, 178), (1, 1), (3, 179)] rfl rfl, hzc_4, hzv_4, hzd_8⟩
theorem lc_X6_293 : wk_S RX6 293 yX6_rank cX6_rank 5 (some .int) 2 := ⟨wc_Bl [(4, 113), (4, 114), (1, 1), (4, 115)] rfl rfl, hzc_4, hzv_4, hzd_14⟩
theorem lc_X6_297 : wk_S RX6 297 yX6_numberOf cX6_numberOf 3 (some .int) 3 := ⟨wc_Bl [(3, 163), (3, 164), (1, 1), (3, 165)] rfl rfl, hzc_4, hzv_4, hzd_9⟩
theorem lc_X6_300 : wk_S RX6 300 yX6_rowsDecided cX6_rowsDecided 6 (some .int) 2 := ⟨wc_Bl [(4, 120), (4, 121), (1, 1), (4, 122)] rfl rfl, hzc_4, hzv_4, hzd_44⟩
theorem lc_X6_306 : wk_S RX6 306 yX6_fraction cX6_fraction 4 (some .int) 3 := ⟨wc_Bl [(4, 126), (4, 127), (1, 1), (4, 128)] rfl rfl, hzc_4, hzv_4, hzd_12⟩
theorem lc_X6_310 : wk_S RX6 310 yJ6_bitCount_0f7a4 cJ6_bitCount_0f7a4 1 (some .int) 1 := ⟨wc_Bl [(4, 123), (4, 81), (1, 16), (4, 82)] rfl rfl, hzc_8, hzv_8, hzd_7⟩
theorem lc_X6_315 : wk_S RX6 315 yX6_keyMinisters cX6_keyMinisters 3 (some .int) 1 := ⟨wc_Bl [(4, 136), (4, 137), (1, 1), (4, 138)] rfl rfl, hzc_4, hzv_4, hzd_45⟩
theorem lc_X6_319 : wk_S RX6 319 yX6_leastCoalition cX6_leastCoalition 4 (some .int) 2 := ⟨wc_Bl [(4, 139), (4, 140), (1, 1), (4, 141)] rfl rfl, hzc_4, hzv_4, hzd_44⟩
theorem lc_X6_322 : wk_S RX6 322 yX6_isLeastCoalition cX6_isLeastCoalition 3 (some .boolean) 2 := ⟨wc_Bl [(4, 142), (4, 143), (1, 1), (4, 144)] rfl rfl, hzc_4, hzv_4, hzd_27⟩
theorem lc_X6_326 : wk_S RX6 326 yX6_bribeOf cX6_bribeOf 7 (some .int) 5 := ⟨wc_Bl [(4, 149), (4, 150), (1, 1), (4, 151)] rfl rfl, hzc_4, hzv_4, hzd_46⟩
theorem lc_X6_333 : wk_S RX6 333 yX6_isRest cX6_isRest 7 (some .boolean) 4 := ⟨wc_Bl [(4, 157), (4, 158), (1, 1), (4, 159)] rfl rfl, hzc_4, hzv_4, hzd_47⟩
theorem lc_X6_337 : wk_S RX6 337 yX6_gain cX6_gain 8 (some .int) 5 := ⟨wc_Bl [(4, 160), (4, 161), (1, 1), (4, 162)] rfl rfl, hzc_4, hzv_4, hzd_48⟩
theorem lc_X6_341 : wk_S RX6 341 yX6_boughtBy cX6_boughtBy 6 (some .int) 4 := ⟨wc_Bl [(4, 163), (4, 164), (1, 1), (4, 165)] rfl rfl, hzc_4, hzv_4, hzd_49⟩
theorem lc_X6_345 : wk_S RX6 345 yX6_leavers cX6_leavers 5 (some .int) 3 := ⟨wc_Bl [(4, 170), (4, 171), (1, 1), (4, 172)] rfl rfl, hzc_4, hzv_4, hzd_50⟩
theorem lc_X6_349 : wk_S RX6 349 yX6_sharesOf cX6_sharesOf 5 (some .int) 3 := ⟨wc_Bl [(4, 173), (4, 174), (1, 1), (4, 175)] rfl rfl, hzc_4, hzv_4, hzd_51⟩
theorem lm_X6_366 : ∀ w ∈ [Cond.methodLink RX6 366 Lib.Math.min.name, .static Lib.Math.min.name, .initialized "java/lang/Math", .code Lib.Math.min.name Lib.Math.min.code 2 (some .int)], w ∈ wc_B := wc_Bl [(2, 93), (2, 94), (1, 9), (2, 95)] rfl rfl
theorem lc_X6_382 : wk_S RX6 382 yX6_isFit cX6_isFit 4 (some .boolean) 3 := ⟨wc_Bl [(4, 203), (4, 204), (1, 1), (4, 205)] rfl rfl, hzc_4, hzv_4, hzd_52⟩
theorem lc_X6_389 : wk_S RX6 389 yJ7_fill_53178 cJ7_fill_53178 4 none 2 := ⟨wc_Bl [(4, 220), (2, 108), (1, 11), (2, 109)] rfl rfl, hzc_7, hzv_7, hzd_17⟩
theorem lc_X6_395 : wk_S RX6 395 yX6_wetSeasons cX6_wetSeasons 6 (some .int) 2 := ⟨wc_Bl [(4, 225), (4, 226), (1, 1), (4, 227)] rfl rfl, hzc_4, hzv_4, hzd_44⟩
theorem lc_X6_398 : wk_S RX6 398 yX6_areThere cX6_areThere 3 (some .boolean) 2 := ⟨wc_Bl [(4, 232), (4, 233), (1, 1), (4, 234)] rfl rfl, hzc_4, hzv_4, hzd_53⟩
theorem lc_X6_402 : wk_S RX6 402 yX6_manyFitting cX6_manyFitting 7 (some .int) 5 := ⟨wc_Bl [(4, 235), (4, 236), (1, 1), (4, 237)] rfl rfl, hzc_4, hzv_4, hzd_54⟩
theorem lc_X6_405 : wk_S RX6 405 yX6_likelyRain cX6_likelyRain 6 (some .int) 5 := ⟨wc_Bl [(5, 1), (5, 2), (1, 1), (5, 3)] rfl rfl, hzc_4, hzv_4, hzd_54⟩
theorem lc_X6_408 : wk_S RX6 408 yX6_lies cX6_lies 7 (some .int) 4 := ⟨wc_Bl [(5, 4), (5, 5), (1, 1), (5, 6)] rfl rfl, hzc_4, hzv_4, hzd_55⟩
theorem lc_X6_411 : wk_S RX6 411 yX6_extreme cX6_extreme 9 (some .int) 6 := ⟨wc_Bl [(5, 7), (5, 8), (1, 1), (5, 9)] rfl rfl, hzc_4, hzv_4, hzd_56⟩
theorem lc_X6_415 : wk_S RX6 415 yX6_unfit cX6_unfit 8 (some .int) 5 := ⟨wc_Bl [(4, 238), (4, 239), (1, 1), (5, 0)] rfl rfl, hzc_4, hzv_4, hzd_57⟩
theorem lc_X6_419 : wk_S RX6 419 yX6_isAmount cX6_isAmount 1 (some .boolean) 1 := ⟨wc_Bl [(3, 160), (3, 161), (1, 1), (3, 162)] rfl rfl, hzc_4, hzv_4, hzd_16⟩
theorem lm_X6_422 : ∀ w ∈ [Cond.methodLink RX6 422 arraycopyName, .native arraycopyName, .static arraycopyName, .initialized "java/lang/System"], w ∈ wc_B := wc_Bl [(2, 96), (2, 98), (2, 97), (1, 10)] rfl rfl
theorem lc_X6_428 : wk_S RX6 428 yX6_commonDivisor cX6_commonDivisor 6 (some .int) 2 := ⟨wc_Bl [(4, 129), (4, 130), (1, 1), (4, 131)] rfl rfl, hzc_4, hzv_4, hzd_8⟩
theorem lc_X6_55 : wk_V RX6 55 yX6_feedNumber cX6_feedNumber 3 none 1 := ⟨wc_Bl [(2, 64), (2, 66), (11, 0), (1, 1), (2, 67)] rfl rfl, hzc_4, hzv_4, hzd_28⟩
theorem lc_X6_66 : wk_V RX6 66 yX6_placeFor cX6_placeFor 4 (some .int) 2 := ⟨wc_Bl [(2, 79), (2, 81), (11, 1), (1, 1), (2, 82)] rfl rfl, hzc_4, hzv_4, hzd_8⟩
theorem lc_X6_76 : wk_V RX6 76 yX1_read cX1_read 6 none 3 := ⟨wc_Bl [(2, 86), (2, 87), (2, 88), (1, 5), (2, 89)] rfl rfl, hzc_12, hzv_12, hzd_21⟩
theorem lc_X6_81 : wk_V RX6 81 yX6_keep cX6_keep 4 none 2 := ⟨wc_Bl [(3, 54), (3, 56), (12, 2), (1, 1), (3, 57)] rfl rfl, hzc_4, hzv_4, hzd_4⟩
theorem lc_X6_92 : wk_V RX6 92 yX5_republicKept cX5_republicKept 2 (some (.object "WindCabinet$Republic")) 1 := ⟨wc_Bl [(3, 58), (3, 59), (3, 60), (1, 2), (3, 61)] rfl rfl, hzc_13, hzv_13, hzd_58⟩
theorem lc_X6_100 : wk_V RX6 100 yX2_copyRepublic cX2_copyRepublic 2 none 1 := ⟨wc_Bl [(3, 62), (3, 63), (3, 64), (1, 3), (3, 65)] rfl rfl, hzc_9, hzv_9, hzd_23⟩
theorem lc_X6_106 : wk_V RX6 106 yX5_rowsKept cX5_rowsKept 4 (some (.object "WindCabinet$Rows")) 2 := ⟨wc_Bl [(3, 67), (3, 68), (3, 69), (1, 2), (3, 70)] rfl rfl, hzc_13, hzv_13, hzd_59⟩
theorem lc_X6_114 : wk_V RX6 114 yX3_copyRows cX3_copyRows 2 none 1 := ⟨wc_Bl [(3, 71), (3, 72), (3, 73), (1, 4), (3, 74)] rfl rfl, hzc_11, hzv_11, hzd_42⟩
theorem lc_X6_125 : wk_V RX6 125 yX5_copyTold cX5_copyTold 3 none 1 := ⟨wc_Bl [(3, 92), (3, 93), (3, 94), (1, 2), (3, 95)] rfl rfl, hzc_13, hzv_13, hzd_60⟩
theorem lc_X6_129 : wk_V RX6 129 yX6_republicAt cX6_republicAt 2 (some (.object "WindCabinet$Republic")) 1 := ⟨wc_Bl [(3, 107), (3, 109), (12, 3), (1, 1), (3, 110)] rfl rfl, hzc_4, hzv_4, hzd_58⟩
theorem lc_X6_153 : wk_V RX6 153 yX2_isMinister cX2_isMinister 2 (some .boolean) 1 := ⟨wc_Bl [(3, 115), (3, 116), (3, 117), (1, 3), (3, 118)] rfl rfl, hzc_9, hzv_9, hzd_16⟩
theorem lc_X6_179 : wk_V RX6 179 yX2_want cX2_want 3 (some .int) 2 := ⟨wc_Bl [(3, 122), (3, 123), (3, 124), (1, 3), (3, 125)] rfl rfl, hzc_9, hzv_9, hzd_8⟩
theorem lc_X6_182 : wk_V RX6 182 yX6_rowsAt cX6_rowsAt 3 (some (.object "WindCabinet$Rows")) 2 := ⟨wc_Bl [(3, 130), (3, 132), (12, 4), (1, 1), (3, 133)] rfl rfl, hzc_4, hzv_4, hzd_59⟩
theorem lc_X6_190 : wk_V RX6 190 yX3_part cX3_part 3 (some .int) 2 := ⟨wc_Bl [(3, 137), (3, 138), (3, 139), (1, 4), (3, 140)] rfl rfl, hzc_11, hzv_11, hzd_8⟩
theorem lc_X6_200 : wk_V RX6 200 yX6_movedIn cX6_movedIn 6 (some (.object "WindCabinet$Republic")) 4 := ⟨wc_Bl [(3, 166), (3, 168), (12, 5), (1, 1), (3, 169)] rfl rfl, hzc_4, hzv_4, hzd_61⟩
theorem lc_X6_204 : wk_V RX6 204 yX2_distance cX2_distance 7 (some .int) 3 := ⟨wc_Bl [(3, 173), (3, 174), (3, 175), (1, 3), (3, 176)] rfl rfl, hzc_9, hzv_9, hzd_9⟩
theorem lc_X6_207 : wk_V RX6 207 yX2_agreeing cX2_agreeing 6 (some .int) 3 := ⟨wc_Bl [(3, 187), (3, 188), (3, 189), (1, 3), (3, 190)] rfl rfl, hzc_9, hzv_9, hzd_9⟩
theorem lc_X6_210 : wk_V RX6 210 yX2_everybody cX2_everybody 1 (some .int) 0 := ⟨wc_Bl [(3, 197), (3, 198), (3, 199), (1, 3), (3, 200)] rfl rfl, hzc_9, hzv_9, hzd_24⟩
theorem lc_X6_214 : wk_V RX6 214 yX2_isPassed cX2_isPassed 3 (some .boolean) 2 := ⟨wc_Bl [(3, 201), (3, 202), (3, 203), (1, 3), (3, 204)] rfl rfl, hzc_9, hzv_9, hzd_19⟩
theorem lc_X6_227 : wk_V RX6 227 yX0_run cX0_run 6 (some .int) 4 := ⟨wc_Bl [(3, 224), (3, 225), (3, 226), (1, 6), (3, 227)] rfl rfl, hzc_10, hzv_10, hzd_62⟩
theorem lc_X6_231 : wk_V RX6 231 yX6_stateTold cX6_stateTold 3 (some .int) 2 := ⟨wc_Bl [(4, 63), (4, 65), (12, 15), (1, 1), (4, 66)] rfl rfl, hzc_4, hzv_4, hzd_44⟩
theorem lc_X6_254 : wk_V RX6 254 yX2_votesOf cX2_votesOf 4 (some .int) 1 := ⟨wc_Bl [(4, 67), (3, 206), (3, 207), (1, 3), (3, 208)] rfl rfl, hzc_9, hzv_9, hzd_7⟩
theorem lc_X6_265 : wk_V RX6 265 yX0_draw cX0_draw 5 none 3 := ⟨wc_Bl [(4, 72), (4, 73), (4, 74), (1, 6), (4, 75)] rfl rfl, hzc_10, hzv_10, hzd_26⟩
theorem lc_X6_275 : wk_V RX6 275 yX6_manyAgreed cX6_manyAgreed 7 (some .int) 4 := ⟨wc_Bl [(4, 99), (4, 101), (13, 3), (1, 1), (4, 102)] rfl rfl, hzc_4, hzv_4, hzd_55⟩
theorem lc_X6_279 : wk_V RX6 279 yX6_bestAgreed cX6_bestAgreed 9 (some .int) 5 := ⟨wc_Bl [(4, 109), (4, 111), (13, 5), (1, 1), (4, 112)] rfl rfl, hzc_4, hzv_4, hzd_54⟩
theorem lc_X6_283 : wk_V RX6 283 yX4_settle cX4_settle 2 none 1 := ⟨wc_Bl [(4, 107), (3, 233), (3, 234), (1, 7), (3, 235)] rfl rfl, hzc_6, hzv_6, hzd_23⟩
theorem lc_X6_286 : wk_V RX6 286 yX4_can cX4_can 3 (some .boolean) 1 := ⟨wc_Bl [(4, 108), (4, 12), (4, 13), (1, 7), (4, 14)] rfl rfl, hzc_6, hzv_6, hzd_16⟩
theorem lc_X6_289 : wk_V RX6 289 yX6_isAgreed cX6_isAgreed 6 (some .boolean) 5 := ⟨wc_Bl [(4, 103), (4, 105), (13, 4), (1, 1), (4, 106)] rfl rfl, hzc_4, hzv_4, hzd_63⟩
theorem lc_X6_330 : wk_V RX6 330 yX2_patience cX2_patience 3 (some .int) 2 := ⟨wc_Bl [(4, 152), (3, 193), (3, 194), (1, 3), (3, 195)] rfl rfl, hzc_9, hzv_9, hzd_8⟩
theorem lc_X6_353 : wk_V RX6 353 yX6_firstWrong cX6_firstWrong 5 (some .int) 2 := ⟨wc_Bl [(4, 180), (4, 182), (13, 6), (1, 1), (4, 183)] rfl rfl, hzc_4, hzv_4, hzd_64⟩
theorem lc_X6_357 : wk_V RX6 357 yX6_mend cX6_mend 8 (some .int) 2 := ⟨wc_Bl [(4, 186), (4, 188), (13, 7), (1, 1), (4, 189)] rfl rfl, hzc_4, hzv_4, hzd_64⟩
theorem lc_X6_360 : wk_V RX6 360 yX3_dayFrom cX3_dayFrom 3 (some .int) 2 := ⟨wc_Bl [(4, 184), (4, 5), (4, 6), (1, 4), (4, 7)] rfl rfl, hzc_11, hzv_11, hzd_8⟩
theorem lc_X6_363 : wk_V RX6 363 yX4_bring cX4_bring 4 none 1 := ⟨wc_Bl [(4, 185), (4, 28), (4, 29), (1, 7), (4, 30)] rfl rfl, hzc_6, hzv_6, hzd_28⟩
theorem lc_X6_369 : wk_V RX6 369 yX6_findFitting cX6_findFitting 5 (some .int) 2 := ⟨wc_Bl [(4, 194), (4, 196), (13, 8), (1, 1), (4, 197)] rfl rfl, hzc_4, hzv_4, hzd_64⟩
theorem lc_X6_372 : wk_V RX6 372 yX6_tellingSeason cX6_tellingSeason 5 (some .int) 2 := ⟨wc_Bl [(4, 212), (4, 214), (13, 9), (1, 1), (4, 215)] rfl rfl, hzc_4, hzv_4, hzd_44⟩
theorem lc_X6_375 : wk_V RX6 375 yX6_unlikeProposals cX6_unlikeProposals 7 (some .int) 3 := ⟨wc_Bl [(4, 216), (4, 218), (13, 10), (1, 1), (4, 219)] rfl rfl, hzc_4, hzv_4, hzd_65⟩
theorem lc_X6_379 : wk_V RX6 379 yX2_areSeats cX2_areSeats 5 (some .boolean) 1 := ⟨wc_Bl [(4, 198), (4, 199), (4, 200), (1, 3), (4, 201)] rfl rfl, hzc_9, hzv_9, hzd_16⟩
theorem lc_X6_386 : wk_V RX6 386 yX2_proposal cX2_proposal 4 (some .int) 2 := ⟨wc_Bl [(4, 206), (4, 207), (4, 208), (1, 3), (4, 209)] rfl rfl, hzc_9, hzv_9, hzd_8⟩
theorem ln_X6_7 : wk_N RX6 7 5 [eN, eI 0, eI 0, eI 0, eN, eN, eN] := ⟨RX5, TX5, 7, tyX5, rfl, wc_Bm (1, 25) rfl rfl, wc_Bm (1, 26) rfl rfl, wc_Bm (1, 2) rfl rfl, wuX5, tyX5_ok, rfl, fun G j hj => by rcases (by omega : j = 0 ∨ j = 1 ∨ j = 2 ∨ j = 3 ∨ j = 4 ∨ j = 5 ∨ j = 6) with rfl | rfl | rfl | rfl | rfl | rfl | rfl <;> rfl⟩
theorem ln_X6_20 : wk_N RX6 20 1 [eN, eN, eI 0, eI 0, eN, eN, eI 0, eI 0, eI 0, eI 0, eI 0, eI 0] := ⟨RX1, TX1, 12, tyX1, rfl, wc_Bm (1, 145) rfl rfl, wc_Bm (1, 146) rfl rfl, wc_Bm (1, 5) rfl rfl, wuX1, tyX1_ok, rfl, fun G j hj => by rcases (by omega : j = 0 ∨ j = 1 ∨ j = 2 ∨ j = 3 ∨ j = 4 ∨ j = 5 ∨ j = 6 ∨ j = 7 ∨ j = 8 ∨ j = 9 ∨ j = 10 ∨ j = 11) with rfl | rfl | rfl | rfl | rfl | rfl | rfl | rfl | rfl | rfl | rfl | rfl <;> rfl⟩
theorem ln_X6_27 : wk_N RX6 27 0 [eN, eI 0, eI 0, eI 0, eN, eN, eI 0, eI 0, eI 0, eI 0, eI 0, eI 0, eI 0] := ⟨RX0, TX0, 13, tyX0, rfl, wc_Bm (1, 196) rfl rfl, wc_Bm (1, 197) rfl rfl, wc_Bm (1, 6) rfl rfl, wuX0, tyX0_ok, rfl, fun G j hj => by rcases (by omega : j = 0 ∨ j = 1 ∨ j = 2 ∨ j = 3 ∨ j = 4 ∨ j = 5 ∨ j = 6 ∨ j = 7 ∨ j = 8 ∨ j = 9 ∨ j = 10 ∨ j = 11 ∨ j = 12) with rfl | rfl | rfl | rfl | rfl | rfl | rfl | rfl | rfl | rfl | rfl | rfl | rfl <;> rfl⟩
theorem ln_X6_34 : wk_N RX6 34 4 [eI 0, eI 0, eI 0] := ⟨RX4, TX4, 3, tyX4, rfl, wc_Bm (2, 33) rfl rfl, wc_Bm (1, 203) rfl rfl, wc_Bm (1, 7) rfl rfl, wuX4, tyX4_ok, rfl, fun G j hj => by rcases (by omega : j = 0 ∨ j = 1 ∨ j = 2) with rfl | rfl | rfl <;> rfl⟩
theorem lp_X6_10 : wc_fpt RX6 10 6 0 true (.object "WindCabinet$Told") := ⟨RX6, TX6, 8, tyX6, rfl, by decide, wc_Bm (2, 35) rfl rfl, wuX6, tyX6_ok, nmX6, rfl, by decide +kernel, rfl⟩
theorem lp_X6_16 : wc_fpt RX6 16 6 1 true (.array (.object "WindCabinet$Told")) := ⟨RX6, TX6, 8, tyX6, rfl, by decide, wc_Bm (2, 36) rfl rfl, wuX6, tyX6_ok, nmX6, rfl, by decide +kernel, rfl⟩
theorem lp_X6_23 : wc_fpt RX6 23 6 2 true (.object "WindCabinet$Reader") := ⟨RX6, TX6, 8, tyX6, rfl, by decide, wc_Bm (2, 37) rfl rfl, wuX6, tyX6_ok, nmX6, rfl, by decide +kernel, rfl⟩
theorem lp_X6_30 : wc_fpt RX6 30 6 3 true (.object "WindCabinet$Course") := ⟨RX6, TX6, 8, tyX6, rfl, by decide, wc_Bm (2, 38) rfl rfl, wuX6, tyX6_ok, nmX6, rfl, by decide +kernel, rfl⟩
theorem lp_X6_37 : wc_fpt RX6 37 6 4 true (.object "WindCabinet$Sky") := ⟨RX6, TX6, 8, tyX6, rfl, by decide, wc_Bm (2, 39) rfl rfl, wuX6, tyX6_ok, nmX6, rfl, by decide +kernel, rfl⟩
theorem lp_X6_41 : wc_fpt RX6 41 6 5 true (.array .int) := ⟨RX6, TX6, 8, tyX6, rfl, by decide, wc_Bm (2, 40) rfl rfl, wuX6, tyX6_ok, nmX6, rfl, by decide +kernel, rfl⟩
theorem lp_X6_45 : wc_fpt RX6 45 6 6 true (.array .int) := ⟨RX6, TX6, 8, tyX6, rfl, by decide, wc_Bm (2, 41) rfl rfl, wuX6, tyX6_ok, nmX6, rfl, by decide +kernel, rfl⟩
theorem lp_X6_48 : wc_fpt RX6 48 6 7 true (.array .int) := ⟨RX6, TX6, 8, tyX6, rfl, by decide, wc_Bm (2, 42) rfl rfl, wuX6, tyX6_ok, nmX6, rfl, by decide +kernel, rfl⟩
theorem lp_X6_51 : wc_fpt RX6 51 5 1 false .int := ⟨RX5, TX5, 7, tyX5, rfl, by decide, wc_Bm (1, 119) rfl rfl, wuX5, tyX5_ok, nmX5, rfl, by decide +kernel, rfl⟩
theorem lp_X6_70 : wc_fpt RX6 70 5 2 false .int := ⟨RX5, TX5, 7, tyX5, rfl, by decide, wc_Bm (1, 122) rfl rfl, wuX5, tyX5_ok, nmX5, rfl, by decide +kernel, rfl⟩
theorem lp_X6_73 : wc_fpt RX6 73 5 3 false .int := ⟨RX5, TX5, 7, tyX5, rfl, by decide, wc_Bm (1, 124) rfl rfl, wuX5, tyX5_ok, nmX5, rfl, by decide +kernel, rfl⟩
theorem lf_X7_7 : wc_fld RX7 7 7 0 := ⟨RX7, TX7, 35, rfl, by decide, wc_Bm (5, 16) rfl rfl, wuX7⟩
theorem lf_X7_13 : wc_fld RX7 13 7 1 := ⟨RX7, TX7, 35, rfl, by decide, wc_Bm (5, 17) rfl rfl, wuX7⟩
theorem lf_X7_17 : wc_fld RX7 17 7 10 := ⟨RX7, TX7, 35, rfl, by decide, wc_Bm (5, 26) rfl rfl, wuX7⟩
theorem lf_X7_20 : wc_fld RX7 20 7 27 := ⟨RX7, TX7, 35, rfl, by decide, wc_Bm (5, 43) rfl rfl, wuX7⟩
theorem lf_X7_23 : wc_fld RX7 23 7 28 := ⟨RX7, TX7, 35, rfl, by decide, wc_Bm (5, 44) rfl rfl, wuX7⟩
theorem lf_X7_26 : wc_fld RX7 26 7 31 := ⟨RX7, TX7, 35, rfl, by decide, wc_Bm (5, 47) rfl rfl, wuX7⟩
theorem lf_X7_29 : wc_fld RX7 29 7 32 := ⟨RX7, TX7, 35, rfl, by decide, wc_Bm (5, 48) rfl rfl, wuX7⟩
theorem lf_X7_32 : wc_fld RX7 32 7 2 := ⟨RX7, TX7, 35, rfl, by decide, wc_Bm (5, 18) rfl rfl, wuX7⟩
theorem lf_X7_53 : wc_fld RX7 53 7 3 := ⟨RX7, TX7, 35, rfl, by decide, wc_Bm (5, 19) rfl rfl, wuX7⟩
theorem lf_X7_60 : wc_fld RX7 60 7 4 := ⟨RX7, TX7, 35, rfl, by decide, wc_Bm (5, 20) rfl rfl, wuX7⟩
theorem lf_X7_63 : wc_fld RX7 63 7 5 := ⟨RX7, TX7, 35, rfl, by decide, wc_Bm (5, 21) rfl rfl, wuX7⟩
theorem lf_X7_77 : wc_fld RX7 77 7 7 := ⟨RX7, TX7, 35, rfl, by decide, wc_Bm (5, 23) rfl rfl, wuX7⟩
theorem lf_X7_83 : wc_fld RX7 83 7 6 := ⟨RX7, TX7, 35, rfl, by decide, wc_Bm (5, 22) rfl rfl, wuX7⟩
theorem lf_X7_86 : wc_fld RX7 86 7 8 := ⟨RX7, TX7, 35, rfl, by decide, wc_Bm (5, 24) rfl rfl, wuX7⟩
theorem lf_X7_111 : wc_fld RX7 111 7 9 := ⟨RX7, TX7, 35, rfl, by decide, wc_Bm (5, 25) rfl rfl, wuX7⟩
theorem lf_X7_175 : wc_fld RX7 175 7 11 := ⟨RX7, TX7, 35, rfl, by decide, wc_Bm (5, 27) rfl rfl, wuX7⟩
theorem lf_X7_196 : wc_fld RX7 196 7 12 := ⟨RX7, TX7, 35, rfl, by decide, wc_Bm (5, 28) rfl rfl, wuX7⟩
theorem lf_X7_199 : wc_fld RX7 199 7 13 := ⟨RX7, TX7, 35, rfl, by decide, wc_Bm (5, 29) rfl rfl, wuX7⟩
theorem lf_X7_202 : wc_fld RX7 202 7 14 := ⟨RX7, TX7, 35, rfl, by decide, wc_Bm (5, 30) rfl rfl, wuX7⟩
theorem lf_X7_205 : wc_fld RX7 205 7 16 := ⟨RX7, TX7, 35, rfl, by decide, wc_Bm (5, 32) rfl rfl, wuX7⟩
theorem lf_X7_214 : wc_fld RX7 214 7 15 := ⟨RX7, TX7, 35, rfl, by decide, wc_Bm (5, 31) rfl rfl, wuX7⟩
theorem lf_X7_226 : wc_fld RX7 226 7 18 := ⟨RX7, TX7, 35, rfl, by decide, wc_Bm (5, 34) rfl rfl, wuX7⟩
theorem lf_X7_251 : wc_fld RX7 251 7 17 := ⟨RX7, TX7, 35, rfl, by decide, wc_Bm (5, 33) rfl rfl, wuX7⟩
theorem lf_X7_272 : wc_fld RX7 272 7 19 := ⟨RX7, TX7, 35, rfl, by decide, wc_Bm (5, 35) rfl rfl, wuX7⟩
theorem lf_X7_275 : wc_fld RX7 275 7 20 := ⟨RX7, TX7, 35, rfl, by decide, wc_Bm (5, 36) rfl rfl, wuX7⟩
theorem lf_X7_278 : wc_fld RX7 278 7 21 := ⟨RX7, TX7, 35, rfl, by decide, wc_Bm (5, 37) rfl rfl, wuX7⟩
theorem lf_X7_281 : wc_fld RX7 281 7 22 := ⟨RX7, TX7, 35, rfl, by decide, wc_Bm (5, 38) rfl rfl, wuX7⟩
theorem lf_X7_284 : wc_fld RX7 284 7 23 := ⟨RX7, TX7, 35, rfl, by decide, wc_Bm (5, 39) rfl rfl, wuX7⟩
theorem lf_X7_287 : wc_fld RX7 287 7 24 := ⟨RX7, TX7, 35, rfl, by decide, wc_Bm (5, 40) rfl rfl, wuX7⟩
theorem lf_X7_290 : wc_fld RX7 290 7 25 := ⟨RX7, TX7, 35, rfl, by decide, wc_Bm (5, 41) rfl rfl, wuX7⟩
theorem lf_X7_293 : wc_fld RX7 293 7 26 := ⟨RX7, TX7, 35, rfl, by decide, wc_Bm (5, 42) rfl rfl, wuX7⟩
theorem lf_X7_305 : wc_fld RX7 305 7 29 := ⟨RX7, TX7, 35, rfl, by decide, wc_Bm (5, 45) rfl rfl, wuX7⟩
theorem lf_X7_381 : wc_fld RX7 381 7 30 := ⟨RX7, TX7, 35, rfl, by decide, wc_Bm (5, 46) rfl rfl, wuX7⟩
theorem lf_X7_426 : wc_fld RX7 426 7 33 := ⟨RX7, TX7, 35, rfl, by decide, wc_Bm (5, 49) rfl rfl, wuX7⟩
theorem lf_X7_444 : wc_fld RX7 444 7 34 := ⟨RX7, TX7, 35, rfl, by decide, wc_Bm (5, 50) rfl rfl, wuX7⟩
theorem lo_X7_1 : ∀ w ∈ [Cond.methodLink RX7 1 objectInit, .instanceMethod objectInit, .code objectInit ⟨#[0xb1]⟩ 1 none], w ∈ wc_B := wc_Bl [(5, 15), (1, 23), (1, 24)] rfl rfl
theorem lc_X7_36 : wk_S RX7 36 yX7_four cX7_four 4 (some .long) 4 := ⟨wc_Bl [(5, 165), (5, 166), (1, 8), (5, 167)] rfl rfl, hzc_5, hzv_5, hzd_66⟩
theorem lc_X7_42 : wk_S RX7 42 yX7_eight cX7_eight 8 (some .long) 8 := ⟨wc_Bl [(5, 162), (5, 163), (1, 8), (5, 164)] rfl rfl, hzc_5, hzv_5, hzd_67⟩
theorem lc_X7_46 : wk_S RX7 46 yX7_kindOrSeason cX7_kindOrSeason 2 (some .int) 1 := ⟨wc_Bl [(5, 169), (5, 170), (1, 8), (5, 171)] rfl rfl, hzc_5, hzv_5, hzd_68⟩
theorem lc_X7_50 : wk_S RX7 50 yX7_otherWord cX7_otherWord 2 (some .int) 1 := ⟨wc_Bl [(5, 172), (5, 173), (1, 8), (5, 174)] rfl rfl, hzc_5, hzv_5, hzd_68⟩
theorem lc_X7_66 : wk_S RX7 66 yX7_isLetter cX7_isLetter 1 (some .boolean) 1 := ⟨wc_Bl [(5, 154), (5, 155), (1, 8), (5, 156)] rfl rfl, hzc_5, hzv_5, hzd_16⟩
theorem lc_X7_74 : wk_S RX7 74 yX7_wordOf cX7_wordOf 2 (some .int) 1 := ⟨wc_Bl [(5, 159), (5, 160), (1, 8), (5, 161)] rfl rfl, hzc_5, hzv_5, hzd_68⟩
theorem lc_X7_80 : wk_S RX7 80 yX7_isDigit cX7_isDigit 1 (some .boolean) 1 := ⟨wc_Bl [(5, 175), (5, 176), (1, 8), (5, 177)] rfl rfl, hzc_5, hzv_5, hzd_16⟩
theorem lc_X7_93 : wk_S RX7 93 yX7_isIn cX7_isIn 3 (some .boolean) 3 := ⟨wc_Bl [(5, 135), (5, 136), (1, 8), (5, 137)] rfl rfl, hzc_5, hzv_5, hzd_69⟩
theorem lc_X7_169 : wk_S RX7 169 yX7_sizeOf cX7_sizeOf 1 (some .int) 1 := ⟨wc_Bl [(6, 14), (6, 15), (1, 8), (6, 16)] rfl rfl, hzc_5, hzv_5, hzd_7⟩
theorem lc_X7_172 : wk_S RX7 172 yX7_placeOf cX7_placeOf 2 (some .int) 2 := ⟨wc_Bl [(6, 17), (6, 18), (1, 8), (6, 19)] rfl rfl, hzc_5, hzv_5, hzd_8⟩
theorem lc_X7_212 : wk_S RX7 212 yX7_size cX7_size 1 (some .int) 1 := ⟨wc_Bl [(6, 79), (6, 80), (1, 8), (6, 81)] rfl rfl, hzc_5, hzv_5, hzd_7⟩
theorem lc_X7_235 : wk_S RX7 235 yX7_areAmounts cX7_areAmounts 3 (some .boolean) 3 := ⟨wc_Bl [(6, 64), (6, 65), (1, 8), (6, 66)] rfl rfl, hzc_5, hzv_5, hzd_69⟩
theorem lc_X7_263 : wk_S RX7 263 yX7_amountOf cX7_amountOf 2 (some .int) 2 := ⟨wc_Bl [(6, 138), (6, 139), (1, 8), (6, 140)] rfl rfl, hzc_5, hzv_5, hzd_8⟩
theorem lc_X7_340 : wk_S RX7 340 yX7_rank cX7_rank 5 (some .int) 2 := ⟨wc_Bl [(6, 209), (6, 210), (1, 8), (6, 211)] rfl rfl, hzc_5, hzv_5, hzd_14⟩
theorem lc_X7_344 : wk_S RX7 344 yX7_common cX7_common 5 (some .int) 2 := ⟨wc_Bl [(6, 233), (6, 234), (1, 8), (6, 235)] rfl rfl, hzc_5, hzv_5, hzd_8⟩
theorem lc_X7_353 : wk_S RX7 353 yX7_bits cX7_bits 3 (some .int) 1 := ⟨wc_Bl [(6, 224), (6, 225), (1, 8), (6, 226)] rfl rfl, hzc_5, hzv_5, hzd_7⟩
theorem lc_X7_356 : wk_S RX7 356 yX7_factorial cX7_factorial 3 (some .int) 1 := ⟨wc_Bl [(6, 227), (6, 228), (1, 8), (6, 229)] rfl rfl, hzc_5, hzv_5, hzd_7⟩
theorem lc_X7_359 : wk_S RX7 359 yX7_part cX7_part 3 (some .int) 3 := ⟨wc_Bl [(6, 230), (6, 231), (1, 8), (6, 232)] rfl rfl, hzc_5, hzv_5, hzd_12⟩
theorem lc_X7_56 : wk_V RX7 56 yX7_byteAt cX7_byteAt 2 (some .int) 1 := ⟨wc_Bl [(5, 150), (5, 152), (13, 14), (1, 8), (5, 153)] rfl rfl, hzc_5, hzv_5, hzd_7⟩
theorem lc_X7_90 : wk_V RX7 90 yX7_ends cX7_ends 1 none 0 := ⟨wc_Bl [(5, 186), (5, 188), (14, 1), (1, 8), (5, 189)] rfl rfl, hzc_5, hzv_5, hzd_5⟩
theorem lc_X7_97 : wk_V RX7 97 yX7_also cX7_also 3 none 2 := ⟨wc_Bl [(5, 194), (5, 196), (14, 3), (1, 8), (5, 197)] rfl rfl, hzc_5, hzv_5, hzd_4⟩
theorem lc_X7_101 : wk_V RX7 101 yX7_advance cX7_advance 4 none 0 := ⟨wc_Bl [(5, 146), (5, 148), (13, 13), (1, 8), (5, 149)] rfl rfl, hzc_5, hzv_5, hzd_5⟩
theorem lc_X7_104 : wk_V RX7 104 yX7_takes cX7_takes 4 (some .int) 2 := ⟨wc_Bl [(5, 182), (5, 184), (14, 0), (1, 8), (5, 185)] rfl rfl, hzc_5, hzv_5, hzd_8⟩
theorem lc_X7_108 : wk_V RX7 108 yX7_numbered cX7_numbered 4 (some .int) 2 := ⟨wc_Bl [(5, 198), (5, 200), (14, 4), (1, 8), (5, 201)] rfl rfl, hzc_5, hzv_5, hzd_8⟩
theorem lc_X7_114 : wk_V RX7 114 yX7_ministerTold cX7_ministerTold 2 (some .int) 0 := ⟨wc_Bl [(5, 206), (5, 208), (14, 6), (1, 8), (5, 209)] rfl rfl, hzc_5, hzv_5, hzd_24⟩
theorem lc_X7_118 : wk_V RX7 118 yX7_seasonTold cX7_seasonTold 1 (some .int) 0 := ⟨wc_Bl [(5, 210), (5, 212), (14, 7), (1, 8), (5, 213)] rfl rfl, hzc_5, hzv_5, hzd_24⟩
theorem lc_X7_121 : wk_V RX7 121 yX7_ministerLine cX7_ministerLine 8 none 1 := ⟨wc_Bl [(5, 190), (5, 192), (14, 2), (1, 8), (5, 193)] rfl rfl, hzc_5, hzv_5, hzd_28⟩
theorem lc_X7_125 : wk_V RX7 125 yX7_wantLine cX7_wantLine 5 none 0 := ⟨wc_Bl [(5, 202), (5, 204), (14, 5), (1, 8), (5, 205)] rfl rfl, hzc_5, hzv_5, hzd_5⟩
theorem lc_X7_128 : wk_V RX7 128 yX7_feudLine cX7_feudLine 3 none 0 := ⟨wc_Bl [(5, 214), (5, 216), (14, 8), (1, 8), (5, 217)] rfl rfl, hzc_5, hzv_5, hzd_5⟩
theorem lc_X7_131 : wk_V RX7 131 yX7_kindTold cX7_kindTold 1 (some .int) 0 := ⟨wc_Bl [(5, 218), (5, 220), (14, 9), (1, 8), (5, 221)] rfl rfl, hzc_5, hzv_5, hzd_24⟩
theorem lc_X7_134 : wk_V RX7 134 yX7_endsLine cX7_endsLine 1 none 0 := ⟨wc_Bl [(5, 222), (5, 224), (14, 10), (1, 8), (5, 225)] rfl rfl, hzc_5, hzv_5, hzd_5⟩
theorem lc_X7_137 : wk_V RX7 137 yX7_adds cX7_adds 8 none 6 := ⟨wc_Bl [(5, 234), (5, 236), (14, 13), (1, 8), (5, 237)] rfl rfl, hzc_5, hzv_5, hzd_70⟩
theorem lc_X7_141 : wk_V RX7 141 yX7_noLine cX7_noLine 5 none 0 := ⟨wc_Bl [(5, 230), (5, 232), (14, 12), (1, 8), (5, 233)] rfl rfl, hzc_5, hzv_5, hzd_5⟩
theorem lc_X7_144 : wk_V RX7 144 yX7_isOf cX7_isOf 3 (some .boolean) 2 := ⟨wc_Bl [(5, 138), (5, 140), (13, 11), (1, 8), (5, 141)] rfl rfl, hzc_5, hzv_5, hzd_19⟩
theorem lc_X7_148 : wk_V RX7 148 yX7_clears cX7_clears 3 none 1 := ⟨wc_Bl [(5, 142), (5, 144), (13, 12), (1, 8), (5, 145)] rfl rfl, hzc_5, hzv_5, hzd_28⟩
theorem lc_X7_151 : wk_V RX7 151 yX7_republicLine cX7_republicLine 5 none 0 := ⟨wc_Bl [(5, 178), (5, 180), (13, 15), (1, 8), (5, 181)] rfl rfl, hzc_5, hzv_5, hzd_5⟩
theorem lc_X7_154 : wk_V RX7 154 yX7_orderLine cX7_orderLine 7 none 0 := ⟨wc_Bl [(5, 226), (5, 228), (14, 11), (1, 8), (5, 229)] rfl rfl, hzc_5, hzv_5, hzd_5⟩
theorem lc_X7_157 : wk_V RX7 157 yX7_yearLine cX7_yearLine 6 none 0 := ⟨wc_Bl [(5, 238), (6, 0), (14, 14), (1, 8), (6, 1)] rfl rfl, hzc_5, hzv_5, hzd_5⟩
theorem lc_X7_160 : wk_V RX7 160 yX7_leakLine cX7_leakLine 4 none 0 := ⟨wc_Bl [(6, 2), (6, 4), (14, 15), (1, 8), (6, 5)] rfl rfl, hzc_5, hzv_5, hzd_5⟩
theorem lc_X7_163 : wk_V RX7 163 yX7_summerLine cX7_summerLine 7 none 0 := ⟨wc_Bl [(6, 6), (6, 8), (15, 0), (1, 8), (6, 9)] rfl rfl, hzc_5, hzv_5, hzd_5⟩
theorem lc_X7_166 : wk_V RX7 166 yX7_bargainLine cX7_bargainLine 3 none 0 := ⟨wc_Bl [(6, 10), (6, 12), (15, 1), (1, 8), (6, 13)] rfl rfl, hzc_5, hzv_5, hzd_5⟩
theorem lc_X7_178 : wk_V RX7 178 yX7_begins cX7_begins 2 none 0 := ⟨wc_Bl [(6, 32), (6, 34), (15, 3), (1, 8), (6, 35)] rfl rfl, hzc_5, hzv_5, hzd_5⟩
theorem lc_X7_181 : wk_V RX7 181 yX7_of cX7_of 2 (some .int) 1 := ⟨wc_Bl [(6, 40), (6, 42), (15, 5), (1, 8), (6, 43)] rfl rfl, hzc_5, hzv_5, hzd_7⟩
theorem lc_X7_184 : wk_V RX7 184 yX7_ministers cX7_ministers 1 (some .int) 0 := ⟨wc_Bl [(6, 36), (6, 38), (15, 4), (1, 8), (6, 39)] rfl rfl, hzc_5, hzv_5, hzd_24⟩
theorem lc_X7_187 : wk_V RX7 187 yX7_ofMinister cX7_ofMinister 3 (some .int) 2 := ⟨wc_Bl [(6, 52), (6, 54), (15, 7), (1, 8), (6, 55)] rfl rfl, hzc_5, hzv_5, hzd_8⟩
theorem lc_X7_190 : wk_V RX7 190 yX7_isRepublic cX7_isRepublic 2 (some .boolean) 1 := ⟨wc_Bl [(6, 28), (6, 30), (15, 2), (1, 8), (6, 31)] rfl rfl, hzc_5, hzv_5, hzd_16⟩
theorem lc_X7_193 : wk_V RX7 193 yX7_isMinister cX7_isMinister 2 (some .boolean) 1 := ⟨wc_Bl [(6, 48), (6, 50), (15, 6), (1, 8), (6, 51)] rfl rfl, hzc_5, hzv_5, hzd_16⟩
theorem lc_X7_208 : wk_V RX7 208 yX7_wants cX7_wants 4 (some .int) 3 := ⟨wc_Bl [(6, 75), (6, 77), (15, 11), (1, 8), (6, 78)] rfl rfl, hzc_5, hzv_5, hzd_9⟩
theorem lc_X7_217 : wk_V RX7 217 yX7_offOf cX7_offOf 2 (some .int) 1 := ⟨wc_Bl [(6, 71), (6, 73), (15, 10), (1, 8), (6, 74)] rfl rfl, hzc_5, hzv_5, hzd_7⟩
theorem lc_X7_220 : wk_V RX7 220 yX7_yields cX7_yields 2 (some .int) 1 := ⟨wc_Bl [(6, 94), (6, 96), (15, 14), (1, 8), (6, 97)] rfl rfl, hzc_5, hzv_5, hzd_7⟩
theorem lc_X7_223 : wk_V RX7 223 yX7_agrees cX7_agrees 2 (some .boolean) 1 := ⟨wc_Bl [(6, 90), (6, 92), (15, 13), (1, 8), (6, 93)] rfl rfl, hzc_5, hzv_5, hzd_16⟩
theorem lc_X7_229 : wk_V RX7 229 yX7_votesOf cX7_votesOf 4 (some .int) 1 := ⟨wc_Bl [(6, 102), (6, 104), (16, 0), (1, 8), (6, 105)] rfl rfl, hzc_5, hzv_5, hzd_7⟩
theorem lc_X7_232 : wk_V RX7 232 yX7_vetoes cX7_vetoes 3 (some .int) 0 := ⟨wc_Bl [(6, 106), (6, 108), (16, 1), (1, 8), (6, 109)] rfl rfl, hzc_5, hzv_5, hzd_24⟩
theorem lc_X7_238 : wk_V RX7 238 yX7_talksOf cX7_talksOf 2 none 1 := ⟨wc_Bl [(6, 67), (6, 69), (15, 9), (1, 8), (6, 70)] rfl rfl, hzc_5, hzv_5, hzd_28⟩
theorem lc_X7_241 : wk_V RX7 241 yX7_isMotion cX7_isMotion 7 (some .boolean) 6 := ⟨wc_Bl [(6, 60), (6, 62), (15, 8), (1, 8), (6, 63)] rfl rfl, hzc_5, hzv_5, hzd_71⟩
theorem lc_X7_245 : wk_V RX7 245 yX7_agreeing cX7_agreeing 3 (some .int) 0 := ⟨wc_Bl [(6, 86), (6, 88), (15, 12), (1, 8), (6, 89)] rfl rfl, hzc_5, hzv_5, hzd_24⟩
theorem lc_X7_248 : wk_V RX7 248 yX7_isPassed cX7_isPassed 2 (some .boolean) 1 := ⟨wc_Bl [(6, 98), (6, 100), (15, 15), (1, 8), (6, 101)] rfl rfl, hzc_5, hzv_5, hzd_16⟩
theorem lc_X7_254 : wk_V RX7 254 yX7_areOrders cX7_areOrders 2 (some .boolean) 1 := ⟨wc_Bl [(6, 114), (6, 116), (16, 2), (1, 8), (6, 117)] rfl rfl, hzc_5, hzv_5, hzd_16⟩
theorem lc_X7_257 : wk_V RX7 257 yX7_orderOf cX7_orderOf 3 (some .int) 2 := ⟨wc_Bl [(6, 118), (6, 120), (16, 3), (1, 8), (6, 121)] rfl rfl, hzc_5, hzv_5, hzd_8⟩
theorem lc_X7_260 : wk_V RX7 260 yX7_amount cX7_amount 2 (some .int) 1 := ⟨wc_Bl [(6, 134), (6, 136), (16, 6), (1, 8), (6, 137)] rfl rfl, hzc_5, hzv_5, hzd_7⟩
theorem lc_X7_266 : wk_V RX7 266 yX7_isBroken cX7_isBroken 5 (some .boolean) 2 := ⟨wc_Bl [(6, 130), (6, 132), (16, 5), (1, 8), (6, 133)] rfl rfl, hzc_5, hzv_5, hzd_19⟩
theorem lc_X7_269 : wk_V RX7 269 yX7_firstBroken cX7_firstBroken 3 (some .int) 1 := ⟨wc_Bl [(6, 126), (6, 128), (16, 4), (1, 8), (6, 129)] rfl rfl, hzc_5, hzv_5, hzd_7⟩
theorem lc_X7_296 : wk_V RX7 296 yX7_goes cX7_goes 2 none 0 := ⟨wc_Bl [(6, 189), (6, 191), (17, 1), (1, 8), (6, 192)] rfl rfl, hzc_5, hzv_5, hzd_5⟩
theorem lc_X7_299 : wk_V RX7 299 yX7_committee cX7_committee 1 none 0 := ⟨wc_Bl [(6, 185), (6, 187), (17, 0), (1, 8), (6, 188)] rfl rfl, hzc_5, hzv_5, hzd_5⟩
theorem lc_X7_302 : wk_V RX7 302 yX7_angers cX7_angers 3 none 1 := ⟨wc_Bl [(6, 193), (6, 195), (17, 2), (1, 8), (6, 196)] rfl rfl, hzc_5, hzv_5, hzd_28⟩
theorem lc_X7_308 : wk_V RX7 308 yX7_deeds cX7_deeds 1 (some .int) 0 := ⟨wc_Bl [(6, 145), (6, 147), (16, 7), (1, 8), (6, 148)] rfl rfl, hzc_5, hzv_5, hzd_24⟩
theorem lc_X7_311 : wk_V RX7 311 yX7_deedOf cX7_deedOf 3 (some .int) 2 := ⟨wc_Bl [(6, 149), (6, 151), (16, 8), (1, 8), (6, 152)] rfl rfl, hzc_5, hzv_5, hzd_8⟩
theorem lc_X7_314 : wk_V RX7 314 yX7_isThere cX7_isThere 2 (some .boolean) 1 := ⟨wc_Bl [(6, 169), (6, 171), (16, 12), (1, 8), (6, 172)] rfl rfl, hzc_5, hzv_5, hzd_16⟩
theorem lc_X7_317 : wk_V RX7 317 yX7_canNature cX7_canNature 1 (some .boolean) 0 := ⟨wc_Bl [(6, 173), (6, 175), (16, 13), (1, 8), (6, 176)] rfl rfl, hzc_5, hzv_5, hzd_3⟩
theorem lc_X7_321 : wk_V RX7 321 yX7_moves cX7_moves 2 none 0 := ⟨wc_Bl [(6, 181), (6, 183), (16, 15), (1, 8), (6, 184)] rfl rfl, hzc_5, hzv_5, hzd_5⟩
theorem lc_X7_324 : wk_V RX7 324 yX7_can cX7_can 3 (some .boolean) 1 := ⟨wc_Bl [(6, 165), (6, 167), (16, 11), (1, 8), (6, 168)] rfl rfl, hzc_5, hzv_5, hzd_16⟩
theorem lc_X7_327 : wk_V RX7 327 yX7_does cX7_does 3 none 1 := ⟨wc_Bl [(6, 177), (6, 179), (16, 14), (1, 8), (6, 180)] rfl rfl, hzc_5, hzv_5, hzd_28⟩
theorem lc_X7_330 : wk_V RX7 330 yX7_areTold cX7_areTold 4 (some .boolean) 3 := ⟨wc_Bl [(6, 157), (6, 159), (16, 9), (1, 8), (6, 160)] rfl rfl, hzc_5, hzv_5, hzd_69⟩
theorem lc_X7_333 : wk_V RX7 333 yX7_runs cX7_runs 2 none 1 := ⟨wc_Bl [(6, 161), (6, 163), (16, 10), (1, 8), (6, 164)] rfl rfl, hzc_5, hzv_5, hzd_28⟩
theorem lc_X7_336 : wk_V RX7 336 yX7_isAgreed cX7_isAgreed 3 (some .boolean) 2 := ⟨wc_Bl [(6, 205), (6, 207), (17, 3), (1, 8), (6, 208)] rfl rfl, hzc_5, hzv_5, hzd_72⟩
theorem lc_X7_347 : wk_V RX7 347 yX7_everybody cX7_everybody 1 (some .int) 0 := ⟨wc_Bl [(6, 216), (6, 218), (17, 4), (1, 8), (6, 219)] rfl rfl, hzc_5, hzv_5, hzd_24⟩
theorem lc_X7_350 : wk_V RX7 350 yX7_isEnough cX7_isEnough 2 (some .boolean) 1 := ⟨wc_Bl [(6, 220), (6, 222), (17, 5), (1, 8), (6, 223)] rfl rfl, hzc_5, hzv_5, hzd_16⟩
theorem lc_X7_363 : wk_V RX7 363 yX7_key cX7_key 3 (some .int) 0 := ⟨wc_Bl [(7, 0), (7, 2), (17, 6), (1, 8), (7, 3)] rfl rfl, hzc_5, hzv_5, hzd_24⟩
theorem lc_X7_366 : wk_V RX7 366 yX7_isLeast cX7_isLeast 4 (some .boolean) 1 := ⟨wc_Bl [(7, 4), (7, 6), (17, 7), (1, 8), (7, 7)] rfl rfl, hzc_5, hzv_5, hzd_16⟩
theorem lc_X7_369 : wk_V RX7 369 yX7_costOf cX7_costOf 4 (some .int) 1 := ⟨wc_Bl [(7, 12), (7, 14), (17, 8), (1, 8), (7, 15)] rfl rfl, hzc_5, hzv_5, hzd_7⟩
theorem lc_X7_372 : wk_V RX7 372 yX7_priceOf cX7_priceOf 2 (some .int) 1 := ⟨wc_Bl [(7, 28), (7, 30), (17, 11), (1, 8), (7, 31)] rfl rfl, hzc_5, hzv_5, hzd_7⟩
theorem lc_X7_375 : wk_V RX7 375 yX7_gainOf cX7_gainOf 6 (some .int) 3 := ⟨wc_Bl [(7, 24), (7, 26), (17, 10), (1, 8), (7, 27)] rfl rfl, hzc_5, hzv_5, hzd_12⟩
theorem lc_X7_378 : wk_V RX7 378 yX7_isRest cX7_isRest 5 (some .boolean) 2 := ⟨wc_Bl [(7, 20), (7, 22), (17, 9), (1, 8), (7, 23)] rfl rfl, hzc_5, hzv_5, hzd_19⟩
theorem lc_X7_384 : wk_V RX7 384 yX7_dayOf cX7_dayOf 3 (some .int) 2 := ⟨wc_Bl [(7, 48), (7, 50), (17, 14), (1, 8), (7, 51)] rfl rfl, hzc_5, hzv_5, hzd_8⟩
theorem lc_X7_387 : wk_V RX7 387 yX7_isSummer cX7_isSummer 2 (some .boolean) 1 := ⟨wc_Bl [(7, 40), (7, 42), (17, 12), (1, 8), (7, 43)] rfl rfl, hzc_5, hzv_5, hzd_16⟩
theorem lc_X7_390 : wk_V RX7 390 yX7_summerDays cX7_summerDays 1 (some .int) 0 := ⟨wc_Bl [(7, 44), (7, 46), (17, 13), (1, 8), (7, 47)] rfl rfl, hzc_5, hzv_5, hzd_24⟩
theorem lc_X7_393 : wk_V RX7 393 yX7_numberOf cX7_numberOf 2 (some .int) 1 := ⟨wc_Bl [(7, 60), (7, 62), (18, 0), (1, 8), (7, 63)] rfl rfl, hzc_5, hzv_5, hzd_7⟩
theorem lc_X7_396 : wk_V RX7 396 yX7_cloudAfter cX7_cloudAfter 6 (some .int) 3 := ⟨wc_Bl [(7, 72), (7, 74), (18, 3), (1, 8), (7, 75)] rfl rfl, hzc_5, hzv_5, hzd_9⟩
theorem lc_X7_399 : wk_V RX7 399 yX7_wrongDay cX7_wrongDay 2 (some .int) 0 := ⟨wc_Bl [(7, 56), (7, 58), (17, 15), (1, 8), (7, 59)] rfl rfl, hzc_5, hzv_5, hzd_24⟩
theorem lc_X7_402 : wk_V RX7 402 yX7_isHeatRight cX7_isHeatRight 4 (some .boolean) 0 := ⟨wc_Bl [(7, 64), (7, 66), (18, 1), (1, 8), (7, 67)] rfl rfl, hzc_5, hzv_5, hzd_3⟩
theorem lc_X7_405 : wk_V RX7 405 yX7_mends cX7_mends 7 none 0 := ⟨wc_Bl [(7, 68), (7, 70), (18, 2), (1, 8), (7, 71)] rfl rfl, hzc_5, hzv_5, hzd_5⟩
theorem lc_X7_408 : wk_V RX7 408 yX7_fallsOn cX7_fallsOn 5 (some .int) 1 := ⟨wc_Bl [(7, 76), (7, 78), (18, 4), (1, 8), (7, 79)] rfl rfl, hzc_5, hzv_5, hzd_7⟩
theorem lc_X7_411 : wk_V RX7 411 yX7_areSeats cX7_areSeats 5 (some .boolean) 1 := ⟨wc_Bl [(7, 92), (7, 94), (18, 7), (1, 8), (7, 95)] rfl rfl, hzc_5, hzv_5, hzd_16⟩
theorem lc_X7_414 : wk_V RX7 414 yX7_proposal cX7_proposal 3 (some .int) 2 := ⟨wc_Bl [(7, 96), (7, 98), (18, 8), (1, 8), (7, 99)] rfl rfl, hzc_5, hzv_5, hzd_8⟩
theorem lc_X7_417 : wk_V RX7 417 yX7_isSat cX7_isSat 4 (some .boolean) 1 := ⟨wc_Bl [(7, 88), (7, 90), (18, 6), (1, 8), (7, 91)] rfl rfl, hzc_5, hzv_5, hzd_16⟩
theorem lc_X7_420 : wk_V RX7 420 yX7_unlike cX7_unlike 5 (some .int) 1 := ⟨wc_Bl [(7, 84), (7, 86), (18, 5), (1, 8), (7, 87)] rfl rfl, hzc_5, hzv_5, hzd_7⟩
theorem lc_X7_423 : wk_V RX7 423 yX7_rainy cX7_rainy 3 (some .int) 1 := ⟨wc_Bl [(7, 104), (7, 106), (18, 9), (1, 8), (7, 107)] rfl rfl, hzc_5, hzv_5, hzd_7⟩
theorem lc_X7_429 : wk_V RX7 429 yX7_leakOf cX7_leakOf 3 (some .int) 2 := ⟨wc_Bl [(7, 112), (7, 114), (18, 10), (1, 8), (7, 115)] rfl rfl, hzc_5, hzv_5, hzd_8⟩
theorem lc_X7_432 : wk_V RX7 432 yX7_isFit cX7_isFit 5 (some .boolean) 2 := ⟨wc_Bl [(7, 124), (7, 126), (18, 12), (1, 8), (7, 127)] rfl rfl, hzc_5, hzv_5, hzd_19⟩
theorem lc_X7_435 : wk_V RX7 435 yX7_fitting cX7_fitting 4 (some .int) 1 := ⟨wc_Bl [(7, 120), (7, 122), (18, 11), (1, 8), (7, 123)] rfl rfl, hzc_5, hzv_5, hzd_7⟩
theorem lc_X7_438 : wk_V RX7 438 yX7_rainyFit cX7_rainyFit 3 (some .int) 0 := ⟨wc_Bl [(7, 128), (7, 130), (18, 13), (1, 8), (7, 131)] rfl rfl, hzc_5, hzv_5, hzd_24⟩
theorem lc_X7_441 : wk_V RX7 441 yX7_extreme cX7_extreme 6 (some .int) 2 := ⟨wc_Bl [(7, 132), (7, 134), (18, 14), (1, 8), (7, 135)] rfl rfl, hzc_5, hzv_5, hzd_14⟩
theorem lc_X7_448 : wk_V RX7 448 yX7_below cX7_below 2 (some .int) 1 := ⟨wc_Bl [(7, 140), (7, 142), (18, 15), (1, 8), (7, 143)] rfl rfl, hzc_5, hzv_5, hzd_7⟩
theorem lc_X7_451 : wk_V RX7 451 yX7_thereAt cX7_thereAt 4 (some .int) 1 := ⟨wc_Bl [(7, 145), (7, 147), (19, 0), (1, 8), (7, 148)] rfl rfl, hzc_5, hzv_5, hzd_7⟩
theorem lk_X7_40 : Cond.constantLong RX7 40 1048576 ∈ wc_B := wc_Bm (5, 168) rfl rfl
theorem lk_X7_70 : Cond.constantLong RX7 70 32 ∈ wc_B := wc_Bm (5, 157) rfl rfl
theorem lk_X7_72 : Cond.constantLong RX7 72 96 ∈ wc_B := wc_Bm (5, 158) rfl rfl
theorem lk_X7_447 : Cond.constant RX7 447 1103515245 ∈ wc_B := wc_Bm (7, 144) rfl rfl
theorem lp_X7_7 : wc_fpt RX7 7 7 0 true (.array .int) := ⟨RX7, TX7, 35, tyX7, rfl, by decide, wc_Bm (5, 16) rfl rfl, wuX7, tyX7_ok, nmX7, rfl, by decide +kernel, rfl⟩
theorem lp_X7_13 : wc_fpt RX7 13 7 1 true (.array .boolean) := ⟨RX7, TX7, 35, tyX7, rfl, by decide, wc_Bm (5, 17) rfl rfl, wuX7, tyX7_ok, nmX7, rfl, by decide +kernel, rfl⟩
theorem lp_X7_17 : wc_fpt RX7 17 7 10 true (.array .int) := ⟨RX7, TX7, 35, tyX7, rfl, by decide, wc_Bm (5, 26) rfl rfl, wuX7, tyX7_ok, nmX7, rfl, by decide +kernel, rfl⟩
theorem lp_X7_20 : wc_fpt RX7 20 7 27 true (.array .int) := ⟨RX7, TX7, 35, tyX7, rfl, by decide, wc_Bm (5, 43) rfl rfl, wuX7, tyX7_ok, nmX7, rfl, by decide +kernel, rfl⟩
theorem lp_X7_23 : wc_fpt RX7 23 7 28 true (.array .int) := ⟨RX7, TX7, 35, tyX7, rfl, by decide, wc_Bm (5, 44) rfl rfl, wuX7, tyX7_ok, nmX7, rfl, by decide +kernel, rfl⟩
theorem lp_X7_26 : wc_fpt RX7 26 7 31 true (.array .int) := ⟨RX7, TX7, 35, tyX7, rfl, by decide, wc_Bm (5, 47) rfl rfl, wuX7, tyX7_ok, nmX7, rfl, by decide +kernel, rfl⟩
theorem lp_X7_29 : wc_fpt RX7 29 7 32 true (.array .boolean) := ⟨RX7, TX7, 35, tyX7, rfl, by decide, wc_Bm (5, 48) rfl rfl, wuX7, tyX7_ok, nmX7, rfl, by decide +kernel, rfl⟩
theorem lp_X7_32 : wc_fpt RX7 32 7 2 false .int := ⟨RX7, TX7, 35, tyX7, rfl, by decide, wc_Bm (5, 18) rfl rfl, wuX7, tyX7_ok, nmX7, rfl, by decide +kernel, rfl⟩
theorem lp_X7_53 : wc_fpt RX7 53 7 3 false .int := ⟨RX7, TX7, 35, tyX7, rfl, by decide, wc_Bm (5, 19) rfl rfl, wuX7, tyX7_ok, nmX7, rfl, by decide +kernel, rfl⟩
theorem lp_X7_60 : wc_fpt RX7 60 7 4 false .int := ⟨RX7, TX7, 35, tyX7, rfl, by decide, wc_Bm (5, 20) rfl rfl, wuX7, tyX7_ok, nmX7, rfl, by decide +kernel, rfl⟩
theorem lp_X7_63 : wc_fpt RX7 63 7 5 false .int := ⟨RX7, TX7, 35, tyX7, rfl, by decide, wc_Bm (5, 21) rfl rfl, wuX7, tyX7_ok, nmX7, rfl, by decide +kernel, rfl⟩
theorem lp_X7_77 : wc_fpt RX7 77 7 7 false .int := ⟨RX7, TX7, 35, tyX7, rfl, by decide, wc_Bm (5, 23) rfl rfl, wuX7, tyX7_ok, nmX7, rfl, by decide +kernel, rfl⟩
theorem lp_X7_83 : wc_fpt RX7 83 7 6 false .int := ⟨RX7, TX7, 35, tyX7, rfl, by decide, wc_Bm (5, 22) rfl rfl, wuX7, tyX7_ok, nmX7, rfl, by decide +kernel, rfl⟩
theorem lp_X7_86 : wc_fpt RX7 86 7 8 false .boolean := ⟨RX7, TX7, 35, tyX7, rfl, by decide, wc_Bm (5, 24) rfl rfl, wuX7, tyX7_ok, nmX7, rfl, by decide +kernel, rfl⟩
theorem lp_X7_111 : wc_fpt RX7 111 7 9 false .int := ⟨RX7, TX7, 35, tyX7, rfl, by decide, wc_Bm (5, 25) rfl rfl, wuX7, tyX7_ok, nmX7, rfl, by decide +kernel, rfl⟩
theorem lp_X7_175 : wc_fpt RX7 175 7 11 false .int := ⟨RX7, TX7, 35, tyX7, rfl, by decide, wc_Bm (5, 27) rfl rfl, wuX7, tyX7_ok, nmX7, rfl, by decide +kernel, rfl⟩
theorem lp_X7_196 : wc_fpt RX7 196 7 12 false .int := ⟨RX7, TX7, 35, tyX7, rfl, by decide, wc_Bm (5, 28) rfl rfl, wuX7, tyX7_ok, nmX7, rfl, by decide +kernel, rfl⟩
theorem lp_X7_199 : wc_fpt RX7 199 7 13 false .int := ⟨RX7, TX7, 35, tyX7, rfl, by decide, wc_Bm (5, 29) rfl rfl, wuX7, tyX7_ok, nmX7, rfl, by decide +kernel, rfl⟩
theorem lp_X7_202 : wc_fpt RX7 202 7 14 false .int := ⟨RX7, TX7, 35, tyX7, rfl, by decide, wc_Bm (5, 30) rfl rfl, wuX7, tyX7_ok, nmX7, rfl, by decide +kernel, rfl⟩
theorem lp_X7_205 : wc_fpt RX7 205 7 16 false .int := ⟨RX7, TX7, 35, tyX7, rfl, by decide, wc_Bm (5, 32) rfl rfl, wuX7, tyX7_ok, nmX7, rfl, by decide +kernel, rfl⟩
theorem lp_X7_214 : wc_fpt RX7 214 7 15 false .int := ⟨RX7, TX7, 35, tyX7, rfl, by decide, wc_Bm (5, 31) rfl rfl, wuX7, tyX7_ok, nmX7, rfl, by decide +kernel, rfl⟩
theorem lp_X7_226 : wc_fpt RX7 226 7 18 false .int := ⟨RX7, TX7, 35, tyX7, rfl, by decide, wc_Bm (5, 34) rfl rfl, wuX7, tyX7_ok, nmX7, rfl, by decide +kernel, rfl⟩
theorem lp_X7_251 : wc_fpt RX7 251 7 17 false .int := ⟨RX7, TX7, 35, tyX7, rfl, by decide, wc_Bm (5, 33) rfl rfl, wuX7, tyX7_ok, nmX7, rfl, by decide +kernel, rfl⟩
theorem lp_X7_272 : wc_fpt RX7 272 7 19 false .int := ⟨RX7, TX7, 35, tyX7, rfl, by decide, wc_Bm (5, 35) rfl rfl, wuX7, tyX7_ok, nmX7, rfl, by decide +kernel, rfl⟩
theorem lp_X7_275 : wc_fpt RX7 275 7 20 false .int := ⟨RX7, TX7, 35, tyX7, rfl, by decide, wc_Bm (5, 36) rfl rfl, wuX7, tyX7_ok, nmX7, rfl, by decide +kernel, rfl⟩
theorem lp_X7_278 : wc_fpt RX7 278 7 21 false .int := ⟨RX7, TX7, 35, tyX7, rfl, by decide, wc_Bm (5, 37) rfl rfl, wuX7, tyX7_ok, nmX7, rfl, by decide +kernel, rfl⟩
theorem lp_X7_281 : wc_fpt RX7 281 7 22 false .int := ⟨RX7, TX7, 35, tyX7, rfl, by decide, wc_Bm (5, 38) rfl rfl, wuX7, tyX7_ok, nmX7, rfl, by decide +kernel, rfl⟩
theorem lp_X7_284 : wc_fpt RX7 284 7 23 false .int := ⟨RX7, TX7, 35, tyX7, rfl, by decide, wc_Bm (5, 39) rfl rfl, wuX7, tyX7_ok, nmX7, rfl, by decide +kernel, rfl⟩
theorem lp_X7_287 : wc_fpt RX7 287 7 24 false .int := ⟨RX7, TX7, 35, tyX7, rfl, by decide, wc_Bm (5, 40) rfl rfl, wuX7, tyX7_ok, nmX7, rfl, by decide +kernel, rfl⟩
theorem lp_X7_290 : wc_fpt RX7 290 7 25 false .int := ⟨RX7, TX7, 35, tyX7, rfl, by decide, wc_Bm (5, 41) rfl rfl, wuX7, tyX7_ok, nmX7, rfl, by decide +kernel, rfl⟩
theorem lp_X7_293 : wc_fpt RX7 293 7 26 false .int := ⟨RX7, TX7, 35, tyX7, rfl, by decide, wc_Bm (5, 42) rfl rfl, wuX7, tyX7_ok, nmX7, rfl, by decide +kernel, rfl⟩
theorem lp_X7_305 : wc_fpt RX7 305 7 29 false .int := ⟨RX7, TX7, 35, tyX7, rfl, by decide, wc_Bm (5, 45) rfl rfl, wuX7, tyX7_ok, nmX7, rfl, by decide +kernel, rfl⟩
theorem lp_X7_381 : wc_fpt RX7 381 7 30 false .int := ⟨RX7, TX7, 35, tyX7, rfl, by decide, wc_Bm (5, 46) rfl rfl, wuX7, tyX7_ok, nmX7, rfl, by decide +kernel, rfl⟩
theorem lp_X7_426 : wc_fpt RX7 426 7 33 false .int := ⟨RX7, TX7, 35, tyX7, rfl, by decide, wc_Bm (5, 49) rfl rfl, wuX7, tyX7_ok, nmX7, rfl, by decide +kernel, rfl⟩
theorem lp_X7_444 : wc_fpt RX7 444 7 34 false .int := ⟨RX7, TX7, 35, tyX7, rfl, by decide, wc_Bm (5, 50) rfl rfl, wuX7, tyX7_ok, nmX7, rfl, by decide +kernel, rfl⟩
theorem la_int : Cond.arrayClass .int ∈ wc_B := wc_Bm (1, 103) rfl rfl
theorem la_bool : Cond.arrayClass .boolean ∈ wc_B := wc_Bm (5, 122) rfl rfl
