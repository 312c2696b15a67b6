def xk {α : Type} : List (Nat × α) → Nat → Option α
  | [], _ => none
  | (a, b) :: t, k => bif Nat.beq a k then some b else xk t k
def oN : Nat → String
  | 0 => RX0
  | 1 => RX1
  | 2 => RX2
  | 3 => RX3
  | 4 => RX4
  | 5 => RX5
  | 6 => RX6
  | 7 => RX7
  | 8 => RL
  | 10 => RJ0
  | 11 => RJ1
  | 13 => RJ3
  | 16 => RJ6
  | 17 => RJ7
  | _ => ""
def tZ0 : List (Nat × (MethodName × ByteArray × Nat × Option FieldType)) := [(0, yX0_init, cX0_init, 1, none), (1, yX0_open, cX0_open, 2, none), (2, yX0_run, cX0_run, 6, (some .int)), (3, yX0_happens, cX0_happens, 7, (some .boolean)), (4, yX0_takesOffice, cX0_takesOffice, 4, (some .boolean)), (5, yX0_isDismissed, cX0_isDismissed, 3, (some .boolean))]
def tZ1 : List (Nat × (MethodName × ByteArray × Nat × Option FieldType)) := [(6, yX0_isRecalled, cX0_isRecalled, 4, (some .boolean)), (7, yX0_decide, cX0_decide, 6, none), (8, yX0_bear, cX0_bear, 6, none), (9, yX0_committee, cX0_committee, 1, none), (10, yX0_record, cX0_record, 2, none), (11, yX0_draw, cX0_draw, 5, none)]
def tZ2 : List (Nat × (MethodName × ByteArray × Nat × Option FieldType)) := [(12, yX0_drawMotion, cX0_drawMotion, 7, none), (13, yX0_oneThere, cX0_oneThere, 4, (some .int)), (14, yX0_drawBelow, cX0_drawBelow, 2, (some .int)), (15, yX1_init, cX1_init, 1, none), (16, yX1_read, cX1_read, 6, none), (17, yX1_startOn, cX1_startOn, 2, none)]
def tZ3 : List (Nat × (MethodName × ByteArray × Nat × Option FieldType)) := [(18, yX1_note, cX1_note, 3, none), (19, yX1_refuse, cX1_refuse, 1, (some .boolean)), (20, yX1_wordsOf, cX1_wordsOf, 1, (some (.object "java/lang/String"))), (21, yX1_formsOf, cX1_formsOf, 1, (some (.object "java/lang/String"))), (22, yX1_readLine, cX1_readLine, 6, (some .boolean)), (23, yX1_countLine, cX1_countLine, 3, none)]
def tZ4 : List (Nat × (MethodName × ByteArray × Nat × Option FieldType)) := [(24, yX1_readPart, cX1_readPart, 5, (some .boolean)), (25, yX1_choicesOf, cX1_choicesOf, 1, (some (.object "java/lang/String"))), (26, yX1_readSemicolon, cX1_readSemicolon, 1, (some .boolean)), (27, yX1_readNumber, cX1_readNumber, 5, (some .boolean)), (28, yX1_leastOf, cX1_leastOf, 1, (some .int)), (29, yX1_mostOf, cX1_mostOf, 1, (some .int))]
def tZ5 : List (Nat × (MethodName × ByteArray × Nat × Option FieldType)) := [(30, yX1_take, cX1_take, 3, none), (31, yX1_takeToldOf, cX1_takeToldOf, 4, none), (32, yX1_takeOrder, cX1_takeOrder, 3, none), (33, yX1_chosen, cX1_chosen, 5, (some .int)), (34, yX1_isToken, cX1_isToken, 5, (some .boolean)), (35, yX1_startOf, cX1_startOf, 4, (some .int))]
def tZ6 : List (Nat × (MethodName × ByteArray × Nat × Option FieldType)) := [(36, yX1_advance, cX1_advance, 1, none), (37, yX1_isBlank, cX1_isBlank, 1, (some .boolean)), (38, yX1_isLetter, cX1_isLetter, 1, (some .boolean)), (39, yX1_isDigit, cX1_isDigit, 1, (some .boolean)), (40, yX2_init, cX2_init, 1, none), (41, yX2_clear, cX2_clear, 1, none)]
def tZ7 : List (Nat × (MethodName × ByteArray × Nat × Option FieldType)) := [(42, yX2_copyRepublic, cX2_copyRepublic, 2, none), (43, yX2_takeLine, cX2_takeLine, 6, none), (44, yX2_addMinister, cX2_addMinister, 2, none), (45, yX2_setNumber, cX2_setNumber, 3, none), (46, yX2_isMinister, cX2_isMinister, 2, (some .boolean)), (47, yX2_everybody, cX2_everybody, 1, (some .int))]
def tZ8 : List (Nat × (MethodName × ByteArray × Nat × Option FieldType)) := [(48, yX2_want, cX2_want, 3, (some .int)), (49, yX2_distance, cX2_distance, 7, (some .int)), (50, yX2_patience, cX2_patience, 3, (some .int)), (51, yX2_agreeing, cX2_agreeing, 6, (some .int)), (52, yX2_votesOf, cX2_votesOf, 4, (some .int)), (53, yX2_isPassed, cX2_isPassed, 3, (some .boolean))]
def tZ9 : List (Nat × (MethodName × ByteArray × Nat × Option FieldType)) := [(54, yX2_areSeats, cX2_areSeats, 5, (some .boolean)), (55, yX2_proposal, cX2_proposal, 4, (some .int)), (56, yX3_init, cX3_init, 1, none), (57, yX3_clear, cX3_clear, 1, none), (58, yX3_copyRows, cX3_copyRows, 2, none), (59, yX3_part, cX3_part, 3, (some .int))]
def tZ10 : List (Nat × (MethodName × ByteArray × Nat × Option FieldType)) := [(60, yX3_set, cX3_set, 4, none), (61, yX3_dayFrom, cX3_dayFrom, 3, (some .int)), (62, yX3_add, cX3_add, 5, none), (63, yX4_init, cX4_init, 1, none), (64, yX4_settle, cX4_settle, 2, none), (65, yX4_can, cX4_can, 3, (some .boolean))]
def tZ11 : List (Nat × (MethodName × ByteArray × Nat × Option FieldType)) := [(66, yX4_bring, cX4_bring, 4, none), (67, yX5_init, cX5_init, 2, none), (68, yX5_republicKept, cX5_republicKept, 2, (some (.object "WindCabinet$Republic"))), (69, yX5_rowsKept, cX5_rowsKept, 4, (some (.object "WindCabinet$Rows"))), (70, yX5_copyTold, cX5_copyTold, 3, none), (71, yX6_init, cX6_init, 1, none)]
def tZ12 : List (Nat × (MethodName × ByteArray × Nat × Option FieldType)) := [(72, yX6_feed, cX6_feed, 6, (some .int)), (73, yX6_feedNumber, cX6_feedNumber, 3, none), (74, yX6_end, cX6_end, 2, (some .int)), (75, yX6_text, cX6_text, 5, (some .int)), (76, yX6_placeFor, cX6_placeFor, 4, (some .int)), (77, yX6_keep, cX6_keep, 4, none)]
def tZ13 : List (Nat × (MethodName × ByteArray × Nat × Option FieldType)) := [(78, yX6_fault, cX6_fault, 2, (some .int)), (79, yX6_count, cX6_count, 2, (some .int)), (80, yX6_image, cX6_image, 3, (some .boolean)), (81, yX6_again, cX6_again, 2, (some .boolean)), (82, yX6_republicAt, cX6_republicAt, 2, (some (.object "WindCabinet$Republic"))), (83, yX6_rowsAt, cX6_rowsAt, 3, (some (.object "WindCabinet$Rows")))]
def tZ14 : List (Nat × (MethodName × ByteArray × Nat × Option FieldType)) := [(84, yX6_republic, cX6_republic, 4, (some .int)), (85, yX6_minister, cX6_minister, 5, (some .int)), (86, yX6_order, cX6_order, 4, (some .int)), (87, yX6_deed, cX6_deed, 4, (some .int)), (88, yX6_leak, cX6_leak, 4, (some .int)), (89, yX6_was, cX6_was, 4, (some .int))]
def tZ15 : List (Nat × (MethodName × ByteArray × Nat × Option FieldType)) := [(90, yX6_rowTold, cX6_rowTold, 4, (some .int)), (91, yX6_movedIn, cX6_movedIn, 6, (some (.object "WindCabinet$Republic"))), (92, yX6_off, cX6_off, 9, (some .int)), (93, yX6_vote, cX6_vote, 11, (some .int)), (94, yX6_broken, cX6_broken, 9, (some .int)), (95, yX6_firstBroken, cX6_firstBroken, 5, (some .int))]
def tZ16 : List (Nat × (MethodName × ByteArray × Nat × Option FieldType)) := [(96, yX6_isBroken, cX6_isBroken, 9, (some .boolean)), (97, yX6_stop, cX6_stop, 7, (some .int)), (98, yX6_state, cX6_state, 9, (some .int)), (99, yX6_stateTold, cX6_stateTold, 3, (some .int)), (100, yX6_drawn, cX6_drawn, 6, (some .int)), (101, yX6_agreed, cX6_agreed, 8, (some .int))]
def tZ17 : List (Nat × (MethodName × ByteArray × Nat × Option FieldType)) := [(102, yX6_isAgreed, cX6_isAgreed, 6, (some .boolean)), (103, yX6_manyAgreed, cX6_manyAgreed, 7, (some .int)), (104, yX6_bestAgreed, cX6_bestAgreed, 9, (some .int)), (105, yX6_rank, cX6_rank, 5, (some .int)), (106, yX6_power, cX6_power, 5, (some .int)), (107, yX6_rowsDecided, cX6_rowsDecided, 6, (some .int))]
def tZ18 : List (Nat × (MethodName × ByteArray × Nat × Option FieldType)) := [(108, yX6_coalition, cX6_coalition, 4, (some .int)), (109, yX6_keyMinisters, cX6_keyMinisters, 3, (some .int)), (110, yX6_leastCoalition, cX6_leastCoalition, 4, (some .int)), (111, yX6_isLeastCoalition, cX6_isLeastCoalition, 3, (some .boolean)), (112, yX6_bribe, cX6_bribe, 15, (some .int)), (113, yX6_bribeOf, cX6_bribeOf, 7, (some .int))]
def tZ19 : List (Nat × (MethodName × ByteArray × Nat × Option FieldType)) := [(114, yX6_lobby, cX6_lobby, 14, (some .int)), (115, yX6_isRest, cX6_isRest, 7, (some .boolean)), (116, yX6_gain, cX6_gain, 8, (some .int)), (117, yX6_boughtBy, cX6_boughtBy, 6, (some .int)), (118, yX6_bargain, cX6_bargain, 6, (some .int)), (119, yX6_leavers, cX6_leavers, 5, (some .int))]
def tZ20 : List (Nat × (MethodName × ByteArray × Nat × Option FieldType)) := [(120, yX6_sharesOf, cX6_sharesOf, 5, (some .int)), (121, yX6_nature, cX6_nature, 8, (some .int)), (122, yX6_firstWrong, cX6_firstWrong, 5, (some .int)), (123, yX6_mend, cX6_mend, 8, (some .int)), (124, yX6_seats, cX6_seats, 7, (some .int)), (125, yX6_findFitting, cX6_findFitting, 5, (some .int))]
def tZ21 : List (Nat × (MethodName × ByteArray × Nat × Option FieldType)) := [(126, yX6_isFit, cX6_isFit, 4, (some .boolean)), (127, yX6_tellingSeason, cX6_tellingSeason, 5, (some .int)), (128, yX6_unlikeProposals, cX6_unlikeProposals, 7, (some .int)), (129, yX6_reshuffle, cX6_reshuffle, 8, (some .int)), (130, yX6_wetSeasons, cX6_wetSeasons, 6, (some .int)), (131, yX6_fits, cX6_fits, 8, (some .int))]
def tZ22 : List (Nat × (MethodName × ByteArray × Nat × Option FieldType)) := [(132, yX6_areThere, cX6_areThere, 3, (some .boolean)), (133, yX6_unfit, cX6_unfit, 8, (some .int)), (134, yX6_manyFitting, cX6_manyFitting, 7, (some .int)), (135, yX6_likelyRain, cX6_likelyRain, 6, (some .int)), (136, yX6_extreme, cX6_extreme, 9, (some .int)), (137, yX6_lies, cX6_lies, 7, (some .int))]
def tZ23 : List (Nat × (MethodName × ByteArray × Nat × Option FieldType)) := [(138, yX6_isSeason, cX6_isSeason, 1, (some .boolean)), (139, yX6_isAmount, cX6_isAmount, 1, (some .boolean)), (140, yX6_dayOf, cX6_dayOf, 3, (some .int)), (141, yX6_numberOf, cX6_numberOf, 3, (some .int)), (142, yX6_amount, cX6_amount, 2, (some .int)), (143, yX6_has, cX6_has, 2, (some .boolean))]
def tZ24 : List (Nat × (MethodName × ByteArray × Nat × Option FieldType)) := [(144, yX6_cell, cX6_cell, 2, (some .int)), (145, yX6_put, cX6_put, 3, none), (146, yX6_copy, cX6_copy, 2, none), (147, yX6_fraction, cX6_fraction, 4, (some .int)), (148, yX6_commonDivisor, cX6_commonDivisor, 6, (some .int)), (149, yX7_init, cX7_init, 1, none)]
def tZ25 : List (Nat × (MethodName × ByteArray × Nat × Option FieldType)) := [(150, yX7_isIn, cX7_isIn, 3, (some .boolean)), (151, yX7_feed, cX7_feed, 8, (some .int)), (152, yX7_end, cX7_end, 2, (some .int)), (153, yX7_byteAt, cX7_byteAt, 2, (some .int)), (154, yX7_isLetter, cX7_isLetter, 1, (some .boolean)), (155, yX7_isDigit, cX7_isDigit, 1, (some .boolean))]
def tZ26 : List (Nat × (MethodName × ByteArray × Nat × Option FieldType)) := [(156, yX7_four, cX7_four, 4, (some .long)), (157, yX7_eight, cX7_eight, 8, (some .long)), (158, yX7_wordOf, cX7_wordOf, 2, (some .int)), (159, yX7_kindOrSeason, cX7_kindOrSeason, 2, (some .int)), (160, yX7_otherWord, cX7_otherWord, 2, (some .int)), (161, yX7_advance, cX7_advance, 4, none)]
def tZ27 : List (Nat × (MethodName × ByteArray × Nat × Option FieldType)) := [(162, yX7_ends, cX7_ends, 1, none), (163, yX7_also, cX7_also, 3, none), (164, yX7_numbered, cX7_numbered, 4, (some .int)), (165, yX7_takes, cX7_takes, 4, (some .int)), (166, yX7_endsLine, cX7_endsLine, 1, none), (167, yX7_kindTold, cX7_kindTold, 1, (some .int))]
def tZ28 : List (Nat × (MethodName × ByteArray × Nat × Option FieldType)) := [(168, yX7_seasonTold, cX7_seasonTold, 1, (some .int)), (169, yX7_ministerTold, cX7_ministerTold, 2, (some .int)), (170, yX7_ministerLine, cX7_ministerLine, 8, none), (171, yX7_wantLine, cX7_wantLine, 5, none), (172, yX7_feudLine, cX7_feudLine, 3, none), (173, yX7_republicLine, cX7_republicLine, 5, none)]
def tZ29 : List (Nat × (MethodName × ByteArray × Nat × Option FieldType)) := [(174, yX7_adds, cX7_adds, 8, none), (175, yX7_noLine, cX7_noLine, 5, none), (176, yX7_orderLine, cX7_orderLine, 7, none), (177, yX7_yearLine, cX7_yearLine, 6, none), (178, yX7_leakLine, cX7_leakLine, 4, none), (179, yX7_summerLine, cX7_summerLine, 7, none)]
def tZ30 : List (Nat × (MethodName × ByteArray × Nat × Option FieldType)) := [(180, yX7_bargainLine, cX7_bargainLine, 3, none), (181, yX7_placeOf, cX7_placeOf, 2, (some .int)), (182, yX7_sizeOf, cX7_sizeOf, 1, (some .int)), (183, yX7_isOf, cX7_isOf, 3, (some .boolean)), (184, yX7_clears, cX7_clears, 3, none), (185, yX7_text, cX7_text, 5, (some .int))]
def tZ31 : List (Nat × (MethodName × ByteArray × Nat × Option FieldType)) := [(186, yX7_fault, cX7_fault, 2, (some .int)), (187, yX7_isRepublic, cX7_isRepublic, 2, (some .boolean)), (188, yX7_of, cX7_of, 2, (some .int)), (189, yX7_ministers, cX7_ministers, 1, (some .int)), (190, yX7_isMinister, cX7_isMinister, 2, (some .boolean)), (191, yX7_ofMinister, cX7_ofMinister, 3, (some .int))]
def tZ32 : List (Nat × (MethodName × ByteArray × Nat × Option FieldType)) := [(192, yX7_wants, cX7_wants, 4, (some .int)), (193, yX7_republic, cX7_republic, 3, (some .int)), (194, yX7_minister, cX7_minister, 4, (some .int)), (195, yX7_amountOf, cX7_amountOf, 2, (some .int)), (196, yX7_talksOf, cX7_talksOf, 2, none), (197, yX7_size, cX7_size, 1, (some .int))]
def tZ33 : List (Nat × (MethodName × ByteArray × Nat × Option FieldType)) := [(198, yX7_offOf, cX7_offOf, 2, (some .int)), (199, yX7_yields, cX7_yields, 2, (some .int)), (200, yX7_agrees, cX7_agrees, 2, (some .boolean)), (201, yX7_agreeing, cX7_agreeing, 3, (some .int)), (202, yX7_votesOf, cX7_votesOf, 4, (some .int)), (203, yX7_vetoes, cX7_vetoes, 3, (some .int))]
def tZ34 : List (Nat × (MethodName × ByteArray × Nat × Option FieldType)) := [(204, yX7_isPassed, cX7_isPassed, 2, (some .boolean)), (205, yX7_areAmounts, cX7_areAmounts, 3, (some .boolean)), (206, yX7_isMotion, cX7_isMotion, 7, (some .boolean)), (207, yX7_off, cX7_off, 7, (some .int)), (208, yX7_vote, cX7_vote, 8, (some .int)), (209, yX7_areOrders, cX7_areOrders, 2, (some .boolean))]
def tZ35 : List (Nat × (MethodName × ByteArray × Nat × Option FieldType)) := [(210, yX7_orderOf, cX7_orderOf, 3, (some .int)), (211, yX7_order, cX7_order, 4, (some .int)), (212, yX7_amount, cX7_amount, 2, (some .int)), (213, yX7_isBroken, cX7_isBroken, 5, (some .boolean)), (214, yX7_firstBroken, cX7_firstBroken, 3, (some .int)), (215, yX7_broken, cX7_broken, 7, (some .int))]
def tZ36 : List (Nat × (MethodName × ByteArray × Nat × Option FieldType)) := [(216, yX7_begins, cX7_begins, 2, none), (217, yX7_canNature, cX7_canNature, 1, (some .boolean)), (218, yX7_goes, cX7_goes, 2, none), (219, yX7_committee, cX7_committee, 1, none), (220, yX7_angers, cX7_angers, 3, none), (221, yX7_moves, cX7_moves, 2, none)]
def tZ37 : List (Nat × (MethodName × ByteArray × Nat × Option FieldType)) := [(222, yX7_deeds, cX7_deeds, 1, (some .int)), (223, yX7_deedOf, cX7_deedOf, 3, (some .int)), (224, yX7_deed, cX7_deed, 4, (some .int)), (225, yX7_isThere, cX7_isThere, 2, (some .boolean)), (226, yX7_can, cX7_can, 3, (some .boolean)), (227, yX7_does, cX7_does, 3, none)]
def tZ38 : List (Nat × (MethodName × ByteArray × Nat × Option FieldType)) := [(228, yX7_areTold, cX7_areTold, 4, (some .boolean)), (229, yX7_runs, cX7_runs, 2, none), (230, yX7_stop, cX7_stop, 4, (some .int)), (231, yX7_state, cX7_state, 6, (some .int)), (232, yX7_isAgreed, cX7_isAgreed, 3, (some .boolean)), (233, yX7_rank, cX7_rank, 5, (some .int))]
def tZ39 : List (Nat × (MethodName × ByteArray × Nat × Option FieldType)) := [(234, yX7_agreed, cX7_agreed, 9, (some .int)), (235, yX7_common, cX7_common, 5, (some .int)), (236, yX7_part, cX7_part, 3, (some .int)), (237, yX7_factorial, cX7_factorial, 3, (some .int)), (238, yX7_bits, cX7_bits, 3, (some .int)), (239, yX7_everybody, cX7_everybody, 1, (some .int))]
def tZ40 : List (Nat × (MethodName × ByteArray × Nat × Option FieldType)) := [(240, yX7_isEnough, cX7_isEnough, 2, (some .boolean)), (241, yX7_power, cX7_power, 7, (some .int)), (242, yX7_key, cX7_key, 3, (some .int)), (243, yX7_isLeast, cX7_isLeast, 4, (some .boolean)), (244, yX7_coalition, cX7_coalition, 5, (some .int)), (245, yX7_costOf, cX7_costOf, 4, (some .int))]
def tZ41 : List (Nat × (MethodName × ByteArray × Nat × Option FieldType)) := [(246, yX7_bribe, cX7_bribe, 13, (some .int)), (247, yX7_priceOf, cX7_priceOf, 2, (some .int)), (248, yX7_gainOf, cX7_gainOf, 6, (some .int)), (249, yX7_isRest, cX7_isRest, 5, (some .boolean)), (250, yX7_lobby, cX7_lobby, 11, (some .int)), (251, yX7_bargain, cX7_bargain, 10, (some .int))]
def tZ42 : List (Nat × (MethodName × ByteArray × Nat × Option FieldType)) := [(252, yX7_isSummer, cX7_isSummer, 2, (some .boolean)), (253, yX7_summerDays, cX7_summerDays, 1, (some .int)), (254, yX7_dayOf, cX7_dayOf, 3, (some .int)), (255, yX7_numberOf, cX7_numberOf, 2, (some .int)), (256, yX7_was, cX7_was, 4, (some .int)), (257, yX7_wrongDay, cX7_wrongDay, 2, (some .int))]
def tZ43 : List (Nat × (MethodName × ByteArray × Nat × Option FieldType)) := [(258, yX7_isHeatRight, cX7_isHeatRight, 4, (some .boolean)), (259, yX7_cloudAfter, cX7_cloudAfter, 6, (some .int)), (260, yX7_mends, cX7_mends, 7, none), (261, yX7_fallsOn, cX7_fallsOn, 5, (some .int)), (262, yX7_nature, cX7_nature, 5, (some .int)), (263, yX7_areSeats, cX7_areSeats, 5, (some .boolean))]
def tZ44 : List (Nat × (MethodName × ByteArray × Nat × Option FieldType)) := [(264, yX7_proposal, cX7_proposal, 3, (some .int)), (265, yX7_isSat, cX7_isSat, 4, (some .boolean)), (266, yX7_unlike, cX7_unlike, 5, (some .int)), (267, yX7_seats, cX7_seats, 6, (some .int)), (268, yX7_rainy, cX7_rainy, 3, (some .int)), (269, yX7_reshuffle, cX7_reshuffle, 7, (some .int))]
def tZ45 : List (Nat × (MethodName × ByteArray × Nat × Option FieldType)) := [(270, yX7_leakOf, cX7_leakOf, 3, (some .int)), (271, yX7_leak, cX7_leak, 4, (some .int)), (272, yX7_isFit, cX7_isFit, 5, (some .boolean)), (273, yX7_fitting, cX7_fitting, 4, (some .int)), (274, yX7_extreme, cX7_extreme, 6, (some .int)), (275, yX7_rainyFit, cX7_rainyFit, 3, (some .int))]
def tZ46 : List (Nat × (MethodName × ByteArray × Nat × Option FieldType)) := [(276, yX7_fits, cX7_fits, 9, (some .int)), (277, yX7_below, cX7_below, 2, (some .int)), (278, yX7_thereAt, cX7_thereAt, 4, (some .int)), (279, yX7_drawn, cX7_drawn, 12, (some .int)), (280, yX7_count, cX7_count, 2, (some .int)), (281, yX7_image, cX7_image, 3, (some .boolean))]
def tZ47 : List (Nat × (MethodName × ByteArray × Nat × Option FieldType)) := [(282, yX7_again, cX7_again, 3, (some .boolean)), (283, yJ0_length_8abf5, cJ0_length_8abf5, 1, (some .int)), (284, yJ0_isEmpty_aae02, cJ0_isEmpty_aae02, 1, (some .boolean)), (285, yJ0_charAt_5068e, cJ0_charAt_5068e, 2, (some .char)), (286, yJ0_coder_7d493, cJ0_coder_7d493, 1, (some .byte)), (287, yJ0_isLatin1_aae02, cJ0_isLatin1_aae02, 1, (some .boolean))]
def tZ48 : List (Nat × (MethodName × ByteArray × Nat × Option FieldType)) := [(288, yJ0_checkIndex_df160, cJ0_checkIndex_df160, 2, none), (289, yJ1_charAt_3b067, cJ1_charAt_3b067, 2, (some .char)), (290, yJ3_checkIndex_8e157, cJ3_checkIndex_8e157, 3, (some .int)), (291, yJ6_bitCount_0f7a4, cJ6_bitCount_0f7a4, 1, (some .int)), (292, yJ7_fill_53178, cJ7_fill_53178, 4, none), (293, yL_law, cL_law, 4, (some .boolean))]
def yq (y : Nat) : MethodName × ByteArray × Nat × Option FieldType := (bif Nat.ble 144 y then (bif Nat.ble 216 y then (bif Nat.ble 252 y then (bif Nat.ble 270 y then (bif Nat.ble 282 y then (bif Nat.ble 288 y then xk tZ48 y else xk tZ47 y) else (bif Nat.ble 276 y then xk tZ46 y else xk tZ45 y)) else (bif Nat.ble 258 y then (bif Nat.ble 264 y then xk tZ44 y else xk tZ43 y) else xk tZ42 y)) else (bif Nat.ble 234 y then (bif Nat.ble 240 y then (bif Nat.ble 246 y then xk tZ41 y else xk tZ40 y) else xk tZ39 y) else (bif Nat.ble 222 y then (bif Nat.ble 228 y then xk tZ38 y else xk tZ37 y) else xk tZ36 y))) else (bif Nat.ble 180 y then (bif Nat.ble 198 y then (bif Nat.ble 204 y then (bif Nat.ble 210 y then xk tZ35 y else xk tZ34 y) else xk tZ33 y) else (bif Nat.ble 186 y then (bif Nat.ble 192 y then xk tZ32 y else xk tZ31 y) else xk tZ30 y)) else (bif Nat.ble 162 y then (bif Nat.ble 168 y then (bif Nat.ble 174 y then xk tZ29 y else xk tZ28 y) else xk tZ27 y) else (bif Nat.ble 150 y then (bif Nat.ble 156 y then xk tZ26 y else xk tZ25 y) else xk tZ24 y)))) else (bif Nat.ble 72 y then (bif Nat.ble 108 y then (bif Nat.ble 126 y then (bif Nat.ble 132 y then (bif Nat.ble 138 y then xk tZ23 y else xk tZ22 y) else xk tZ21 y) else (bif Nat.ble 114 y then (bif Nat.ble 120 y then xk tZ20 y else xk tZ19 y) else xk tZ18 y)) else (bif Nat.ble 90 y then (bif Nat.ble 96 y then (bif Nat.ble 102 y then xk tZ17 y else xk tZ16 y) else xk tZ15 y) else (bif Nat.ble 78 y then (bif Nat.ble 84 y then xk tZ14 y else xk tZ13 y) else xk tZ12 y))) else (bif Nat.ble 36 y then (bif Nat.ble 54 y then (bif Nat.ble 60 y then (bif Nat.ble 66 y then xk tZ11 y else xk tZ10 y) else xk tZ9 y) else (bif Nat.ble 42 y then (bif Nat.ble 48 y then xk tZ8 y else xk tZ7 y) else xk tZ6 y)) else (bif Nat.ble 18 y then (bif Nat.ble 24 y then (bif Nat.ble 30 y then xk tZ5 y else xk tZ4 y) else xk tZ3 y) else (bif Nat.ble 6 y then (bif Nat.ble 12 y then xk tZ2 y else xk tZ1 y) else xk tZ0 y))))).getD (⟨"", "", ""⟩, ⟨#[]⟩, 0, none)
def tL0 : List (Nat × (Int32 ⊕ Nat)) := [(189, .inl 1103515245)]
def tL1 : List (Nat × (Int32 ⊕ Nat)) := [(83, .inr 0), (85, .inr 1), (87, .inr 2), (89, .inr 3), (91, .inr 4), (93, .inr 5), (95, .inr 6), (97, .inr 7), (99, .inr 8), (101, .inr 9), (103, .inr 10), (105, .inr 11), (107, .inr 12), (163, .inr 13), (179, .inr 14), (181, .inr 15), (183, .inr 16), (185, .inr 17)]
def tL7 : List (Nat × (Int32 ⊕ Nat)) := [(447, .inl 1103515245)]
def tL16 : List (Nat × (Int32 ⊕ Nat)) := [(265, .inl 1431655765), (266, .inl 858993459), (267, .inl 252645135)]
def tL (o : Nat) : List (Nat × (Int32 ⊕ Nat)) := (xk [(0, tL0), (1, tL1), (7, tL7), (16, tL16)] o).getD []
def tJ7 : List (Nat × (Int64)) := [(40, 1048576), (70, 32), (72, 96)]
def tJ (o : Nat) : List (Nat × (Int64)) := (xk [(7, tJ7)] o).getD []
def tF0_0 : List (Nat × (Nat × Nat × Nat)) := [(12, 0, 0, 2), (18, 0, 4, 2), (22, 0, 5, 2), (29, 0, 1, 0), (39, 0, 2, 0), (42, 0, 3, 0)]
def tF0_1 : List (Nat × (Nat × Nat × Nat)) := [(51, 2, 7, 2), (56, 0, 6, 0), (59, 0, 7, 0), (62, 0, 8, 0), (65, 0, 9, 0), (68, 0, 10, 0)]
def tF0_2 : List (Nat × (Nat × Nat × Nat)) := [(71, 0, 11, 0), (137, 2, 0, 0), (148, 2, 3, 2), (151, 4, 0, 0), (171, 0, 12, 0)]
def tF0 (k : Nat) : List (Nat × (Nat × Nat × Nat)) := (bif Nat.ble 51 k then (bif Nat.ble 71 k then tF0_2 else tF0_1) else tF0_0)
def tF1_0 : List (Nat × (Nat × Nat × Nat)) := [(12, 1, 0, 2), (21, 1, 1, 2), (25, 1, 4, 2), (29, 1, 5, 2), (40, 1, 7, 0), (48, 1, 11, 0)]
def tF1_1 : List (Nat × (Nat × Nat × Nat)) := [(51, 2, 0, 0), (54, 1, 6, 0), (65, 1, 2, 0), (71, 1, 9, 0), (74, 1, 10, 0), (80, 1, 8, 0)]
def tF1 (k : Nat) : List (Nat × (Nat × Nat × Nat)) := (bif Nat.ble 51 k then tF1_1 else tF1_0)
def tF2_0 : List (Nat × (Nat × Nat × Nat)) := [(9, 2, 1, 2), (15, 2, 2, 2), (18, 2, 3, 2), (21, 2, 4, 2), (24, 2, 5, 2), (27, 2, 6, 2)]
def tF2_1 : List (Nat × (Nat × Nat × Nat)) := [(30, 2, 7, 2), (33, 2, 0, 0), (43, 2, 8, 0), (46, 2, 9, 0), (49, 2, 10, 0), (52, 2, 11, 0)]
def tF2_2 : List (Nat × (Nat × Nat × Nat)) := [(55, 2, 12, 0), (58, 2, 13, 0)]
def tF2 (k : Nat) : List (Nat × (Nat × Nat × Nat)) := (bif Nat.ble 30 k then (bif Nat.ble 55 k then tF2_2 else tF2_1) else tF2_0)
def tF3_0 : List (Nat × (Nat × Nat × Nat)) := [(9, 3, 1, 2), (15, 3, 0, 0)]
def tF3 (_ : Nat) : List (Nat × (Nat × Nat × Nat)) := tF3_0
def tF4_0 : List (Nat × (Nat × Nat × Nat)) := [(9, 2, 11, 0), (15, 4, 0, 0), (18, 2, 12, 0), (21, 4, 1, 0), (22, 2, 13, 0), (25, 4, 2, 0)]
def tF4 (_ : Nat) : List (Nat × (Nat × Nat × Nat)) := tF4_0
def tF5_0 : List (Nat × (Nat × Nat × Nat)) := [(9, 5, 0, 2), (15, 5, 3, 0), (19, 5, 4, 2), (24, 5, 5, 2), (30, 5, 6, 2), (40, 5, 1, 0)]
def tF5_1 : List (Nat × (Nat × Nat × Nat)) := [(43, 5, 2, 0)]
def tF5 (k : Nat) : List (Nat × (Nat × Nat × Nat)) := (bif Nat.ble 43 k then tF5_1 else tF5_0)
def tF6_0 : List (Nat × (Nat × Nat × Nat)) := [(10, 6, 0, 2), (16, 6, 1, 2), (23, 6, 2, 2), (30, 6, 3, 2), (37, 6, 4, 2), (41, 6, 5, 2)]
def tF6_1 : List (Nat × (Nat × Nat × Nat)) := [(45, 6, 6, 2), (48, 6, 7, 2), (51, 5, 1, 0), (59, 5, 0, 2), (70, 5, 2, 0), (73, 5, 3, 0)]
def tF6_2 : List (Nat × (Nat × Nat × Nat)) := [(79, 1, 2, 0), (80, 1, 3, 0), (85, 5, 4, 2), (96, 1, 0, 2), (110, 1, 1, 2), (132, 2, 0, 0)]
def tF6_3 : List (Nat × (Nat × Nat × Nat)) := [(135, 2, 9, 0), (138, 2, 10, 0), (141, 2, 11, 0), (144, 2, 12, 0), (147, 2, 13, 0), (150, 2, 7, 2)]
def tF6_4 : List (Nat × (Nat × Nat × Nat)) := [(157, 2, 1, 2), (160, 2, 2, 2), (163, 2, 3, 2), (166, 2, 4, 2), (169, 2, 8, 0), (176, 2, 6, 2)]
def tF6_5 : List (Nat × (Nat × Nat × Nat)) := [(189, 3, 0, 0), (235, 0, 6, 0), (238, 0, 1, 0), (241, 0, 2, 0), (244, 0, 3, 0), (247, 0, 0, 2)]
def tF6_6 : List (Nat × (Nat × Nat × Nat)) := [(248, 4, 0, 0), (249, 4, 1, 0), (250, 4, 2, 0), (251, 0, 7, 0), (258, 0, 8, 0), (261, 0, 5, 2)]
def tF6_7 : List (Nat × (Nat × Nat × Nat)) := [(262, 0, 4, 2), (269, 0, 9, 0), (272, 0, 10, 0)]
def tF6 (k : Nat) : List (Nat × (Nat × Nat × Nat)) := (bif Nat.ble 157 k then (bif Nat.ble 248 k then (bif Nat.ble 262 k then tF6_7 else tF6_6) else (bif Nat.ble 189 k then tF6_5 else tF6_4)) else (bif Nat.ble 79 k then (bif Nat.ble 135 k then tF6_3 else tF6_2) else (bif Nat.ble 45 k then tF6_1 else tF6_0)))
def tF7_0 : List (Nat × (Nat × Nat × Nat)) := [(7, 7, 0, 2), (13, 7, 1, 2), (17, 7, 10, 2), (20, 7, 27, 2), (23, 7, 28, 2), (26, 7, 31, 2)]
def tF7_1 : List (Nat × (Nat × Nat × Nat)) := [(29, 7, 32, 2), (32, 7, 2, 0), (53, 7, 3, 0), (60, 7, 4, 0), (63, 7, 5, 0), (77, 7, 7, 0)]
def tF7_2 : List (Nat × (Nat × Nat × Nat)) := [(83, 7, 6, 0), (86, 7, 8, 1), (111, 7, 9, 0), (175, 7, 11, 0), (196, 7, 12, 0), (199, 7, 13, 0)]
def tF7_3 : List (Nat × (Nat × Nat × Nat)) := [(202, 7, 14, 0), (205, 7, 16, 0), (214, 7, 15, 0), (226, 7, 18, 0), (251, 7, 17, 0), (272, 7, 19, 0)]
def tF7_4 : List (Nat × (Nat × Nat × Nat)) := [(275, 7, 20, 0), (278, 7, 21, 0), (281, 7, 22, 0), (284, 7, 23, 0), (287, 7, 24, 0), (290, 7, 25, 0)]
def tF7_5 : List (Nat × (Nat × Nat × Nat)) := [(293, 7, 26, 0), (305, 7, 29, 0), (381, 7, 30, 0), (426, 7, 33, 0), (444, 7, 34, 0)]
def tF7 (k : Nat) : List (Nat × (Nat × Nat × Nat)) := (bif Nat.ble 202 k then (bif Nat.ble 275 k then (bif Nat.ble 293 k then tF7_5 else tF7_4) else tF7_3) else (bif Nat.ble 29 k then (bif Nat.ble 83 k then tF7_2 else tF7_1) else tF7_0))
def tF10_0 : List (Nat × (Nat × Nat × Nat)) := [(9, 0, 0, 3), (15, 0, 0, 4)]
def tF10 (_ : Nat) : List (Nat × (Nat × Nat × Nat)) := tF10_0
def tF (o k : Nat) : List (Nat × (Nat × Nat × Nat)) := (bif Nat.ble 4 o then (bif Nat.ble 6 o then (bif Nat.ble 7 o then (bif Nat.ble 10 o then (bif Nat.beq 10 o then tF10 k else []) else (bif Nat.beq 7 o then tF7 k else [])) else (bif Nat.beq 6 o then tF6 k else [])) else (bif Nat.ble 5 o then (bif Nat.beq 5 o then tF5 k else []) else (bif Nat.beq 4 o then tF4 k else []))) else (bif Nat.ble 2 o then (bif Nat.ble 3 o then (bif Nat.beq 3 o then tF3 k else []) else (bif Nat.beq 2 o then tF2 k else [])) else (bif Nat.ble 1 o then (bif Nat.beq 1 o then tF1 k else []) else (bif Nat.beq 0 o then tF0 k else []))))
def tP0_0 : List (Nat × (Nat × Nat × Nat × Bool)) := [(12, 0, 0, 2, true), (18, 0, 4, 2, true), (22, 0, 5, 2, true), (29, 0, 1, 0, false), (39, 0, 2, 0, false), (42, 0, 3, 0, false)]
def tP0_1 : List (Nat × (Nat × Nat × Nat × Bool)) := [(56, 0, 6, 0, false), (59, 0, 7, 0, false), (62, 0, 8, 0, false), (65, 0, 9, 0, false), (68, 0, 10, 0, false), (71, 0, 11, 0, false)]
def tP0_2 : List (Nat × (Nat × Nat × Nat × Bool)) := [(171, 0, 12, 0, false)]
def tP0 (k : Nat) : List (Nat × (Nat × Nat × Nat × Bool)) := (bif Nat.ble 56 k then (bif Nat.ble 171 k then tP0_2 else tP0_1) else tP0_0)
def tP1_0 : List (Nat × (Nat × Nat × Nat × Bool)) := [(12, 1, 0, 2, true), (21, 1, 1, 2, true), (25, 1, 4, 2, true), (29, 1, 5, 2, true), (40, 1, 7, 0, false), (48, 1, 11, 0, false)]
def tP1_1 : List (Nat × (Nat × Nat × Nat × Bool)) := [(54, 1, 6, 0, false), (65, 1, 2, 0, false), (68, 1, 3, 0, false), (71, 1, 9, 0, false), (74, 1, 10, 0, false), (80, 1, 8, 0, false)]
def tP1 (k : Nat) : List (Nat × (Nat × Nat × Nat × Bool)) := (bif Nat.ble 54 k then tP1_1 else tP1_0)
def tP2_0 : List (Nat × (Nat × Nat × Nat × Bool)) := [(9, 2, 1, 2, true), (15, 2, 2, 2, true), (18, 2, 3, 2, true), (21, 2, 4, 2, true), (24, 2, 5, 2, true), (27, 2, 6, 2, true)]
def tP2_1 : List (Nat × (Nat × Nat × Nat × Bool)) := [(30, 2, 7, 2, true), (33, 2, 0, 0, false), (43, 2, 8, 0, false), (46, 2, 9, 0, false), (49, 2, 10, 0, false), (52, 2, 11, 0, false)]
def tP2_2 : List (Nat × (Nat × Nat × Nat × Bool)) := [(55, 2, 12, 0, false), (58, 2, 13, 0, false)]
def tP2 (k : Nat) : List (Nat × (Nat × Nat × Nat × Bool)) := (bif Nat.ble 30 k then (bif Nat.ble 55 k then tP2_2 else tP2_1) else tP2_0)
def tP3_0 : List (Nat × (Nat × Nat × Nat × Bool)) := [(9, 3, 1, 2, true), (15, 3, 0, 0, false)]
def tP3 (_ : Nat) : List (Nat × (Nat × Nat × Nat × Bool)) := tP3_0
def tP4_0 : List (Nat × (Nat × Nat × Nat × Bool)) := [(15, 4, 0, 0, false), (21, 4, 1, 0, false), (25, 4, 2, 0, false)]
def tP4 (_ : Nat) : List (Nat × (Nat × Nat × Nat × Bool)) := tP4_0
def tP5_0 : List (Nat × (Nat × Nat × Nat × Bool)) := [(9, 5, 0, 2, true), (15, 5, 3, 0, false), (19, 5, 4, 2, true), (24, 5, 5, 2, true), (30, 5, 6, 2, true), (40, 5, 1, 0, false)]
def tP5_1 : List (Nat × (Nat × Nat × Nat × Bool)) := [(43, 5, 2, 0, false)]
def tP5 (k : Nat) : List (Nat × (Nat × Nat × Nat × Bool)) := (bif Nat.ble 43 k then tP5_1 else tP5_0)
def tP6_0 : List (Nat × (Nat × Nat × Nat × Bool)) := [(10, 6, 0, 2, true), (16, 6, 1, 2, true), (23, 6, 2, 2, true), (30, 6, 3, 2, true), (37, 6, 4, 2, true), (41, 6, 5, 2, true)]
def tP6_1 : List (Nat × (Nat × Nat × Nat × Bool)) := [(45, 6, 6, 2, true), (48, 6, 7, 2, true), (51, 5, 1, 0, false), (70, 5, 2, 0, false), (73, 5, 3, 0, false)]
def tP6 (k : Nat) : List (Nat × (Nat × Nat × Nat × Bool)) := (bif Nat.ble 45 k then tP6_1 else tP6_0)
def tP7_0 : List (Nat × (Nat × Nat × Nat × Bool)) := [(7, 7, 0, 2, true), (13, 7, 1, 2, true), (17, 7, 10, 2, true), (20, 7, 27, 2, true), (23, 7, 28, 2, true), (26, 7, 31, 2, true)]
def tP7_1 : List (Nat × (Nat × Nat × Nat × Bool)) := [(29, 7, 32, 2, true), (32, 7, 2, 0, false), (53, 7, 3, 0, false), (60, 7, 4, 0, false), (63, 7, 5, 0, false), (77, 7, 7, 0, false)]
def tP7_2 : List (Nat × (Nat × Nat × Nat × Bool)) := [(83, 7, 6, 0, false), (86, 7, 8, 1, false), (111, 7, 9, 0, false), (175, 7, 11, 0, false), (196, 7, 12, 0, false), (199, 7, 13, 0, false)]
def tP7_3 : List (Nat × (Nat × Nat × Nat × Bool)) := [(202, 7, 14, 0, false), (205, 7, 16, 0, false), (214, 7, 15, 0, false), (226, 7, 18, 0, false), (251, 7, 17, 0, false), (272, 7, 19, 0, false)]
def tP7_4 : List (Nat × (Nat × Nat × Nat × Bool)) := [(275, 7, 20, 0, false), (278, 7, 21, 0, false), (281, 7, 22, 0, false), (284, 7, 23, 0, false), (287, 7, 24, 0, false), (290, 7, 25, 0, false)]
def tP7_5 : List (Nat × (Nat × Nat × Nat × Bool)) := [(293, 7, 26, 0, false), (305, 7, 29, 0, false), (381, 7, 30, 0, false), (426, 7, 33, 0, false), (444, 7, 34, 0, false)]
def tP7 (k : Nat) : List (Nat × (Nat × Nat × Nat × Bool)) := (bif Nat.ble 202 k then (bif Nat.ble 275 k then (bif Nat.ble 293 k then tP7_5 else tP7_4) else tP7_3) else (bif Nat.ble 29 k then (bif Nat.ble 83 k then tP7_2 else tP7_1) else tP7_0))
def tP (o k : Nat) : List (Nat × (Nat × Nat × Nat × Bool)) := (bif Nat.ble 4 o then (bif Nat.ble 6 o then (bif Nat.ble 7 o then (bif Nat.beq 7 o then tP7 k else []) else (bif Nat.beq 6 o then tP6 k else [])) else (bif Nat.ble 5 o then (bif Nat.beq 5 o then tP5 k else []) else (bif Nat.beq 4 o then tP4 k else []))) else (bif Nat.ble 2 o then (bif Nat.ble 3 o then (bif Nat.beq 3 o then tP3 k else []) else (bif Nat.beq 2 o then tP2 k else [])) else (bif Nat.ble 1 o then (bif Nat.beq 1 o then tP1 k else []) else (bif Nat.beq 0 o then tP0 k else []))))
def tS1 : List (Nat × (EV)) := [(153, eK 0)]
def tS6 : List (Nat × (EV)) := [(303, eK 1)]
def tS10 : List (Nat × (EV)) := [(38, eI 1), (1053, eK 100)]
def tS (o : Nat) : List (Nat × (EV)) := (xk [(1, tS1), (6, tS6), (10, tS10)] o).getD []
def tN0 : List (Nat × (Nat × List EV)) := [(9, 4, [eI 0, eI 0, eI 0])]
def tN1 : List (Nat × (Nat × List EV)) := [(9, 2, [eI 0, eN, eN, eN, eN, eN, eN, eN, eI 0, eI 0, eI 0, eI 0, eI 0, eI 0]), (18, 3, [eI 0, eN])]
def tN5 : List (Nat × (Nat × List EV)) := [(22, 2, [eI 0, eN, eN, eN, eN, eN, eN, eN, eI 0, eI 0, eI 0, eI 0, eI 0, eI 0]), (28, 3, [eI 0, eN])]
def tN6 : List (Nat × (Nat × List EV)) := [(7, 5, [eN, eI 0, eI 0, eI 0, eN, eN, eN]), (20, 1, [eN, eN, eI 0, eI 0, eN, eN, eI 0, eI 0, eI 0, eI 0, eI 0, eI 0]), (27, 0, [eN, eI 0, eI 0, eI 0, eN, eN, eI 0, eI 0, eI 0, eI 0, eI 0, eI 0, eI 0]), (34, 4, [eI 0, eI 0, eI 0])]
def tN8 : List (Nat × (Nat × List EV)) := [(7, 6, [eN, eN, eN, eN, eN, eN, eN, eN]), (10, 7, [eN, eN, eI 0, eI 0, eI 0, eI 0, eI 0, eI 0, eI 0, eI 0, eN, eI 0, eI 0, eI 0, eI 0, eI 0, eI 0, eI 0, eI 0, eI 0, eI 0, eI 0, eI 0, eI 0, eI 0, eI 0, eI 0, eN, eN, eI 0, eI 0, eN, eN, eI 0, eI 0])]
def tN (o : Nat) : List (Nat × (Nat × List EV)) := (xk [(0, tN0), (1, tN1), (5, tN5), (6, tN6), (8, tN8)] o).getD []
def tQ5 : List (Nat × (Nat)) := [(22, 2), (28, 3)]
def tQ6 : List (Nat × (Nat)) := [(7, 4)]
def tQ (o : Nat) : List (Nat × (Nat)) := (xk [(5, tQ5), (6, tQ6)] o).getD []
def tC0_0 : List (Nat × (Nat × Nat × Nat × Nat × Nat)) := [(3, 6, 0, 0, 0, 0), (11, 4, 63, 0, 0, 0), (25, 2, 64, 1, 0, 4), (33, 2, 47, 0, 1, 2), (45, 0, 292, 2, 0, 0), (52, 1, 146, 2, 0, 0)]
def tC0_1 : List (Nat × (Nat × Nat × Nat × Nat × Nat)) := [(74, 2, 1, 1, 0, 0), (77, 2, 3, 4, 1, 0), (81, 2, 59, 2, 1, 3), (87, 2, 61, 2, 1, 3), (90, 1, 143, 2, 1, 0), (94, 2, 65, 1, 1, 4)]
def tC0_2 : List (Nat × (Nat × Nat × Nat × Nat × Nat)) := [(98, 1, 95, 4, 1, 0), (102, 2, 7, 3, 0, 0), (106, 2, 4, 2, 1, 0), (109, 2, 5, 1, 1, 0), (112, 2, 6, 2, 1, 0), (116, 2, 9, 0, 0, 0)]
def tC0_3 : List (Nat × (Nat × Nat × Nat × Nat × Nat)) := [(119, 1, 145, 3, 0, 0), (123, 2, 46, 1, 1, 2), (126, 2, 51, 3, 1, 2), (130, 2, 53, 2, 1, 2), (133, 2, 10, 1, 0, 0), (140, 2, 8, 3, 0, 0)]
def tC0_4 : List (Nat × (Nat × Nat × Nat × Nat × Nat)) := [(144, 1, 144, 2, 1, 0), (154, 7, 0, 0, 1, 0), (159, 1, 141, 3, 1, 0), (162, 2, 66, 1, 0, 4), (165, 1, 142, 2, 1, 0), (168, 8, 0, 0, 1, 0)]
def tC0_5 : List (Nat × (Nat × Nat × Nat × Nat × Nat)) := [(174, 2, 12, 1, 0, 0), (177, 0, 291, 1, 1, 0), (183, 2, 14, 1, 1, 0), (186, 2, 13, 1, 1, 0)]
def tC0 (k : Nat) : List (Nat × (Nat × Nat × Nat × Nat × Nat)) := (bif Nat.ble 119 k then (bif Nat.ble 144 k then (bif Nat.ble 174 k then tC0_5 else tC0_4) else tC0_3) else (bif Nat.ble 74 k then (bif Nat.ble 98 k then tC0_2 else tC0_1) else tC0_0))
def tC1_0 : List (Nat × (Nat × Nat × Nat × Nat × Nat)) := [(3, 6, 0, 0, 0, 0), (11, 4, 40, 0, 0, 0), (20, 4, 56, 0, 0, 0), (32, 1, 146, 2, 0, 0), (36, 2, 17, 1, 0, 1), (44, 2, 22, 1, 1, 1)]
def tC1_1 : List (Nat × (Nat × Nat × Nat × Nat × Nat)) := [(57, 2, 18, 2, 0, 1), (61, 2, 41, 0, 0, 2), (64, 2, 57, 0, 0, 3), (77, 2, 36, 0, 0, 1), (109, 0, 20, 1, 4, 0), (113, 2, 33, 1, 1, 1)]
def tC1_2 : List (Nat × (Nat × Nat × Nat × Nat × Nat)) := [(117, 2, 19, 0, 1, 1), (121, 2, 23, 2, 0, 1), (124, 0, 292, 2, 0, 0), (130, 0, 21, 1, 4, 0), (133, 0, 35, 2, 1, 0), (137, 5, 283, 0, 1, 0)]
def tC1_3 : List (Nat × (Nat × Nat × Nat × Nat × Nat)) := [(142, 5, 285, 1, 1, 0), (146, 2, 24, 2, 1, 1), (150, 2, 30, 2, 0, 1), (156, 1, 144, 2, 1, 0), (160, 2, 26, 0, 1, 1), (165, 0, 25, 1, 4, 0)]
def tC1_4 : List (Nat × (Nat × Nat × Nat × Nat × Nat)) := [(169, 5, 284, 0, 1, 0), (172, 2, 27, 2, 1, 1), (175, 1, 145, 3, 0, 0), (187, 0, 28, 1, 1, 0), (191, 0, 29, 1, 1, 0), (194, 2, 43, 2, 0, 2)]
def tC1_5 : List (Nat × (Nat × Nat × Nat × Nat × Nat)) := [(198, 2, 31, 1, 0, 1), (201, 2, 32, 1, 0, 1), (204, 2, 62, 3, 0, 3), (208, 2, 60, 3, 0, 3), (212, 2, 34, 3, 1, 1), (216, 0, 37, 1, 1, 0)]
def tC1_6 : List (Nat × (Nat × Nat × Nat × Nat × Nat)) := [(219, 0, 38, 1, 1, 0), (222, 0, 39, 1, 1, 0)]
def tC1 (k : Nat) : List (Nat × (Nat × Nat × Nat × Nat × Nat)) := (bif Nat.ble 142 k then (bif Nat.ble 198 k then (bif Nat.ble 219 k then tC1_6 else tC1_5) else (bif Nat.ble 169 k then tC1_4 else tC1_3)) else (bif Nat.ble 57 k then (bif Nat.ble 117 k then tC1_2 else tC1_1) else tC1_0))
def tC2_0 : List (Nat × (Nat × Nat × Nat × Nat × Nat)) := [(3, 6, 0, 0, 0, 0), (37, 0, 292, 2, 0, 0), (61, 1, 146, 2, 0, 0), (65, 1, 144, 2, 1, 0), (69, 2, 44, 1, 0, 2), (73, 1, 145, 3, 0, 0)]
def tC2_1 : List (Nat × (Nat × Nat × Nat × Nat × Nat)) := [(77, 2, 45, 2, 0, 2), (81, 1, 142, 2, 1, 0), (85, 9, 0, 0, 1, 0), (91, 1, 143, 2, 1, 0), (95, 2, 49, 3, 1, 2), (99, 2, 50, 2, 1, 2)]
def tC2_2 : List (Nat × (Nat × Nat × Nat × Nat × Nat)) := [(102, 2, 52, 1, 1, 2), (105, 2, 46, 1, 1, 2), (109, 2, 48, 2, 1, 2), (112, 1, 141, 3, 1, 0)]
def tC2 (k : Nat) : List (Nat × (Nat × Nat × Nat × Nat × Nat)) := (bif Nat.ble 77 k then (bif Nat.ble 102 k then tC2_2 else tC2_1) else tC2_0)
def tC3_0 : List (Nat × (Nat × Nat × Nat × Nat × Nat)) := [(3, 6, 0, 0, 0, 0), (19, 0, 292, 2, 0, 0), (25, 1, 146, 2, 0, 0), (29, 1, 144, 2, 1, 0), (33, 1, 145, 3, 0, 0), (37, 2, 59, 2, 1, 3)]
def tC3_1 : List (Nat × (Nat × Nat × Nat × Nat × Nat)) := [(41, 1, 141, 3, 1, 0), (45, 2, 60, 3, 0, 3)]
def tC3 (k : Nat) : List (Nat × (Nat × Nat × Nat × Nat × Nat)) := (bif Nat.ble 41 k then tC3_1 else tC3_0)
def tC4_0 : List (Nat × (Nat × Nat × Nat × Nat × Nat)) := [(3, 6, 0, 0, 0, 0), (26, 1, 142, 2, 1, 0), (30, 7, 0, 0, 1, 0)]
def tC4 (_ : Nat) : List (Nat × (Nat × Nat × Nat × Nat × Nat)) := tC4_0
def tC5_0 : List (Nat × (Nat × Nat × Nat × Nat × Nat)) := [(3, 6, 0, 0, 0, 0), (34, 4, 40, 0, 0, 0), (35, 4, 56, 0, 0, 0), (36, 1, 146, 2, 0, 0), (46, 2, 42, 1, 0, 2), (50, 2, 58, 1, 0, 3)]
def tC5 (_ : Nat) : List (Nat × (Nat × Nat × Nat × Nat × Nat)) := tC5_0
def tC6_0 : List (Nat × (Nat × Nat × Nat × Nat × Nat)) := [(1, 6, 0, 0, 0, 0), (9, 3, 67, 0, 0, 0), (22, 4, 15, 0, 0, 0), (29, 4, 0, 0, 0, 0), (36, 4, 63, 0, 0, 0), (55, 2, 73, 1, 0, 6)]
def tC6_1 : List (Nat × (Nat × Nat × Nat × Nat × Nat)) := [(62, 0, 145, 3, 0, 0), (66, 2, 76, 2, 1, 6), (76, 2, 16, 3, 0, 1), (81, 2, 77, 2, 0, 6), (88, 0, 144, 2, 1, 0), (92, 2, 68, 1, 3, 5)]
def tC6_2 : List (Nat × (Nat × Nat × Nat × Nat × Nat)) := [(100, 2, 42, 1, 0, 2), (106, 2, 69, 2, 3, 5), (114, 2, 58, 1, 0, 3), (120, 8, 0, 0, 1, 0), (125, 2, 70, 1, 0, 5), (129, 2, 82, 1, 3, 6)]
def tC6_3 : List (Nat × (Nat × Nat × Nat × Nat × Nat)) := [(153, 2, 46, 1, 1, 2), (172, 0, 143, 2, 1, 0), (179, 2, 48, 2, 1, 2), (182, 2, 83, 2, 3, 6), (185, 0, 90, 4, 1, 0), (190, 2, 59, 2, 1, 3)]
def tC6_4 : List (Nat × (Nat × Nat × Nat × Nat × Nat)) := [(193, 0, 138, 1, 1, 0), (196, 0, 140, 3, 1, 0), (200, 2, 91, 4, 3, 6), (204, 2, 49, 3, 1, 2), (207, 2, 51, 3, 1, 2), (210, 2, 47, 0, 1, 2)]
def tC6_5 : List (Nat × (Nat × Nat × Nat × Nat × Nat)) := [(214, 2, 53, 2, 1, 2), (217, 0, 95, 4, 1, 0), (220, 0, 96, 5, 1, 0), (224, 0, 142, 2, 1, 0), (227, 2, 2, 4, 1, 0), (231, 2, 99, 2, 1, 6)]
def tC6_6 : List (Nat × (Nat × Nat × Nat × Nat × Nat)) := [(254, 2, 52, 1, 1, 2), (265, 2, 11, 3, 0, 0), (275, 2, 103, 4, 1, 6), (279, 2, 104, 5, 1, 6), (283, 2, 64, 1, 0, 4), (286, 2, 65, 1, 1, 4)]
def tC6_7 : List (Nat × (Nat × Nat × Nat × Nat × Nat)) := [(289, 2, 102, 5, 1, 6), (293, 0, 105, 2, 1, 0), (297, 0, 141, 3, 1, 0), (300, 0, 107, 2, 1, 0), (306, 0, 147, 3, 1, 0), (310, 0, 291, 1, 1, 0)]
def tC6_8 : List (Nat × (Nat × Nat × Nat × Nat × Nat)) := [(315, 0, 109, 1, 1, 0), (319, 0, 110, 2, 1, 0), (322, 0, 111, 2, 1, 0), (326, 0, 113, 5, 1, 0), (330, 2, 50, 2, 1, 2), (333, 0, 115, 4, 1, 0)]
def tC6_9 : List (Nat × (Nat × Nat × Nat × Nat × Nat)) := [(337, 0, 116, 5, 1, 0), (341, 0, 117, 4, 1, 0), (345, 0, 119, 3, 1, 0), (349, 0, 120, 3, 1, 0), (353, 2, 122, 2, 1, 6), (357, 2, 123, 2, 1, 6)]
def tC6_10 : List (Nat × (Nat × Nat × Nat × Nat × Nat)) := [(360, 2, 61, 2, 1, 3), (363, 2, 66, 1, 0, 4), (366, 7, 0, 0, 1, 0), (369, 2, 125, 2, 1, 6), (372, 2, 127, 2, 1, 6), (375, 2, 128, 3, 1, 6)]
def tC6_11 : List (Nat × (Nat × Nat × Nat × Nat × Nat)) := [(379, 2, 54, 1, 1, 2), (382, 0, 126, 3, 1, 0), (386, 2, 55, 2, 1, 2), (389, 0, 292, 2, 0, 0), (395, 0, 130, 2, 1, 0), (398, 0, 132, 2, 1, 0)]
def tC6_12 : List (Nat × (Nat × Nat × Nat × Nat × Nat)) := [(402, 0, 134, 5, 1, 0), (405, 0, 135, 5, 1, 0), (408, 0, 137, 4, 1, 0), (411, 0, 136, 6, 1, 0), (415, 0, 133, 5, 1, 0), (419, 0, 139, 1, 1, 0)]
def tC6_13 : List (Nat × (Nat × Nat × Nat × Nat × Nat)) := [(422, 10, 0, 0, 0, 0), (428, 0, 148, 2, 1, 0)]
def tC6 (k : Nat) : List (Nat × (Nat × Nat × Nat × Nat × Nat)) := (bif Nat.ble 289 k then (bif Nat.ble 360 k then (bif Nat.ble 402 k then (bif Nat.ble 422 k then tC6_13 else tC6_12) else (bif Nat.ble 379 k then tC6_11 else tC6_10)) else (bif Nat.ble 315 k then (bif Nat.ble 337 k then tC6_9 else tC6_8) else tC6_7)) else (bif Nat.ble 153 k then (bif Nat.ble 214 k then (bif Nat.ble 254 k then tC6_6 else tC6_5) else (bif Nat.ble 193 k then tC6_4 else tC6_3)) else (bif Nat.ble 62 k then (bif Nat.ble 100 k then tC6_2 else tC6_1) else tC6_0)))
def tC7_0 : List (Nat × (Nat × Nat × Nat × Nat × Nat)) := [(1, 6, 0, 0, 0, 0), (36, 0, 156, 4, 2, 0), (42, 0, 157, 8, 2, 0), (46, 0, 159, 1, 1, 0), (50, 0, 160, 1, 1, 0), (56, 2, 153, 1, 1, 7)]
def tC7_1 : List (Nat × (Nat × Nat × Nat × Nat × Nat)) := [(66, 0, 154, 1, 1, 0), (74, 0, 158, 1, 1, 0), (80, 0, 155, 1, 1, 0), (90, 2, 162, 0, 0, 7), (93, 0, 150, 3, 1, 0), (97, 2, 163, 2, 0, 7)]
def tC7_2 : List (Nat × (Nat × Nat × Nat × Nat × Nat)) := [(101, 2, 161, 0, 0, 7), (104, 2, 165, 2, 1, 7), (108, 2, 164, 2, 1, 7), (114, 2, 169, 0, 1, 7), (118, 2, 168, 0, 1, 7), (121, 2, 170, 1, 0, 7)]
def tC7_3 : List (Nat × (Nat × Nat × Nat × Nat × Nat)) := [(125, 2, 171, 0, 0, 7), (128, 2, 172, 0, 0, 7), (131, 2, 167, 0, 1, 7), (134, 2, 166, 0, 0, 7), (137, 2, 174, 6, 0, 7), (141, 2, 175, 0, 0, 7)]
def tC7_4 : List (Nat × (Nat × Nat × Nat × Nat × Nat)) := [(144, 2, 183, 2, 1, 7), (148, 2, 184, 1, 0, 7), (151, 2, 173, 0, 0, 7), (154, 2, 176, 0, 0, 7), (157, 2, 177, 0, 0, 7), (160, 2, 178, 0, 0, 7)]
def tC7_5 : List (Nat × (Nat × Nat × Nat × Nat × Nat)) := [(163, 2, 179, 0, 0, 7), (166, 2, 180, 0, 0, 7), (169, 0, 182, 1, 1, 0), (172, 0, 181, 2, 1, 0), (178, 2, 216, 0, 0, 7), (181, 2, 188, 1, 1, 7)]
def tC7_6 : List (Nat × (Nat × Nat × Nat × Nat × Nat)) := [(184, 2, 189, 0, 1, 7), (187, 2, 191, 2, 1, 7), (190, 2, 187, 1, 1, 7), (193, 2, 190, 1, 1, 7), (208, 2, 192, 3, 1, 7), (212, 0, 197, 1, 1, 0)]
def tC7_7 : List (Nat × (Nat × Nat × Nat × Nat × Nat)) := [(217, 2, 198, 1, 1, 7), (220, 2, 199, 1, 1, 7), (223, 2, 200, 1, 1, 7), (229, 2, 202, 1, 1, 7), (232, 2, 203, 0, 1, 7), (235, 0, 205, 3, 1, 0)]
def tC7_8 : List (Nat × (Nat × Nat × Nat × Nat × Nat)) := [(238, 2, 196, 1, 0, 7), (241, 2, 206, 6, 1, 7), (245, 2, 201, 0, 1, 7), (248, 2, 204, 1, 1, 7), (254, 2, 209, 1, 1, 7), (257, 2, 210, 2, 1, 7)]
def tC7_9 : List (Nat × (Nat × Nat × Nat × Nat × Nat)) := [(260, 2, 212, 1, 1, 7), (263, 0, 195, 2, 1, 0), (266, 2, 213, 2, 1, 7), (269, 2, 214, 1, 1, 7), (296, 2, 218, 0, 0, 7), (299, 2, 219, 0, 0, 7)]
def tC7_10 : List (Nat × (Nat × Nat × Nat × Nat × Nat)) := [(302, 2, 220, 1, 0, 7), (308, 2, 222, 0, 1, 7), (311, 2, 223, 2, 1, 7), (314, 2, 225, 1, 1, 7), (317, 2, 217, 0, 1, 7), (321, 2, 221, 0, 0, 7)]
def tC7_11 : List (Nat × (Nat × Nat × Nat × Nat × Nat)) := [(324, 2, 226, 1, 1, 7), (327, 2, 227, 1, 0, 7), (330, 2, 228, 3, 1, 7), (333, 2, 229, 1, 0, 7), (336, 2, 232, 2, 1, 7), (340, 0, 233, 2, 1, 0)]
def tC7_12 : List (Nat × (Nat × Nat × Nat × Nat × Nat)) := [(344, 0, 235, 2, 1, 0), (347, 2, 239, 0, 1, 7), (350, 2, 240, 1, 1, 7), (353, 0, 238, 1, 1, 0), (356, 0, 237, 1, 1, 0), (359, 0, 236, 3, 1, 0)]
def tC7_13 : List (Nat × (Nat × Nat × Nat × Nat × Nat)) := [(363, 2, 242, 0, 1, 7), (366, 2, 243, 1, 1, 7), (369, 2, 245, 1, 1, 7), (372, 2, 247, 1, 1, 7), (375, 2, 248, 3, 1, 7), (378, 2, 249, 2, 1, 7)]
def tC7_14 : List (Nat × (Nat × Nat × Nat × Nat × Nat)) := [(384, 2, 254, 2, 1, 7), (387, 2, 252, 1, 1, 7), (390, 2, 253, 0, 1, 7), (393, 2, 255, 1, 1, 7), (396, 2, 259, 3, 1, 7), (399, 2, 257, 0, 1, 7)]
def tC7_15 : List (Nat × (Nat × Nat × Nat × Nat × Nat)) := [(402, 2, 258, 0, 1, 7), (405, 2, 260, 0, 0, 7), (408, 2, 261, 1, 1, 7), (411, 2, 263, 1, 1, 7), (414, 2, 264, 2, 1, 7), (417, 2, 265, 1, 1, 7)]
def tC7_16 : List (Nat × (Nat × Nat × Nat × Nat × Nat)) := [(420, 2, 266, 1, 1, 7), (423, 2, 268, 1, 1, 7), (429, 2, 270, 2, 1, 7), (432, 2, 272, 2, 1, 7), (435, 2, 273, 1, 1, 7), (438, 2, 275, 0, 1, 7)]
def tC7_17 : List (Nat × (Nat × Nat × Nat × Nat × Nat)) := [(441, 2, 274, 2, 1, 7), (448, 2, 277, 1, 1, 7), (451, 2, 278, 1, 1, 7)]
def tC7 (k : Nat) : List (Nat × (Nat × Nat × Nat × Nat × Nat)) := (bif Nat.ble 260 k then (bif Nat.ble 363 k then (bif Nat.ble 402 k then (bif Nat.ble 420 k then (bif Nat.ble 441 k then tC7_17 else tC7_16) else tC7_15) else (bif Nat.ble 384 k then tC7_14 else tC7_13)) else (bif Nat.ble 324 k then (bif Nat.ble 344 k then tC7_12 else tC7_11) else (bif Nat.ble 302 k then tC7_10 else tC7_9))) else (bif Nat.ble 144 k then (bif Nat.ble 184 k then (bif Nat.ble 217 k then (bif Nat.ble 238 k then tC7_8 else tC7_7) else tC7_6) else (bif Nat.ble 163 k then tC7_5 else tC7_4)) else (bif Nat.ble 101 k then (bif Nat.ble 125 k then tC7_3 else tC7_2) else (bif Nat.ble 66 k then tC7_1 else tC7_0))))
def tC8_0 : List (Nat × (Nat × Nat × Nat × Nat × Nat)) := [(9, 3, 71, 0, 0, 0), (12, 3, 149, 0, 0, 0), (13, 2, 72, 5, 1, 6), (17, 2, 151, 5, 1, 7), (18, 2, 74, 1, 1, 6), (22, 2, 152, 1, 1, 7)]
def tC8_1 : List (Nat × (Nat × Nat × Nat × Nat × Nat)) := [(23, 2, 75, 2, 1, 6), (27, 2, 185, 2, 1, 7), (28, 2, 78, 1, 1, 6), (31, 2, 186, 1, 1, 7), (32, 2, 84, 2, 1, 6), (35, 2, 193, 2, 1, 7)]
def tC8_2 : List (Nat × (Nat × Nat × Nat × Nat × Nat)) := [(36, 2, 85, 3, 1, 6), (40, 2, 194, 3, 1, 7), (41, 2, 92, 6, 1, 6), (45, 2, 207, 6, 1, 7), (46, 2, 93, 7, 1, 6), (50, 2, 208, 7, 1, 7)]
def tC8_3 : List (Nat × (Nat × Nat × Nat × Nat × Nat)) := [(51, 2, 86, 3, 1, 6), (54, 2, 211, 3, 1, 7), (55, 2, 94, 6, 1, 6), (58, 2, 215, 6, 1, 7), (59, 2, 87, 3, 1, 6), (62, 2, 224, 3, 1, 7)]
def tC8_4 : List (Nat × (Nat × Nat × Nat × Nat × Nat)) := [(63, 2, 97, 3, 1, 6), (66, 2, 230, 3, 1, 7), (67, 2, 98, 5, 1, 6), (70, 2, 231, 5, 1, 7), (71, 2, 101, 5, 1, 6), (74, 2, 234, 5, 1, 7)]
def tC8_5 : List (Nat × (Nat × Nat × Nat × Nat × Nat)) := [(75, 2, 106, 3, 1, 6), (79, 2, 241, 3, 1, 7), (80, 2, 108, 2, 1, 6), (83, 2, 244, 2, 1, 7), (84, 2, 112, 7, 1, 6), (87, 2, 246, 7, 1, 7)]
def tC8_6 : List (Nat × (Nat × Nat × Nat × Nat × Nat)) := [(88, 2, 114, 7, 1, 6), (92, 2, 250, 7, 1, 7), (93, 2, 118, 3, 1, 6), (96, 2, 251, 3, 1, 7), (97, 2, 89, 3, 1, 6), (100, 2, 256, 3, 1, 7)]
def tC8_7 : List (Nat × (Nat × Nat × Nat × Nat × Nat)) := [(101, 2, 121, 3, 1, 6), (104, 2, 262, 3, 1, 7), (105, 2, 124, 3, 1, 6), (108, 2, 267, 3, 1, 7), (109, 2, 129, 2, 1, 6), (113, 2, 269, 2, 1, 7)]
def tC8_8 : List (Nat × (Nat × Nat × Nat × Nat × Nat)) := [(114, 2, 88, 3, 1, 6), (117, 2, 271, 3, 1, 7), (118, 2, 131, 5, 1, 6), (121, 2, 276, 5, 1, 7), (122, 2, 100, 4, 1, 6), (126, 2, 279, 4, 1, 7)]
def tC8_9 : List (Nat × (Nat × Nat × Nat × Nat × Nat)) := [(127, 2, 79, 1, 1, 6), (130, 2, 280, 1, 1, 7), (131, 2, 80, 1, 1, 6), (135, 2, 281, 1, 1, 7), (136, 2, 81, 1, 1, 6), (139, 2, 282, 1, 1, 7)]
def tC8 (k : Nat) : List (Nat × (Nat × Nat × Nat × Nat × Nat)) := (bif Nat.ble 75 k then (bif Nat.ble 101 k then (bif Nat.ble 114 k then (bif Nat.ble 127 k then tC8_9 else tC8_8) else tC8_7) else (bif Nat.ble 88 k then tC8_6 else tC8_5)) else (bif Nat.ble 36 k then (bif Nat.ble 51 k then (bif Nat.ble 63 k then tC8_4 else tC8_3) else tC8_2) else (bif Nat.ble 23 k then tC8_1 else tC8_0)))
def tC10_0 : List (Nat × (Nat × Nat × Nat × Nat × Nat)) := [(335, 5, 286, 0, 1, 0), (492, 5, 287, 0, 1, 0), (495, 0, 289, 2, 1, 0), (1059, 0, 290, 3, 1, 0)]
def tC10 (_ : Nat) : List (Nat × (Nat × Nat × Nat × Nat × Nat)) := tC10_0
def tC11_0 : List (Nat × (Nat × Nat × Nat × Nat × Nat)) := [(9, 0, 288, 2, 0, 0)]
def tC11 (_ : Nat) : List (Nat × (Nat × Nat × Nat × Nat × Nat)) := tC11_0
def tC (o k : Nat) : List (Nat × (Nat × Nat × Nat × Nat × Nat)) := (bif Nat.ble 5 o then (bif Nat.ble 8 o then (bif Nat.ble 10 o then (bif Nat.ble 11 o then (bif Nat.beq 11 o then tC11 k else []) else (bif Nat.beq 10 o then tC10 k else [])) else (bif Nat.beq 8 o then tC8 k else [])) else (bif Nat.ble 6 o then (bif Nat.ble 7 o then (bif Nat.beq 7 o then tC7 k else []) else (bif Nat.beq 6 o then tC6 k else [])) else (bif Nat.beq 5 o then tC5 k else []))) else (bif Nat.ble 2 o then (bif Nat.ble 3 o then (bif Nat.ble 4 o then (bif Nat.beq 4 o then tC4 k else []) else (bif Nat.beq 3 o then tC3 k else [])) else (bif Nat.beq 2 o then tC2 k else [])) else (bif Nat.ble 1 o then (bif Nat.beq 1 o then tC1 k else []) else (bif Nat.beq 0 o then tC0 k else []))))
def xall {α : Type} (P : α → Prop) : List α → Prop
  | [] => True
  | a :: l => P a ∧ xall P l
theorem xall_app {α : Type} {P : α → Prop} : ∀ {l k : List α}, xall P l → xall P k → xall P (l ++ k)
  | [], _, _, h => h
  | _ :: _, _, h, h2 => ⟨h.1, xall_app h.2 h2⟩
theorem xall_mem {α : Type} {P : α → Prop} : ∀ {l : List α}, xall P l → ∀ a ∈ l, P a
  | [], _, a, h => by cases h
  | b :: l, h, a, ha => by
    rcases List.mem_cons.mp ha with e | e
    · subst e; exact h.1
    · exact xall_mem h.2 a e
theorem xk_mem {α : Type} : ∀ {L : List (Nat × α)} {k : Nat} {b : α}, xk L k = some b → (k, b) ∈ L
  | [], k, b, h => by simp [xk] at h
  | (a, c) :: t, k, b, h => by
    unfold xk at h
    cases e : Nat.beq a k with
    | true =>
      rw [e] at h
      simp only [cond_true, Option.some.injEq] at h
      have e2 := Nat.eq_of_beq_eq_true e
      subst e2; subst h
      exact List.mem_cons_self
    | false =>
      rw [e] at h
      exact List.mem_cons_of_mem _ (xk_mem h)
theorem xk_all {β : Type} {P : Nat → β → Prop} {TT : List (Nat × List β)} (h : xall (fun q => xall (P q.1) q.2) TT) : ∀ o, xall (P o) ((xk TT o).getD []) := by
  intro o
  cases e : xk TT o with
  | none => trivial
  | some l => exact xall_mem h _ (xk_mem e)
theorem xk_in {α : Type} {P : Nat × α → Prop} {L : List (Nat × α)} {k : Nat} {b : α} (h : xall P L) (e : xk L k = some b) : P (k, b) := xall_mem h _ (xk_mem e)
def okL (o : Nat) (q : Nat × (Int32 ⊕ Nat)) : Prop := match q.2 with
  | .inl v => Cond.constant (oN o) q.1 v ∈ wc_B
  | .inr i => oN o = RX1 ∧ ∃ tx, (q.1, tx, i) ∈ wc_strs
theorem xstr {k : Nat} (i : Nat) {q : Nat × String × Nat} (h : wc_strs[i]? = some q) (h2 : q.1 = k ∧ q.2.2 = i) : RX1 = RX1 ∧ ∃ tx, (k, tx, i) ∈ wc_strs := ⟨rfl, q.2.1, by
  have h3 := List.mem_of_getElem? h
  obtain ⟨a, b, c⟩ := q
  obtain ⟨h4, h5⟩ := h2
  subst h4; subst h5
  exact h3⟩
def okJ (o : Nat) (q : Nat × Int64) : Prop := Cond.constantLong (oN o) q.1 q.2 ∈ wc_B
def okF (o : Nat) (q : Nat × (Nat × Nat × Nat)) : Prop := match q.2 with
  | (_, _, 3) => Cond.fieldLink (oN o) q.1 "java/lang/String" "value" "[B" ∈ wc_B
  | (_, _, 4) => Cond.fieldLink (oN o) q.1 "java/lang/String" "coder" "B" ∈ wc_B
  | (ci, j, _) => wc_fld (oN o) q.1 ci j
def xty (kd : Nat) (ty : FieldType) : Prop := match kd with
  | 0 => ty = .int
  | 1 => ty = .boolean
  | _ => (∃ n, ty = .object n) ∨ ∃ t, ty = .array t
def okP (o : Nat) (q : Nat × (Nat × Nat × Nat × Bool)) : Prop := ∃ ty, wc_fpt (oN o) q.1 q.2.1 q.2.2.1 q.2.2.2.2 ty ∧ xty q.2.2.2.1 ty ∧ (q.2.2.2.2 = true → ∀ x, vwCl[q.2.1]? = some x → x.1 = oN o)
def okS (o : Nat) (q : Nat × EV) : Prop := (q.2 = eK 0 ∧ Cond.fieldLink (oN o) q.1 RX6 "MOST_OF_A_TEXT" "[I" ∈ wc_B) ∨ (q.2 = eK 1 ∧ Cond.fieldLink (oN o) q.1 RX6 "FACTORIALS" "[I" ∈ wc_B) ∨ (q.2 = eI 1 ∧ Cond.fieldLink (oN o) q.1 "java/lang/String" "COMPACT_STRINGS" "Z" ∈ wc_B) ∨ (q.2 = eK 100 ∧ Cond.fieldLink (oN o) q.1 RJ3 "SIOOBE_FORMATTER" "Ljava/util/function/BiFunction;" ∈ wc_B) ∨ (q.2 = eK 0 ∧ oN o = RX1 ∧ q.1 = 153)
def okN (o : Nat) (q : Nat × (Nat × List EV)) : Prop := wk_N (oN o) q.1 q.2.1 q.2.2
def xqn (t : Nat) : String := match t with
  | 2 => RX2
  | 3 => RX3
  | _ => RX5
def okQ (o : Nat) (q : Nat × Nat) : Prop := Cond.classLink (oN o) q.1 (xqn q.2) ∈ wc_B ∧ 2 ≤ q.2 ∧ q.2 ≤ 4
def okC (o : Nat) (q : Nat × (Nat × Nat × Nat × Nat × Nat)) : Prop := match q.2 with
  | (0, y, n, _, _) => wk_S (oN o) q.1 (yq y).1 (yq y).2.1 (yq y).2.2.1 (yq y).2.2.2 n ∧ (yq y).2.2.1 ≤ 21
  | (1, y, n, _, _) => (∃ host, wk_SN (oN o) q.1 (yq y).1 host (yq y).2.1 (yq y).2.2.1 (yq y).2.2.2 n) ∧ (yq y).2.2.1 ≤ 21
  | (2, y, n, _, ci) => wk_V (oN o) q.1 (yq y).1 (yq y).2.1 (yq y).2.2.1 (yq y).2.2.2 n ∧ (yq y).2.2.1 ≤ 21 ∧ ∃ x, vwCl[ci]? = some x ∧ x.1 = (yq y).1.cls
  | (3, y, n, _, _) => wk_I (oN o) q.1 (yq y).1 (yq y).2.1 (yq y).2.2.1 n ∧ (yq y).2.2.1 ≤ 21 ∧ (yq y).2.2.2 = none
  | (4, y, n, _, _) => (∃ host, wk_IN (oN o) q.1 (yq y).1 host (yq y).2.1 (yq y).2.2.1 n) ∧ (yq y).2.2.1 ≤ 21 ∧ (yq y).2.2.2 = none
  | (5, y, n, _, _) => wk_V (oN o) q.1 (yq y).1 (yq y).2.1 (yq y).2.2.1 (yq y).2.2.2 n ∧ (yq y).2.2.1 ≤ 21 ∧ (yq y).1.cls = "java/lang/String"
  | (6, _, n, _, _) => (∀ w ∈ [Cond.methodLink (oN o) q.1 objectInit, .instanceMethod objectInit, .code objectInit ⟨#[0xb1]⟩ 1 none], w ∈ wc_B) ∧ n = 0
  | (7, _, _, _, _) => ∀ w ∈ [Cond.methodLink (oN o) q.1 Lib.Math.min.name, .static Lib.Math.min.name, .initialized "java/lang/Math", .code Lib.Math.min.name Lib.Math.min.code 2 (some .int)], w ∈ wc_B
  | (8, _, _, _, _) => ∀ w ∈ [Cond.methodLink (oN o) q.1 Lib.Math.max.name, .static Lib.Math.max.name, .initialized "java/lang/Math", .code Lib.Math.max.name Lib.Math.max.code 2 (some .int)], w ∈ wc_B
  | (9, _, _, _, _) => ∀ w ∈ [Cond.methodLink (oN o) q.1 Lib.Math.abs.name, .static Lib.Math.abs.name, .initialized "java/lang/Math", .code Lib.Math.abs.name Lib.Math.abs.code 1 (some .int)], w ∈ wc_B
  | (_, _, _, _, _) => ∀ w ∈ [Cond.methodLink (oN o) q.1 arraycopyName, .native arraycopyName, .static arraycopyName, .initialized "java/lang/System"], w ∈ wc_B
theorem xall_bif {α : Type} {P : α → Prop} {c : Bool} {A B : List α} (ha : c = true → xall P A) (hb : xall P B) : xall P (bif c then A else B) := by
  cases c
  · exact hb
  · exact ha rfl
theorem xall_at {β : Type} {P : Nat → β → Prop} {n o : Nat} {L : List β} (e : Nat.beq n o = true) (h : xall (P n) L) : xall (P o) L := by
  have e2 := Nat.eq_of_beq_eq_true e
  subst e2
  exact h
set_option maxRecDepth 100000 in
theorem okL0 : xall (okL 0) tL0 := And.intro (lk_X0_189) (trivial)
set_option maxRecDepth 100000 in
theorem okL1 : xall (okL 1) tL1 := And.intro (xstr 0 (q := (83, _, 0)) rfl ⟨rfl, rfl⟩) (And.intro (xstr 1 (q := (85, _, 1)) rfl ⟨rfl, rfl⟩) (And.intro (xstr 2 (q := (87, _, 2)) rfl ⟨rfl, rfl⟩) (And.intro (xstr 3 (q := (89, _, 3)) rfl ⟨rfl, rfl⟩) (And.intro (xstr 4 (q := (91, _, 4)) rfl ⟨rfl, rfl⟩) (And.intro (xstr 5 (q := (93, _, 5)) rfl ⟨rfl, rfl⟩) (And.intro (xstr 6 (q := (95, _, 6)) rfl ⟨rfl, rfl⟩) (And.intro (xstr 7 (q := (97, _, 7)) rfl ⟨rfl, rfl⟩) (And.intro (xstr 8 (q := (99, _, 8)) rfl ⟨rfl, rfl⟩) (And.intro (xstr 9 (q := (101, _, 9)) rfl ⟨rfl, rfl⟩) (And.intro (xstr 10 (q := (103, _, 10)) rfl ⟨rfl, rfl⟩) (And.intro (xstr 11 (q := (105, _, 11)) rfl ⟨rfl, rfl⟩) (And.intro (xstr 12 (q := (107, _, 12)) rfl ⟨rfl, rfl⟩) (And.intro (xstr 13 (q := (163, _, 13)) rfl ⟨rfl, rfl⟩) (And.intro (xstr 14 (q := (179, _, 14)) rfl ⟨rfl, rfl⟩) (And.intro (xstr 15 (q := (181, _, 15)) rfl ⟨rfl, rfl⟩) (And.intro (xstr 16 (q := (183, _, 16)) rfl ⟨rfl, rfl⟩) (And.intro (xstr 17 (q := (185, _, 17)) rfl ⟨rfl, rfl⟩) (trivial))))))))))))))))))
set_option maxRecDepth 100000 in
theorem okL7 : xall (okL 7) tL7 := And.intro (lk_X7_447) (trivial)
set_option maxRecDepth 100000 in
theorem okL16 : xall (okL 16) tL16 := And.intro (lk_J6_265) (And.intro (lk_J6_266) (And.intro (lk_J6_267) (trivial)))
theorem okL_all : ∀ o, xall (okL o) (tL o) := xk_all (And.intro okL0 (And.intro okL1 (And.intro okL7 (And.intro okL16 (trivial)))))
set_option maxRecDepth 100000 in
theorem okJ7 : xall (okJ 7) tJ7 := And.intro (lk_X7_40) (And.intro (lk_X7_70) (And.intro (lk_X7_72) (trivial)))
theorem okJ_all : ∀ o, xall (okJ o) (tJ o) := xk_all (And.intro okJ7 (trivial))
set_option maxRecDepth 100000 in
theorem okF0_0 : xall (okF 0) tF0_0 := And.intro (lf_X0_12) (And.intro (lf_X0_18) (And.intro (lf_X0_22) (And.intro (lf_X0_29) (And.intro (lf_X0_39) (And.intro (lf_X0_42) (trivial))))))
set_option maxRecDepth 100000 in
theorem okF0_1 : xall (okF 0) tF0_1 := And.intro (lf_X0_51) (And.intro (lf_X0_56) (And.intro (lf_X0_59) (And.intro (lf_X0_62) (And.intro (lf_X0_65) (And.intro (lf_X0_68) (trivial))))))
set_option maxRecDepth 100000 in
theorem okF0_2 : xall (okF 0) tF0_2 := And.intro (lf_X0_71) (And.intro (lf_X0_137) (And.intro (lf_X0_148) (And.intro (lf_X0_151) (And.intro (lf_X0_171) (trivial)))))
theorem okF0 : ∀ k, xall (okF 0) (tF0 k) := by
  intro k
  unfold tF0
  exact xall_bif (fun _ => xall_bif (fun _ => okF0_2) (okF0_1)) (okF0_0)
set_option maxRecDepth 100000 in
theorem okF1_0 : xall (okF 1) tF1_0 := And.intro (lf_X1_12) (And.intro (lf_X1_21) (And.intro (lf_X1_25) (And.intro (lf_X1_29) (And.intro (lf_X1_40) (And.intro (lf_X1_48) (trivial))))))
set_option maxRecDepth 100000 in
theorem okF1_1 : xall (okF 1) tF1_1 := And.intro (lf_X1_51) (And.intro (lf_X1_54) (And.intro (lf_X1_65) (And.intro (lf_X1_71) (And.intro (lf_X1_74) (And.intro (lf_X1_80) (trivial))))))
theorem okF1 : ∀ k, xall (okF 1) (tF1 k) := by
  intro k
  unfold tF1
  exact xall_bif (fun _ => okF1_1) (okF1_0)
set_option maxRecDepth 100000 in
theorem okF2_0 : xall (okF 2) tF2_0 := And.intro (lf_X2_9) (And.intro (lf_X2_15) (And.intro (lf_X2_18) (And.intro (lf_X2_21) (And.intro (lf_X2_24) (And.intro (lf_X2_27) (trivial))))))
set_option maxRecDepth 100000 in
theorem okF2_1 : xall (okF 2) tF2_1 := And.intro (lf_X2_30) (And.intro (lf_X2_33) (And.intro (lf_X2_43) (And.intro (lf_X2_46) (And.intro (lf_X2_49) (And.intro (lf_X2_52) (trivial))))))
set_option maxRecDepth 100000 in
theorem okF2_2 : xall (okF 2) tF2_2 := And.intro (lf_X2_55) (And.intro (lf_X2_58) (trivial))
theorem okF2 : ∀ k, xall (okF 2) (tF2 k) := by
  intro k
  unfold tF2
  exact xall_bif (fun _ => xall_bif (fun _ => okF2_2) (okF2_1)) (okF2_0)
set_option maxRecDepth 100000 in
theorem okF3_0 : xall (okF 3) tF3_0 := And.intro (lf_X3_9) (And.intro (lf_X3_15) (trivial))
theorem okF3 : ∀ k, xall (okF 3) (tF3 k) := by
  intro k
  unfold tF3
  exact okF3_0
set_option maxRecDepth 100000 in
theorem okF4_0 : xall (okF 4) tF4_0 := And.intro (lf_X4_9) (And.intro (lf_X4_15) (And.intro (lf_X4_18) (And.intro (lf_X4_21) (And.intro (lf_X4_22) (And.intro (lf_X4_25) (trivial))))))
theorem okF4 : ∀ k, xall (okF 4) (tF4 k) := by
  intro k
  unfold tF4
  exact okF4_0
set_option maxRecDepth 100000 in
theorem okF5_0 : xall (okF 5) tF5_0 := And.intro (lf_X5_9) (And.intro (lf_X5_15) (And.intro (lf_X5_19) (And.intro (lf_X5_24) (And.intro (lf_X5_30) (And.intro (lf_X5_40) (trivial))))))
set_option maxRecDepth 100000 in
theorem okF5_1 : xall (okF 5) tF5_1 := And.intro (lf_X5_43) (trivial)
theorem okF5 : ∀ k, xall (okF 5) (tF5 k) := by
  intro k
  unfold tF5
  exact xall_bif (fun _ => okF5_1) (okF5_0)
set_option maxRecDepth 100000 in
theorem okF6_0 : xall (okF 6) tF6_0 := And.intro (lf_X6_10) (And.intro (lf_X6_16) (And.intro (lf_X6_23) (And.intro (lf_X6_30) (And.intro (lf_X6_37) (And.intro (lf_X6_41) (trivial))))))
set_option maxRecDepth 100000 in
theorem okF6_1 : xall (okF 6) tF6_1 := And.intro (lf_X6_45) (And.intro (lf_X6_48) (And.intro (lf_X6_51) (And.intro (lf_X6_59) (And.intro (lf_X6_70) (And.intro (lf_X6_73) (trivial))))))
set_option maxRecDepth 100000 in
theorem okF6_2 : xall (okF 6) tF6_2 := And.intro (lf_X6_79) (And.intro (lf_X6_80) (And.intro (lf_X6_85) (And.intro (lf_X6_96) (And.intro (lf_X6_110) (And.intro (lf_X6_132) (trivial))))))
set_option maxRecDepth 100000 in
theorem okF6_3 : xall (okF 6) tF6_3 := And.intro (lf_X6_135) (And.intro (lf_X6_138) (And.intro (lf_X6_141) (And.intro (lf_X6_144) (And.intro (lf_X6_147) (And.intro (lf_X6_150) (trivial))))))
set_option maxRecDepth 100000 in
theorem okF6_4 : xall (okF 6) tF6_4 := And.intro (lf_X6_157) (And.intro (lf_X6_160) (And.intro (lf_X6_163) (And.intro (lf_X6_166) (And.intro (lf_X6_169) (And.intro (lf_X6_176) (trivial))))))
set_option maxRecDepth 100000 in
theorem okF6_5 : xall (okF 6) tF6_5 := And.intro (lf_X6_189) (And.intro (lf_X6_235) (And.intro (lf_X6_238) (And.intro (lf_X6_241) (And.intro (lf_X6_244) (And.intro (lf_X6_247) (trivial))))))
set_option maxRecDepth 100000 in
theorem okF6_6 : xall (okF 6) tF6_6 := And.intro (lf_X6_248) (And.intro (lf_X6_249) (And.intro (lf_X6_250) (And.intro (lf_X6_251) (And.intro (lf_X6_258) (And.intro (lf_X6_261) (trivial))))))
set_option maxRecDepth 100000 in
theorem okF6_7 : xall (okF 6) tF6_7 := And.intro (lf_X6_262) (And.intro (lf_X6_269) (And.intro (lf_X6_272) (trivial)))
theorem okF6 : ∀ k, xall (okF 6) (tF6 k) := by
  intro k
  unfold tF6
  exact xall_bif (fun _ => xall_bif (fun _ => xall_bif (fun _ => okF6_7) (okF6_6)) (xall_bif (fun _ => okF6_5) (okF6_4))) (xall_bif (fun _ => xall_bif (fun _ => okF6_3) (okF6_2)) (xall_bif (fun _ => okF6_1) (okF6_0)))
set_option maxRecDepth 100000 in
theorem okF7_0 : xall (okF 7) tF7_0 := And.intro (lf_X7_7) (And.intro (lf_X7_13) (And.intro (lf_X7_17) (And.intro (lf_X7_20) (And.intro (lf_X7_23) (And.intro (lf_X7_26) (trivial))))))
set_option maxRecDepth 100000 in
theorem okF7_1 : xall (okF 7) tF7_1 := And.intro (lf_X7_29) (And.intro (lf_X7_32) (And.intro (lf_X7_53) (And.intro (lf_X7_60) (And.intro (lf_X7_63) (And.intro (lf_X7_77) (trivial))))))
set_option maxRecDepth 100000 in
theorem okF7_2 : xall (okF 7) tF7_2 := And.intro (lf_X7_83) (And.intro (lf_X7_86) (And.intro (lf_X7_111) (And.intro (lf_X7_175) (And.intro (lf_X7_196) (And.intro (lf_X7_199) (trivial))))))
set_option maxRecDepth 100000 in
theorem okF7_3 : xall (okF 7) tF7_3 := And.intro (lf_X7_202) (And.intro (lf_X7_205) (And.intro (lf_X7_214) (And.intro (lf_X7_226) (And.intro (lf_X7_251) (And.intro (lf_X7_272) (trivial))))))
set_option maxRecDepth 100000 in
theorem okF7_4 : xall (okF 7) tF7_4 := And.intro (lf_X7_275) (And.intro (lf_X7_278) (And.intro (lf_X7_281) (And.intro (lf_X7_284) (And.intro (lf_X7_287) (And.intro (lf_X7_290) (trivial))))))
set_option maxRecDepth 100000 in
theorem okF7_5 : xall (okF 7) tF7_5 := And.intro (lf_X7_293) (And.intro (lf_X7_305) (And.intro (lf_X7_381) (And.intro (lf_X7_426) (And.intro (lf_X7_444) (trivial)))))
theorem okF7 : ∀ k, xall (okF 7) (tF7 k) := by
  intro k
  unfold tF7
  exact xall_bif (fun _ => xall_bif (fun _ => xall_bif (fun _ => okF7_5) (okF7_4)) (okF7_3)) (xall_bif (fun _ => xall_bif (fun _ => okF7_2) (okF7_1)) (okF7_0))
set_option maxRecDepth 100000 in
theorem okF10_0 : xall (okF 10) tF10_0 := And.intro (lj_J0_9) (And.intro (lj_J0_15) (trivial))
theorem okF10 : ∀ k, xall (okF 10) (tF10 k) := by
  intro k
  unfold tF10
  exact okF10_0
theorem okF_all : ∀ o k, xall (okF o) (tF o k) := by
  intro o k
  unfold tF
  exact xall_bif (fun _ => xall_bif (fun _ => xall_bif (fun _ => xall_bif (fun _ => xall_bif (fun e => xall_at e (okF10 k)) trivial) (xall_bif (fun e => xall_at e (okF7 k)) trivial)) (xall_bif (fun e => xall_at e (okF6 k)) trivial)) (xall_bif (fun _ => xall_bif (fun e => xall_at e (okF5 k)) trivial) (xall_bif (fun e => xall_at e (okF4 k)) trivial))) (xall_bif (fun _ => xall_bif (fun _ => xall_bif (fun e => xall_at e (okF3 k)) trivial) (xall_bif (fun e => xall_at e (okF2 k)) trivial)) (xall_bif (fun _ => xall_bif (fun e => xall_at e (okF1 k)) trivial) (xall_bif (fun e => xall_at e (okF0 k)) trivial)))
set_option maxRecDepth 100000 in
theorem okP0_0 : xall (okP 0) tP0_0 := And.intro (⟨_, lp_X0_12, Or.inl ⟨_, rfl⟩, fun _ q hq => by cases hq; rfl⟩) (And.intro (⟨_, lp_X0_18, Or.inr ⟨_, rfl⟩, fun _ q hq => by cases hq; rfl⟩) (And.intro (⟨_, lp_X0_22, Or.inr ⟨_, rfl⟩, fun _ q hq => by cases hq; rfl⟩) (And.intro (⟨_, lp_X0_29, rfl, fun h => absurd h (by decide)⟩) (And.intro (⟨_, lp_X0_39, rfl, fun h => absurd h (by decide)⟩) (And.intro (⟨_, lp_X0_42, rfl, fun h => absurd h (by decide)⟩) (trivial))))))
set_option maxRecDepth 100000 in
theorem okP0_1 : xall (okP 0) tP0_1 := And.intro (⟨_, lp_X0_56, rfl, fun h => absurd h (by decide)⟩) (And.intro (⟨_, lp_X0_59, rfl, fun h => absurd h (by decide)⟩) (And.intro (⟨_, lp_X0_62, rfl, fun h => absurd h (by decide)⟩) (And.intro (⟨_, lp_X0_65, rfl, fun h => absurd h (by decide)⟩) (And.intro (⟨_, lp_X0_68, rfl, fun h => absurd h (by decide)⟩) (And.intro (⟨_, lp_X0_71, rfl, fun h => absurd h (by decide)⟩) (trivial))))))
set_option maxRecDepth 100000 in
theorem okP0_2 : xall (okP 0) tP0_2 := And.intro (⟨_, lp_X0_171, rfl, fun h => absurd h (by decide)⟩) (trivial)
theorem okP0 : ∀ k, xall (okP 0) (tP0 k) := by
  intro k
  unfold tP0
  exact xall_bif (fun _ => xall_bif (fun _ => okP0_2) (okP0_1)) (okP0_0)
set_option maxRecDepth 100000 in
theorem okP1_0 : xall (okP 1) tP1_0 := And.intro (⟨_, lp_X1_12, Or.inl ⟨_, rfl⟩, fun _ q hq => by cases hq; rfl⟩) (And.intro (⟨_, lp_X1_21, Or.inl ⟨_, rfl⟩, fun _ q hq => by cases hq; rfl⟩) (And.intro (⟨_, lp_X1_25, Or.inr ⟨_, rfl⟩, fun _ q hq => by cases hq; rfl⟩) (And.intro (⟨_, lp_X1_29, Or.inr ⟨_, rfl⟩, fun _ q hq => by cases hq; rfl⟩) (And.intro (⟨_, lp_X1_40, rfl, fun h => absurd h (by decide)⟩) (And.intro (⟨_, lp_X1_48, rfl, fun h => absurd h (by decide)⟩) (trivial))))))
set_option maxRecDepth 100000 in
theorem okP1_1 : xall (okP 1) tP1_1 := And.intro (⟨_, lp_X1_54, rfl, fun h => absurd h (by decide)⟩) (And.intro (⟨_, lp_X1_65, rfl, fun h => absurd h (by decide)⟩) (And.intro (⟨_, lp_X1_68, rfl, fun h => absurd h (by decide)⟩) (And.intro (⟨_, lp_X1_71, rfl, fun h => absurd h (by decide)⟩) (And.intro (⟨_, lp_X1_74, rfl, fun h => absurd h (by decide)⟩) (And.intro (⟨_, lp_X1_80, rfl, fun h => absurd h (by decide)⟩) (trivial))))))
theorem okP1 : ∀ k, xall (okP 1) (tP1 k) := by
  intro k
  unfold tP1
  exact xall_bif (fun _ => okP1_1) (okP1_0)
set_option maxRecDepth 100000 in
theorem okP2_0 : xall (okP 2) tP2_0 := And.intro (⟨_, lp_X2_9, Or.inr ⟨_, rfl⟩, fun _ q hq => by cases hq; rfl⟩) (And.intro (⟨_, lp_X2_15, Or.inr ⟨_, rfl⟩, fun _ q hq => by cases hq; rfl⟩) (And.intro (⟨_, lp_X2_18, Or.inr ⟨_, rfl⟩, fun _ q hq => by cases hq; rfl⟩) (And.intro (⟨_, lp_X2_21, Or.inr ⟨_, rfl⟩, fun _ q hq => by cases hq; rfl⟩) (And.intro (⟨_, lp_X2_24, Or.inr ⟨_, rfl⟩, fun _ q hq => by cases hq; rfl⟩) (And.intro (⟨_, lp_X2_27, Or.inr ⟨_, rfl⟩, fun _ q hq => by cases hq; rfl⟩) (trivial))))))
set_option maxRecDepth 100000 in
theorem okP2_1 : xall (okP 2) tP2_1 := And.intro (⟨_, lp_X2_30, Or.inr ⟨_, rfl⟩, fun _ q hq => by cases hq; rfl⟩) (And.intro (⟨_, lp_X2_33, rfl, fun h => absurd h (by decide)⟩) (And.intro (⟨_, lp_X2_43, rfl, fun h => absurd h (by decide)⟩) (And.intro (⟨_, lp_X2_46, rfl, fun h => absurd h (by decide)⟩) (And.intro (⟨_, lp_X2_49, rfl, fun h => absurd h (by decide)⟩) (And.intro (⟨_, lp_X2_52, rfl, fun h => absurd h (by decide)⟩) (trivial))))))
set_option maxRecDepth 100000 in
theorem okP2_2 : xall (okP 2) tP2_2 := And.intro (⟨_, lp_X2_55, rfl, fun h => absurd h (by decide)⟩) (And.intro (⟨_, lp_X2_58, rfl, fun h => absurd h (by decide)⟩) (trivial))
theorem okP2 : ∀ k, xall (okP 2) (tP2 k) := by
  intro k
  unfold tP2
  exact xall_bif (fun _ => xall_bif (fun _ => okP2_2) (okP2_1)) (okP2_0)
set_option maxRecDepth 100000 in
theorem okP3_0 : xall (okP 3) tP3_0 := And.intro (⟨_, lp_X3_9, Or.inr ⟨_, rfl⟩, fun _ q hq => by cases hq; rfl⟩) (And.intro (⟨_, lp_X3_15, rfl, fun h => absurd h (by decide)⟩) (trivial))
theorem okP3 : ∀ k, xall (okP 3) (tP3 k) := by
  intro k
  unfold tP3
  exact okP3_0
set_option maxRecDepth 100000 in
theorem okP4_0 : xall (okP 4) tP4_0 := And.intro (⟨_, lp_X4_15, rfl, fun h => absurd h (by decide)⟩) (And.intro (⟨_, lp_X4_21, rfl, fun h => absurd h (by decide)⟩) (And.intro (⟨_, lp_X4_25, rfl, fun h => absurd h (by decide)⟩) (trivial)))
theorem okP4 : ∀ k, xall (okP 4) (tP4 k) := by
  intro k
  unfold tP4
  exact okP4_0
set_option maxRecDepth 100000 in
theorem okP5_0 : xall (okP 5) tP5_0 := And.intro (⟨_, lp_X5_9, Or.inr ⟨_, rfl⟩, fun _ q hq => by cases hq; rfl⟩) (And.intro (⟨_, lp_X5_15, rfl, fun h => absurd h (by decide)⟩) (And.intro (⟨_, lp_X5_19, Or.inr ⟨_, rfl⟩, fun _ q hq => by cases hq; rfl⟩) (And.intro (⟨_, lp_X5_24, Or.inr ⟨_, rfl⟩, fun _ q hq => by cases hq; rfl⟩) (And.intro (⟨_, lp_X5_30, Or.inr ⟨_, rfl⟩, fun _ q hq => by cases hq; rfl⟩) (And.intro (⟨_, lp_X5_40, rfl, fun h => absurd h (by decide)⟩) (trivial))))))
set_option maxRecDepth 100000 in
theorem okP5_1 : xall (okP 5) tP5_1 := And.intro (⟨_, lp_X5_43, rfl, fun h => absurd h (by decide)⟩) (trivial)
theorem okP5 : ∀ k, xall (okP 5) (tP5 k) := by
  intro k
  unfold tP5
  exact xall_bif (fun _ => okP5_1) (okP5_0)
set_option maxRecDepth 100000 in
theorem okP6_0 : xall (okP 6) tP6_0 := And.intro (⟨_, lp_X6_10, Or.inl ⟨_, rfl⟩, fun _ q hq => by cases hq; rfl⟩) (And.intro (⟨_, lp_X6_16, Or.inr ⟨_, rfl⟩, fun _ q hq => by cases hq; rfl⟩) (And.intro (⟨_, lp_X6_23, Or.inl ⟨_, rfl⟩, fun _ q hq => by cases hq; rfl⟩) (And.intro (⟨_, lp_X6_30, Or.inl ⟨_, rfl⟩, fun _ q hq => by cases hq; rfl⟩) (And.intro (⟨_, lp_X6_37, Or.inl ⟨_, rfl⟩, fun _ q hq => by cases hq; rfl⟩) (And.intro (⟨_, lp_X6_41, Or.inr ⟨_, rfl⟩, fun _ q hq => by cases hq; rfl⟩) (trivial))))))
set_option maxRecDepth 100000 in
theorem okP6_1 : xall (okP 6) tP6_1 := And.intro (⟨_, lp_X6_45, Or.inr ⟨_, rfl⟩, fun _ q hq => by cases hq; rfl⟩) (And.intro (⟨_, lp_X6_48, Or.inr ⟨_, rfl⟩, fun _ q hq => by cases hq; rfl⟩) (And.intro (⟨_, lp_X6_51, rfl, fun h => absurd h (by decide)⟩) (And.intro (⟨_, lp_X6_70, rfl, fun h => absurd h (by decide)⟩) (And.intro (⟨_, lp_X6_73, rfl, fun h => absurd h (by decide)⟩) (trivial)))))
theorem okP6 : ∀ k, xall (okP 6) (tP6 k) := by
  intro k
  unfold tP6
  exact xall_bif (fun _ => okP6_1) (okP6_0)
set_option maxRecDepth 100000 in
theorem okP7_0 : xall (okP 7) tP7_0 := And.intro (⟨_, lp_X7_7, Or.inr ⟨_, rfl⟩, fun _ q hq => by cases hq; rfl⟩) (And.intro (⟨_, lp_X7_13, Or.inr ⟨_, rfl⟩, fun _ q hq => by cases hq; rfl⟩) (And.intro (⟨_, lp_X7_17, Or.inr ⟨_, rfl⟩, fun _ q hq => by cases hq; rfl⟩) (And.intro (⟨_, lp_X7_20, Or.inr ⟨_, rfl⟩, fun _ q hq => by cases hq; rfl⟩) (And.intro (⟨_, lp_X7_23, Or.inr ⟨_, rfl⟩, fun _ q hq => by cases hq; rfl⟩) (And.intro (⟨_, lp_X7_26, Or.inr ⟨_, rfl⟩, fun _ q hq => by cases hq; rfl⟩) (trivial))))))
set_option maxRecDepth 100000 in
theorem okP7_1 : xall (okP 7) tP7_1 := And.intro (⟨_, lp_X7_29, Or.inr ⟨_, rfl⟩, fun _ q hq => by cases hq; rfl⟩) (And.intro (⟨_, lp_X7_32, rfl, fun h => absurd h (by decide)⟩) (And.intro (⟨_, lp_X7_53, rfl, fun h => absurd h (by decide)⟩) (And.intro (⟨_, lp_X7_60, rfl, fun h => absurd h (by decide)⟩) (And.intro (⟨_, lp_X7_63, rfl, fun h => absurd h (by decide)⟩) (And.intro (⟨_, lp_X7_77, rfl, fun h => absurd h (by decide)⟩) (trivial))))))
set_option maxRecDepth 100000 in
theorem okP7_2 : xall (okP 7) tP7_2 := And.intro (⟨_, lp_X7_83, rfl, fun h => absurd h (by decide)⟩) (And.intro (⟨_, lp_X7_86, rfl, fun h => absurd h (by decide)⟩) (And.intro (⟨_, lp_X7_111, rfl, fun h => absurd h (by decide)⟩) (And.intro (⟨_, lp_X7_175, rfl, fun h => absurd h (by decide)⟩) (And.intro (⟨_, lp_X7_196, rfl, fun h => absurd h (by decide)⟩) (And.intro (⟨_, lp_X7_199, rfl, fun h => absurd h (by decide)⟩) (trivial))))))
set_option maxRecDepth 100000 in
theorem okP7_3 : xall (okP 7) tP7_3 := And.intro (⟨_, lp_X7_202, rfl, fun h => absurd h (by decide)⟩) (And.intro (⟨_, lp_X7_205, rfl, fun h => absurd h (by decide)⟩) (And.intro (⟨_, lp_X7_214, rfl, fun h => absurd h (by decide)⟩) (And.intro (⟨_, lp_X7_226, rfl, fun h => absurd h (by decide)⟩) (And.intro (⟨_, lp_X7_251, rfl, fun h => absurd h (by decide)⟩) (And.intro (⟨_, lp_X7_272, rfl, fun h => absurd h (by decide)⟩) (trivial))))))
set_option maxRecDepth 100000 in
theorem okP7_4 : xall (okP 7) tP7_4 := And.intro (⟨_, lp_X7_275, rfl, fun h => absurd h (by decide)⟩) (And.intro (⟨_, lp_X7_278, rfl, fun h => absurd h (by decide)⟩) (And.intro (⟨_, lp_X7_281, rfl, fun h => absurd h (by decide)⟩) (And.intro (⟨_, lp_X7_284, rfl, fun h => absurd h (by decide)⟩) (And.intro (⟨_, lp_X7_287, rfl, fun h => absurd h (by decide)⟩) (And.intro (⟨_, lp_X7_290, rfl, fun h => absurd h (by decide)⟩) (trivial))))))
set_option maxRecDepth 100000 in
theorem okP7_5 : xall (okP 7) tP7_5 := And.intro (⟨_, lp_X7_293, rfl, fun h => absurd h (by decide)⟩) (And.intro (⟨_, lp_X7_305, rfl, fun h => absurd h (by decide)⟩) (And.intro (⟨_, lp_X7_381, rfl, fun h => absurd h (by decide)⟩) (And.intro (⟨_, lp_X7_426, rfl, fun h => absurd h (by decide)⟩) (And.intro (⟨_, lp_X7_444, rfl, fun h => absurd h (by decide)⟩) (trivial)))))
theorem okP7 : ∀ k, xall (okP 7) (tP7 k) := by
  intro k
  unfold tP7
  exact xall_bif (fun _ => xall_bif (fun _ => xall_bif (fun _ => okP7_5) (okP7_4)) (okP7_3)) (xall_bif (fun _ => xall_bif (fun _ => okP7_2) (okP7_1)) (okP7_0))
theorem okP_all : ∀ o k, xall (okP o) (tP o k) := by
  intro o k
  unfold tP
  exact xall_bif (fun _ => xall_bif (fun _ => xall_bif (fun _ => xall_bif (fun e => xall_at e (okP7 k)) trivial) (xall_bif (fun e => xall_at e (okP6 k)) trivial)) (xall_bif (fun _ => xall_bif (fun e => xall_at e (okP5 k)) trivial) (xall_bif (fun e => xall_at e (okP4 k)) trivial))) (xall_bif (fun _ => xall_bif (fun _ => xall_bif (fun e => xall_at e (okP3 k)) trivial) (xall_bif (fun e => xall_at e (okP2 k)) trivial)) (xall_bif (fun _ => xall_bif (fun e => xall_at e (okP1 k)) trivial) (xall_bif (fun e => xall_at e (okP0 k)) trivial)))
set_option maxRecDepth 100000 in
theorem okS1 : xall (okS 1) tS1 := And.intro (Or.inr (Or.inr (Or.inr (Or.inr ⟨rfl, rfl, rfl⟩)))) (trivial)
set_option maxRecDepth 100000 in
theorem okS6 : xall (okS 6) tS6 := And.intro (Or.inr (Or.inl ⟨rfl, ls_X6_303⟩)) (trivial)
set_option maxRecDepth 100000 in
theorem okS10 : xall (okS 10) tS10 := And.intro (Or.inr (Or.inr (Or.inl ⟨rfl, ls_J0_38⟩))) (And.intro (Or.inr (Or.inr (Or.inr (Or.inl ⟨rfl, ls_J0_1053⟩)))) (trivial))
theorem okS_all : ∀ o, xall (okS o) (tS o) := xk_all (And.intro okS1 (And.intro okS6 (And.intro okS10 (trivial))))
set_option maxRecDepth 100000 in
theorem okN0 : xall (okN 0) tN0 := And.intro (ln_X0_9) (trivial)
set_option maxRecDepth 100000 in
theorem okN1 : xall (okN 1) tN1 := And.intro (ln_X1_9) (And.intro (ln_X1_18) (trivial))
set_option maxRecDepth 100000 in
theorem okN5 : xall (okN 5) tN5 := And.intro (ln_X5_22) (And.intro (ln_X5_28) (trivial))
set_option maxRecDepth 100000 in
theorem okN6 : xall (okN 6) tN6 := And.intro (ln_X6_7) (And.intro (ln_X6_20) (And.intro (ln_X6_27) (And.intro (ln_X6_34) (trivial))))
set_option maxRecDepth 100000 in
theorem okN8 : xall (okN 8) tN8 := And.intro (ln_L_7) (And.intro (ln_L_10) (trivial))
theorem okN_all : ∀ o, xall (okN o) (tN o) := xk_all (And.intro okN0 (And.intro okN1 (And.intro okN5 (And.intro okN6 (And.intro okN8 (trivial))))))
set_option maxRecDepth 100000 in
theorem okQ5 : xall (okQ 5) tQ5 := And.intro (⟨lq_X5_22, by decide, by decide⟩) (And.intro (⟨lq_X5_28, by decide, by decide⟩) (trivial))
set_option maxRecDepth 100000 in
theorem okQ6 : xall (okQ 6) tQ6 := And.intro (⟨lq_X6_7, by decide, by decide⟩) (trivial)
theorem okQ_all : ∀ o, xall (okQ o) (tQ o) := xk_all (And.intro okQ5 (And.intro okQ6 (trivial)))
set_option maxRecDepth 100000 in
theorem okC0_0 : xall (okC 0) tC0_0 := And.intro (⟨lo_X0_3, rfl⟩) (And.intro (⟨⟨_, lc_X0_11⟩, Nat.le_of_ble_eq_true rfl, rfl⟩) (And.intro (⟨lc_X0_25, Nat.le_of_ble_eq_true rfl, _, rfl, rfl⟩) (And.intro (⟨lc_X0_33, Nat.le_of_ble_eq_true rfl, _, rfl, rfl⟩) (And.intro (⟨lc_X0_45, Nat.le_of_ble_eq_true rfl⟩) (And.intro (⟨⟨_, lc_X0_52⟩, Nat.le_of_ble_eq_true rfl⟩) (trivial))))))
set_option maxRecDepth 100000 in
theorem okC0_1 : xall (okC 0) tC0_1 := And.intro (⟨lc_X0_74, Nat.le_of_ble_eq_true rfl, _, rfl, rfl⟩) (And.intro (⟨lc_X0_77, Nat.le_of_ble_eq_true rfl, _, rfl, rfl⟩) (And.intro (⟨lc_X0_81, Nat.le_of_ble_eq_true rfl, _, rfl, rfl⟩) (And.intro (⟨lc_X0_87, Nat.le_of_ble_eq_true rfl, _, rfl, rfl⟩) (And.intro (⟨⟨_, lc_X0_90⟩, Nat.le_of_ble_eq_true rfl⟩) (And.intro (⟨lc_X0_94, Nat.le_of_ble_eq_true rfl, _, rfl, rfl⟩) (trivial))))))
set_option maxRecDepth 100000 in
theorem okC0_2 : xall (okC 0) tC0_2 := And.intro (⟨⟨_, lc_X0_98⟩, Nat.le_of_ble_eq_true rfl⟩) (And.intro (⟨lc_X0_102, Nat.le_of_ble_eq_true rfl, _, rfl, rfl⟩) (And.intro (⟨lc_X0_106, Nat.le_of_ble_eq_true rfl, _, rfl, rfl⟩) (And.intro (⟨lc_X0_109, Nat.le_of_ble_eq_true rfl, _, rfl, rfl⟩) (And.intro (⟨lc_X0_112, Nat.le_of_ble_eq_true rfl, _, rfl, rfl⟩) (And.intro (⟨lc_X0_116, Nat.le_of_ble_eq_true rfl, _, rfl, rfl⟩) (trivial))))))
set_option maxRecDepth 100000 in
theorem okC0_3 : xall (okC 0) tC0_3 := And.intro (⟨⟨_, lc_X0_119⟩, Nat.le_of_ble_eq_true rfl⟩) (And.intro (⟨lc_X0_123, Nat.le_of_ble_eq_true rfl, _, rfl, rfl⟩) (And.intro (⟨lc_X0_126, Nat.le_of_ble_eq_true rfl, _, rfl, rfl⟩) (And.intro (⟨lc_X0_130, Nat.le_of_ble_eq_true rfl, _, rfl, rfl⟩) (And.intro (⟨lc_X0_133, Nat.le_of_ble_eq_true rfl, _, rfl, rfl⟩) (And.intro (⟨lc_X0_140, Nat.le_of_ble_eq_true rfl, _, rfl, rfl⟩) (trivial))))))
set_option maxRecDepth 100000 in
theorem okC0_4 : xall (okC 0) tC0_4 := And.intro (⟨⟨_, lc_X0_144⟩, Nat.le_of_ble_eq_true rfl⟩) (And.intro (lm_X0_154) (And.intro (⟨⟨_, lc_X0_159⟩, Nat.le_of_ble_eq_true rfl⟩) (And.intro (⟨lc_X0_162, Nat.le_of_ble_eq_true rfl, _, rfl, rfl⟩) (And.intro (⟨⟨_, lc_X0_165⟩, Nat.le_of_ble_eq_true rfl⟩) (And.intro (lm_X0_168) (trivial))))))
set_option maxRecDepth 100000 in
theorem okC0_5 : xall (okC 0) tC0_5 := And.intro (⟨lc_X0_174, Nat.le_of_ble_eq_true rfl, _, rfl, rfl⟩) (And.intro (⟨lc_X0_177, Nat.le_of_ble_eq_true rfl⟩) (And.intro (⟨lc_X0_183, Nat.le_of_ble_eq_true rfl, _, rfl, rfl⟩) (And.intro (⟨lc_X0_186, Nat.le_of_ble_eq_true rfl, _, rfl, rfl⟩) (trivial))))
theorem okC0 : ∀ k, xall (okC 0) (tC0 k) := by
  intro k
  unfold tC0
  exact xall_bif (fun _ => xall_bif (fun _ => xall_bif (fun _ => okC0_5) (okC0_4)) (okC0_3)) (xall_bif (fun _ => xall_bif (fun _ => okC0_2) (okC0_1)) (okC0_0))
set_option maxRecDepth 100000 in
theorem okC1_0 : xall (okC 1) tC1_0 := And.intro (⟨lo_X1_3, rfl⟩) (And.intro (⟨⟨_, lc_X1_11⟩, Nat.le_of_ble_eq_true rfl, rfl⟩) (And.intro (⟨⟨_, lc_X1_20⟩, Nat.le_of_ble_eq_true rfl, rfl⟩) (And.intro (⟨⟨_, lc_X1_32⟩, Nat.le_of_ble_eq_true rfl⟩) (And.intro (⟨lc_X1_36, Nat.le_of_ble_eq_true rfl, _, rfl, rfl⟩) (And.intro (⟨lc_X1_44, Nat.le_of_ble_eq_true rfl, _, rfl, rfl⟩) (trivial))))))
set_option maxRecDepth 100000 in
theorem okC1_1 : xall (okC 1) tC1_1 := And.intro (⟨lc_X1_57, Nat.le_of_ble_eq_true rfl, _, rfl, rfl⟩) (And.intro (⟨lc_X1_61, Nat.le_of_ble_eq_true rfl, _, rfl, rfl⟩) (And.intro (⟨lc_X1_64, Nat.le_of_ble_eq_true rfl, _, rfl, rfl⟩) (And.intro (⟨lc_X1_77, Nat.le_of_ble_eq_true rfl, _, rfl, rfl⟩) (And.intro (⟨lc_X1_109, Nat.le_of_ble_eq_true rfl⟩) (And.intro (⟨lc_X1_113, Nat.le_of_ble_eq_true rfl, _, rfl, rfl⟩) (trivial))))))
set_option maxRecDepth 100000 in
theorem okC1_2 : xall (okC 1) tC1_2 := And.intro (⟨lc_X1_117, Nat.le_of_ble_eq_true rfl, _, rfl, rfl⟩) (And.intro (⟨lc_X1_121, Nat.le_of_ble_eq_true rfl, _, rfl, rfl⟩) (And.intro (⟨lc_X1_124, Nat.le_of_ble_eq_true rfl⟩) (And.intro (⟨lc_X1_130, Nat.le_of_ble_eq_true rfl⟩) (And.intro (⟨lc_X1_133, Nat.le_of_ble_eq_true rfl⟩) (And.intro (⟨lc_X1_137, Nat.le_of_ble_eq_true rfl, rfl⟩) (trivial))))))
set_option maxRecDepth 100000 in
theorem okC1_3 : xall (okC 1) tC1_3 := And.intro (⟨lc_X1_142, Nat.le_of_ble_eq_true rfl, rfl⟩) (And.intro (⟨lc_X1_146, Nat.le_of_ble_eq_true rfl, _, rfl, rfl⟩) (And.intro (⟨lc_X1_150, Nat.le_of_ble_eq_true rfl, _, rfl, rfl⟩) (And.intro (⟨⟨_, lc_X1_156⟩, Nat.le_of_ble_eq_true rfl⟩) (And.intro (⟨lc_X1_160, Nat.le_of_ble_eq_true rfl, _, rfl, rfl⟩) (And.intro (⟨lc_X1_165, Nat.le_of_ble_eq_true rfl⟩) (trivial))))))
set_option maxRecDepth 100000 in
theorem okC1_4 : xall (okC 1) tC1_4 := And.intro (⟨lc_X1_169, Nat.le_of_ble_eq_true rfl, rfl⟩) (And.intro (⟨lc_X1_172, Nat.le_of_ble_eq_true rfl, _, rfl, rfl⟩) (And.intro (⟨⟨_, lc_X1_175⟩, Nat.le_of_ble_eq_true rfl⟩) (And.intro (⟨lc_X1_187, Nat.le_of_ble_eq_true rfl⟩) (And.intro (⟨lc_X1_191, Nat.le_of_ble_eq_true rfl⟩) (And.intro (⟨lc_X1_194, Nat.le_of_ble_eq_true rfl, _, rfl, rfl⟩) (trivial))))))
set_option maxRecDepth 100000 in
theorem okC1_5 : xall (okC 1) tC1_5 := And.intro (⟨lc_X1_198, Nat.le_of_ble_eq_true rfl, _, rfl, rfl⟩) (And.intro (⟨lc_X1_201, Nat.le_of_ble_eq_true rfl, _, rfl, rfl⟩) (And.intro (⟨lc_X1_204, Nat.le_of_ble_eq_true rfl, _, rfl, rfl⟩) (And.intro (⟨lc_X1_208, Nat.le_of_ble_eq_true rfl, _, rfl, rfl⟩) (And.intro (⟨lc_X1_212, Nat.le_of_ble_eq_true rfl, _, rfl, rfl⟩) (And.intro (⟨lc_X1_216, Nat.le_of_ble_eq_true rfl⟩) (trivial))))))
set_option maxRecDepth 100000 in
theorem okC1_6 : xall (okC 1) tC1_6 := And.intro (⟨lc_X1_219, Nat.le_of_ble_eq_true rfl⟩) (And.intro (⟨lc_X1_222, Nat.le_of_ble_eq_true rfl⟩) (trivial))
theorem okC1 : ∀ k, xall (okC 1) (tC1 k) := by
  intro k
  unfold tC1
  exact xall_bif (fun _ => xall_bif (fun _ => xall_bif (fun _ => okC1_6) (okC1_5)) (xall_bif (fun _ => okC1_4) (okC1_3))) (xall_bif (fun _ => xall_bif (fun _ => okC1_2) (okC1_1)) (okC1_0))
set_option maxRecDepth 100000 in
theorem okC2_0 : xall (okC 2) tC2_0 := And.intro (⟨lo_X2_3, rfl⟩) (And.intro (⟨lc_X2_37, Nat.le_of_ble_eq_true rfl⟩) (And.intro (⟨⟨_, lc_X2_61⟩, Nat.le_of_ble_eq_true rfl⟩) (And.intro (⟨⟨_, lc_X2_65⟩, Nat.le_of_ble_eq_true rfl⟩) (And.intro (⟨lc_X2_69, Nat.le_of_ble_eq_true rfl, _, rfl, rfl⟩) (And.intro (⟨⟨_, lc_X2_73⟩, Nat.le_of_ble_eq_true rfl⟩) (trivial))))))
set_option maxRecDepth 100000 in
theorem okC2_1 : xall (okC 2) tC2_1 := And.intro (⟨lc_X2_77, Nat.le_of_ble_eq_true rfl, _, rfl, rfl⟩) (And.intro (⟨⟨_, lc_X2_81⟩, Nat.le_of_ble_eq_true rfl⟩) (And.intro (lm_X2_85) (And.intro (⟨⟨_, lc_X2_91⟩, Nat.le_of_ble_eq_true rfl⟩) (And.intro (⟨lc_X2_95, Nat.le_of_ble_eq_true rfl, _, rfl, rfl⟩) (And.intro (⟨lc_X2_99, Nat.le_of_ble_eq_true rfl, _, rfl, rfl⟩) (trivial))))))
set_option maxRecDepth 100000 in
theorem okC2_2 : xall (okC 2) tC2_2 := And.intro (⟨lc_X2_102, Nat.le_of_ble_eq_true rfl, _, rfl, rfl⟩) (And.intro (⟨lc_X2_105, Nat.le_of_ble_eq_true rfl, _, rfl, rfl⟩) (And.intro (⟨lc_X2_109, Nat.le_of_ble_eq_true rfl, _, rfl, rfl⟩) (And.intro (⟨⟨_, lc_X2_112⟩, Nat.le_of_ble_eq_true rfl⟩) (trivial))))
theorem okC2 : ∀ k, xall (okC 2) (tC2 k) := by
  intro k
  unfold tC2
  exact xall_bif (fun _ => xall_bif (fun _ => okC2_2) (okC2_1)) (okC2_0)
set_option maxRecDepth 100000 in
theorem okC3_0 : xall (okC 3) tC3_0 := And.intro (⟨lo_X3_3, rfl⟩) (And.intro (⟨lc_X3_19, Nat.le_of_ble_eq_true rfl⟩) (And.intro (⟨⟨_, lc_X3_25⟩, Nat.le_of_ble_eq_true rfl⟩) (And.intro (⟨⟨_, lc_X3_29⟩, Nat.le_of_ble_eq_true rfl⟩) (And.intro (⟨⟨_, lc_X3_33⟩, Nat.le_of_ble_eq_true rfl⟩) (And.intro (⟨lc_X3_37, Nat.le_of_ble_eq_true rfl, _, rfl, rfl⟩) (trivial))))))
set_option maxRecDepth 100000 in
theorem okC3_1 : xall (okC 3) tC3_1 := And.intro (⟨⟨_, lc_X3_41⟩, Nat.le_of_ble_eq_true rfl⟩) (And.intro (⟨lc_X3_45, Nat.le_of_ble_eq_true rfl, _, rfl, rfl⟩) (trivial))
theorem okC3 : ∀ k, xall (okC 3) (tC3 k) := by
  intro k
  unfold tC3
  exact xall_bif (fun _ => okC3_1) (okC3_0)
set_option maxRecDepth 100000 in
theorem okC4_0 : xall (okC 4) tC4_0 := And.intro (⟨lo_X4_3, rfl⟩) (And.intro (⟨⟨_, lc_X4_26⟩, Nat.le_of_ble_eq_true rfl⟩) (And.intro (lm_X4_30) (trivial)))
theorem okC4 : ∀ k, xall (okC 4) (tC4 k) := by
  intro k
  unfold tC4
  exact okC4_0
set_option maxRecDepth 100000 in
theorem okC5_0 : xall (okC 5) tC5_0 := And.intro (⟨lo_X5_3, rfl⟩) (And.intro (⟨⟨_, lc_X5_34⟩, Nat.le_of_ble_eq_true rfl, rfl⟩) (And.intro (⟨⟨_, lc_X5_35⟩, Nat.le_of_ble_eq_true rfl, rfl⟩) (And.intro (⟨⟨_, lc_X5_36⟩, Nat.le_of_ble_eq_true rfl⟩) (And.intro (⟨lc_X5_46, Nat.le_of_ble_eq_true rfl, _, rfl, rfl⟩) (And.intro (⟨lc_X5_50, Nat.le_of_ble_eq_true rfl, _, rfl, rfl⟩) (trivial))))))
theorem okC5 : ∀ k, xall (okC 5) (tC5 k) := by
  intro k
  unfold tC5
  exact okC5_0
set_option maxRecDepth 100000 in
theorem okC6_0 : xall (okC 6) tC6_0 := And.intro (⟨lo_X6_1, rfl⟩) (And.intro (⟨lc_X6_9, Nat.le_of_ble_eq_true rfl, rfl⟩) (And.intro (⟨⟨_, lc_X6_22⟩, Nat.le_of_ble_eq_true rfl, rfl⟩) (And.intro (⟨⟨_, lc_X6_29⟩, Nat.le_of_ble_eq_true rfl, rfl⟩) (And.intro (⟨⟨_, lc_X6_36⟩, Nat.le_of_ble_eq_true rfl, rfl⟩) (And.intro (⟨lc_X6_55, Nat.le_of_ble_eq_true rfl, _, rfl, rfl⟩) (trivial))))))
set_option maxRecDepth 100000 in
theorem okC6_1 : xall (okC 6) tC6_1 := And.intro (⟨lc_X6_62, Nat.le_of_ble_eq_true rfl⟩) (And.intro (⟨lc_X6_66, Nat.le_of_ble_eq_true rfl, _, rfl, rfl⟩) (And.intro (⟨lc_X6_76, Nat.le_of_ble_eq_true rfl, _, rfl, rfl⟩) (And.intro (⟨lc_X6_81, Nat.le_of_ble_eq_true rfl, _, rfl, rfl⟩) (And.intro (⟨lc_X6_88, Nat.le_of_ble_eq_true rfl⟩) (And.intro (⟨lc_X6_92, Nat.le_of_ble_eq_true rfl, _, rfl, rfl⟩) (trivial))))))
set_option maxRecDepth 100000 in
theorem okC6_2 : xall (okC 6) tC6_2 := And.intro (⟨lc_X6_100, Nat.le_of_ble_eq_true rfl, _, rfl, rfl⟩) (And.intro (⟨lc_X6_106, Nat.le_of_ble_eq_true rfl, _, rfl, rfl⟩) (And.intro (⟨lc_X6_114, Nat.le_of_ble_eq_true rfl, _, rfl, rfl⟩) (And.intro (lm_X6_120) (And.intro (⟨lc_X6_125, Nat.le_of_ble_eq_true rfl, _, rfl, rfl⟩) (And.intro (⟨lc_X6_129, Nat.le_of_ble_eq_true rfl, _, rfl, rfl⟩) (trivial))))))
set_option maxRecDepth 100000 in
theorem okC6_3 : xall (okC 6) tC6_3 := And.intro (⟨lc_X6_153, Nat.le_of_ble_eq_true rfl, _, rfl, rfl⟩) (And.intro (⟨lc_X6_172, Nat.le_of_ble_eq_true rfl⟩) (And.intro (⟨lc_X6_179, Nat.le_of_ble_eq_true rfl, _, rfl, rfl⟩) (And.intro (⟨lc_X6_182, Nat.le_of_ble_eq_true rfl, _, rfl, rfl⟩) (And.intro (⟨lc_X6_185, Nat.le_of_ble_eq_true rfl⟩) (And.intro (⟨lc_X6_190, Nat.le_of_ble_eq_true rfl, _, rfl, rfl⟩) (trivial))))))
set_option maxRecDepth 100000 in
theorem okC6_4 : xall (okC 6) tC6_4 := And.intro (⟨lc_X6_193, Nat.le_of_ble_eq_true rfl⟩) (And.intro (⟨lc_X6_196, Nat.le_of_ble_eq_true rfl⟩) (And.intro (⟨lc_X6_200, Nat.le_of_ble_eq_true rfl, _, rfl, rfl⟩) (And.intro (⟨lc_X6_204, Nat.le_of_ble_eq_true rfl, _, rfl, rfl⟩) (And.intro (⟨lc_X6_207, Nat.le_of_ble_eq_true rfl, _, rfl, rfl⟩) (And.intro (⟨lc_X6_210, Nat.le_of_ble_eq_true rfl, _, rfl, rfl⟩) (trivial))))))
set_option maxRecDepth 100000 in
theorem okC6_5 : xall (okC 6) tC6_5 := And.intro (⟨lc_X6_214, Nat.le_of_ble_eq_true rfl, _, rfl, rfl⟩) (And.intro (⟨lc_X6_217, Nat.le_of_ble_eq_true rfl⟩) (And.intro (⟨lc_X6_220, Nat.le_of_ble_eq_true rfl⟩) (And.intro (⟨lc_X6_224, Nat.le_of_ble_eq_true rfl⟩) (And.intro (⟨lc_X6_227, Nat.le_of_ble_eq_true rfl, _, rfl, rfl⟩) (And.intro (⟨lc_X6_231, Nat.le_of_ble_eq_true rfl, _, rfl, rfl⟩) (trivial))))))
set_option maxRecDepth 100000 in
theorem okC6_6 : xall (okC 6) tC6_6 := And.intro (⟨lc_X6_254, Nat.le_of_ble_eq_true rfl, _, rfl, rfl⟩) (And.intro (⟨lc_X6_265, Nat.le_of_ble_eq_true rfl, _, rfl, rfl⟩) (And.intro (⟨lc_X6_275, Nat.le_of_ble_eq_true rfl, _, rfl, rfl⟩) (And.intro (⟨lc_X6_279, Nat.le_of_ble_eq_true rfl, _, rfl, rfl⟩) (And.intro (⟨lc_X6_283, Nat.le_of_ble_eq_true rfl, _, rfl, rfl⟩) (And.intro (⟨lc_X6_286, Nat.le_of_ble_eq_true rfl, _, rfl, rfl⟩) (trivial))))))
set_option maxRecDepth 100000 in
theorem okC6_7 : xall (okC 6) tC6_7 := And.intro (⟨lc_X6_289, Nat.le_of_ble_eq_true rfl, _, rfl, rfl⟩) (And.intro (⟨lc_X6_293, Nat.le_of_ble_eq_true rfl⟩) (And.intro (⟨lc_X6_297, Nat.le_of_ble_eq_true rfl⟩) (And.intro (⟨lc_X6_300, Nat.le_of_ble_eq_true rfl⟩) (And.intro (⟨lc_X6_306, Nat.le_of_ble_eq_true rfl⟩) (And.intro (⟨lc_X6_310, Nat.le_of_ble_eq_true rfl⟩) (trivial))))))
set_option maxRecDepth 100000 in
theorem okC6_8 : xall (okC 6) tC6_8 := And.intro (⟨lc_X6_315, Nat.le_of_ble_eq_true rfl⟩) (And.intro (⟨lc_X6_319, Nat.le_of_ble_eq_true rfl⟩) (And.intro (⟨lc_X6_322, Nat.le_of_ble_eq_true rfl⟩) (And.intro (⟨lc_X6_326, Nat.le_of_ble_eq_true rfl⟩) (And.intro (⟨lc_X6_330, Nat.le_of_ble_eq_true rfl, _, rfl, rfl⟩) (And.intro (⟨lc_X6_333, Nat.le_of_ble_eq_true rfl⟩) (trivial))))))
set_option maxRecDepth 100000 in
theorem okC6_9 : xall (okC 6) tC6_9 := And.intro (⟨lc_X6_337, Nat.le_of_ble_eq_true rfl⟩) (And.intro (⟨lc_X6_341, Nat.le_of_ble_eq_true rfl⟩) (And.intro (⟨lc_X6_345, Nat.le_of_ble_eq_true rfl⟩) (And.intro (⟨lc_X6_349, Nat.le_of_ble_eq_true rfl⟩) (And.intro (⟨lc_X6_353, Nat.le_of_ble_eq_true rfl, _, rfl, rfl⟩) (And.intro (⟨lc_X6_357, Nat.le_of_ble_eq_true rfl, _, rfl, rfl⟩) (trivial))))))
set_option maxRecDepth 100000 in
theorem okC6_10 : xall (okC 6) tC6_10 := And.intro (⟨lc_X6_360, Nat.le_of_ble_eq_true rfl, _, rfl, rfl⟩) (And.intro (⟨lc_X6_363, Nat.le_of_ble_eq_true rfl, _, rfl, rfl⟩) (And.intro (lm_X6_366) (And.intro (⟨lc_X6_369, Nat.le_of_ble_eq_true rfl, _, rfl, rfl⟩) (And.intro (⟨lc_X6_372, Nat.le_of_ble_eq_true rfl, _, rfl, rfl⟩) (And.intro (⟨lc_X6_375, Nat.le_of_ble_eq_true rfl, _, rfl, rfl⟩) (trivial))))))
set_option maxRecDepth 100000 in
theorem okC6_11 : xall (okC 6) tC6_11 := And.intro (⟨lc_X6_379, Nat.le_of_ble_eq_true rfl, _, rfl, rfl⟩) (And.intro (⟨lc_X6_382, Nat.le_of_ble_eq_true rfl⟩) (And.intro (⟨lc_X6_386, Nat.le_of_ble_eq_true rfl, _, rfl, rfl⟩) (And.intro (⟨lc_X6_389, Nat.le_of_ble_eq_true rfl⟩) (And.intro (⟨lc_X6_395, Nat.le_of_ble_eq_true rfl⟩) (And.intro (⟨lc_X6_398, Nat.le_of_ble_eq_true rfl⟩) (trivial))))))
set_option maxRecDepth 100000 in
theorem okC6_12 : xall (okC 6) tC6_12 := And.intro (⟨lc_X6_402, Nat.le_of_ble_eq_true rfl⟩) (And.intro (⟨lc_X6_405, Nat.le_of_ble_eq_true rfl⟩) (And.intro (⟨lc_X6_408, Nat.le_of_ble_eq_true rfl⟩) (And.intro (⟨lc_X6_411, Nat.le_of_ble_eq_true rfl⟩) (And.intro (⟨lc_X6_415, Nat.le_of_ble_eq_true rfl⟩) (And.intro (⟨lc_X6_419, Nat.le_of_ble_eq_true rfl⟩) (trivial))))))
set_option maxRecDepth 100000 in
theorem okC6_13 : xall (okC 6) tC6_13 := And.intro (lm_X6_422) (And.intro (⟨lc_X6_428, Nat.le_of_ble_eq_true rfl⟩) (trivial))
theorem okC6 : ∀ k, xall (okC 6) (tC6 k) := by
  intro k
  unfold tC6
  exact xall_bif (fun _ => xall_bif (fun _ => xall_bif (fun _ => xall_bif (fun _ => okC6_13) (okC6_12)) (xall_bif (fun _ => okC6_11) (okC6_10))) (xall_bif (fun _ => xall_bif (fun _ => okC6_9) (okC6_8)) (okC6_7))) (xall_bif (fun _ => xall_bif (fun _ => xall_bif (fun _ => okC6_6) (okC6_5)) (xall_bif (fun _ => okC6_4) (okC6_3))) (xall_bif (fun _ => xall_bif (fun _ => okC6_2) (okC6_1)) (okC6_0)))
set_option maxRecDepth 100000 in
theorem okC7_0 : xall (okC 7) tC7_0 := And.intro (⟨lo_X7_1, rfl⟩) (And.intro (⟨lc_X7_36, Nat.le_of_ble_eq_true rfl⟩) (And.intro (⟨lc_X7_42, Nat.le_of_ble_eq_true rfl⟩) (And.intro (⟨lc_X7_46, Nat.le_of_ble_eq_true rfl⟩) (And.intro (⟨lc_X7_50, Nat.le_of_ble_eq_true rfl⟩) (And.intro (⟨lc_X7_56, Nat.le_of_ble_eq_true rfl, _, rfl, rfl⟩) (trivial))))))
set_option maxRecDepth 100000 in
theorem okC7_1 : xall (okC 7) tC7_1 := And.intro (⟨lc_X7_66, Nat.le_of_ble_eq_true rfl⟩) (And.intro (⟨lc_X7_74, Nat.le_of_ble_eq_true rfl⟩) (And.intro (⟨lc_X7_80, Nat.le_of_ble_eq_true rfl⟩) (And.intro (⟨lc_X7_90, Nat.le_of_ble_eq_true rfl, _, rfl, rfl⟩) (And.intro (⟨lc_X7_93, Nat.le_of_ble_eq_true rfl⟩) (And.intro (⟨lc_X7_97, Nat.le_of_ble_eq_true rfl, _, rfl, rfl⟩) (trivial))))))
set_option maxRecDepth 100000 in
theorem okC7_2 : xall (okC 7) tC7_2 := And.intro (⟨lc_X7_101, Nat.le_of_ble_eq_true rfl, _, rfl, rfl⟩) (And.intro (⟨lc_X7_104, Nat.le_of_ble_eq_true rfl, _, rfl, rfl⟩) (And.intro (⟨lc_X7_108, Nat.le_of_ble_eq_true rfl, _, rfl, rfl⟩) (And.intro (⟨lc_X7_114, Nat.le_of_ble_eq_true rfl, _, rfl, rfl⟩) (And.intro (⟨lc_X7_118, Nat.le_of_ble_eq_true rfl, _, rfl, rfl⟩) (And.intro (⟨lc_X7_121, Nat.le_of_ble_eq_true rfl, _, rfl, rfl⟩) (trivial))))))
set_option maxRecDepth 100000 in
theorem okC7_3 : xall (okC 7) tC7_3 := And.intro (⟨lc_X7_125, Nat.le_of_ble_eq_true rfl, _, rfl, rfl⟩) (And.intro (⟨lc_X7_128, Nat.le_of_ble_eq_true rfl, _, rfl, rfl⟩) (And.intro (⟨lc_X7_131, Nat.le_of_ble_eq_true rfl, _, rfl, rfl⟩) (And.intro (⟨lc_X7_134, Nat.le_of_ble_eq_true rfl, _, rfl, rfl⟩) (And.intro (⟨lc_X7_137, Nat.le_of_ble_eq_true rfl, _, rfl, rfl⟩) (And.intro (⟨lc_X7_141, Nat.le_of_ble_eq_true rfl, _, rfl, rfl⟩) (trivial))))))
set_option maxRecDepth 100000 in
theorem okC7_4 : xall (okC 7) tC7_4 := And.intro (⟨lc_X7_144, Nat.le_of_ble_eq_true rfl, _, rfl, rfl⟩) (And.intro (⟨lc_X7_148, Nat.le_of_ble_eq_true rfl, _, rfl, rfl⟩) (And.intro (⟨lc_X7_151, Nat.le_of_ble_eq_true rfl, _, rfl, rfl⟩) (And.intro (⟨lc_X7_154, Nat.le_of_ble_eq_true rfl, _, rfl, rfl⟩) (And.intro (⟨lc_X7_157, Nat.le_of_ble_eq_true rfl, _, rfl, rfl⟩) (And.intro (⟨lc_X7_160, Nat.le_of_ble_eq_true rfl, _, rfl, rfl⟩) (trivial))))))
set_option maxRecDepth 100000 in
theorem okC7_5 : xall (okC 7) tC7_5 := And.intro (⟨lc_X7_163, Nat.le_of_ble_eq_true rfl, _, rfl, rfl⟩) (And.intro (⟨lc_X7_166, Nat.le_of_ble_eq_true rfl, _, rfl, rfl⟩) (And.intro (⟨lc_X7_169, Nat.le_of_ble_eq_true rfl⟩) (And.intro (⟨lc_X7_172, Nat.le_of_ble_eq_true rfl⟩) (And.intro (⟨lc_X7_178, Nat.le_of_ble_eq_true rfl, _, rfl, rfl⟩) (And.intro (⟨lc_X7_181, Nat.le_of_ble_eq_true rfl, _, rfl, rfl⟩) (trivial))))))
set_option maxRecDepth 100000 in
theorem okC7_6 : xall (okC 7) tC7_6 := And.intro (⟨lc_X7_184, Nat.le_of_ble_eq_true rfl, _, rfl, rfl⟩) (And.intro (⟨lc_X7_187, Nat.le_of_ble_eq_true rfl, _, rfl, rfl⟩) (And.intro (⟨lc_X7_190, Nat.le_of_ble_eq_true rfl, _, rfl, rfl⟩) (And.intro (⟨lc_X7_193, Nat.le_of_ble_eq_true rfl, _, rfl, rfl⟩) (And.intro (⟨lc_X7_208, Nat.le_of_ble_eq_true rfl, _, rfl, rfl⟩) (And.intro (⟨lc_X7_212, Nat.le_of_ble_eq_true rfl⟩) (trivial))))))
set_option maxRecDepth 100000 in
theorem okC7_7 : xall (okC 7) tC7_7 := And.intro (⟨lc_X7_217, Nat.le_of_ble_eq_true rfl, _, rfl, rfl⟩) (And.intro (⟨lc_X7_220, Nat.le_of_ble_eq_true rfl, _, rfl, rfl⟩) (And.intro (⟨lc_X7_223, Nat.le_of_ble_eq_true rfl, _, rfl, rfl⟩) (And.intro (⟨lc_X7_229, Nat.le_of_ble_eq_true rfl, _, rfl, rfl⟩) (And.intro (⟨lc_X7_232, Nat.le_of_ble_eq_true rfl, _, rfl, rfl⟩) (And.intro (⟨lc_X7_235, Nat.le_of_ble_eq_true rfl⟩) (trivial))))))
set_option maxRecDepth 100000 in
theorem okC7_8 : xall (okC 7) tC7_8 := And.intro (⟨lc_X7_238, Nat.le_of_ble_eq_true rfl, _, rfl, rfl⟩) (And.intro (⟨lc_X7_241, Nat.le_of_ble_eq_true rfl, _, rfl, rfl⟩) (And.intro (⟨lc_X7_245, Nat.le_of_ble_eq_true rfl, _, rfl, rfl⟩) (And.intro (⟨lc_X7_248, Nat.le_of_ble_eq_true rfl, _, rfl, rfl⟩) (And.intro (⟨lc_X7_254, Nat.le_of_ble_eq_true rfl, _, rfl, rfl⟩) (And.intro (⟨lc_X7_257, Nat.le_of_ble_eq_true rfl, _, rfl, rfl⟩) (trivial))))))
set_option maxRecDepth 100000 in
theorem okC7_9 : xall (okC 7) tC7_9 := And.intro (⟨lc_X7_260, Nat.le_of_ble_eq_true rfl, _, rfl, rfl⟩) (And.intro (⟨lc_X7_263, Nat.le_of_ble_eq_true rfl⟩) (And.intro (⟨lc_X7_266, Nat.le_of_ble_eq_true rfl, _, rfl, rfl⟩) (And.intro (⟨lc_X7_269, Nat.le_of_ble_eq_true rfl, _, rfl, rfl⟩) (And.intro (⟨lc_X7_296, Nat.le_of_ble_eq_true rfl, _, rfl, rfl⟩) (And.intro (⟨lc_X7_299, Nat.le_of_ble_eq_true rfl, _, rfl, rfl⟩) (trivial))))))
set_option maxRecDepth 100000 in
theorem okC7_10 : xall (okC 7) tC7_10 := And.intro (⟨lc_X7_302, Nat.le_of_ble_eq_true rfl, _, rfl, rfl⟩) (And.intro (⟨lc_X7_308, Nat.le_of_ble_eq_true rfl, _, rfl, rfl⟩) (And.intro (⟨lc_X7_311, Nat.le_of_ble_eq_true rfl, _, rfl, rfl⟩) (And.intro (⟨lc_X7_314, Nat.le_of_ble_eq_true rfl, _, rfl, rfl⟩) (And.intro (⟨lc_X7_317, Nat.le_of_ble_eq_true rfl, _, rfl, rfl⟩) (And.intro (⟨lc_X7_321, Nat.le_of_ble_eq_true rfl, _, rfl, rfl⟩) (trivial))))))
set_option maxRecDepth 100000 in
theorem okC7_11 : xall (okC 7) tC7_11 := And.intro (⟨lc_X7_324, Nat.le_of_ble_eq_true rfl, _, rfl, rfl⟩) (And.intro (⟨lc_X7_327, Nat.le_of_ble_eq_true rfl, _, rfl, rfl⟩) (And.intro (⟨lc_X7_330, Nat.le_of_ble_eq_true rfl, _, rfl, rfl⟩) (And.intro (⟨lc_X7_333, Nat.le_of_ble_eq_true rfl, _, rfl, rfl⟩) (And.intro (⟨lc_X7_336, Nat.le_of_ble_eq_true rfl, _, rfl, rfl⟩) (And.intro (⟨lc_X7_340, Nat.le_of_ble_eq_true rfl⟩) (trivial))))))
set_option maxRecDepth 100000 in
theorem okC7_12 : xall (okC 7) tC7_12 := And.intro (⟨lc_X7_344, Nat.le_of_ble_eq_true rfl⟩) (And.intro (⟨lc_X7_347, Nat.le_of_ble_eq_true rfl, _, rfl, rfl⟩) (And.intro (⟨lc_X7_350, Nat.le_of_ble_eq_true rfl, _, rfl, rfl⟩) (And.intro (⟨lc_X7_353, Nat.le_of_ble_eq_true rfl⟩) (And.intro (⟨lc_X7_356, Nat.le_of_ble_eq_true rfl⟩) (And.intro (⟨lc_X7_359, Nat.le_of_ble_eq_true rfl⟩) (trivial))))))
set_option maxRecDepth 100000 in
theorem okC7_13 : xall (okC 7) tC7_13 := And.intro (⟨lc_X7_363, Nat.le_of_ble_eq_true rfl, _, rfl, rfl⟩) (And.intro (⟨lc_X7_366, Nat.le_of_ble_eq_true rfl, _, rfl, rfl⟩) (And.intro (⟨lc_X7_369, Nat.le_of_ble_eq_true rfl, _, rfl, rfl⟩) (And.intro (⟨lc_X7_372, Nat.le_of_ble_eq_true rfl, _, rfl, rfl⟩) (And.intro (⟨lc_X7_375, Nat.le_of_ble_eq_true rfl, _, rfl, rfl⟩) (And.intro (⟨lc_X7_378, Nat.le_of_ble_eq_true rfl, _, rfl, rfl⟩) (trivial))))))
set_option maxRecDepth 100000 in
theorem okC7_14 : xall (okC 7) tC7_14 := And.intro (⟨lc_X7_384, Nat.le_of_ble_eq_true rfl, _, rfl, rfl⟩) (And.intro (⟨lc_X7_387, Nat.le_of_ble_eq_true rfl, _, rfl, rfl⟩) (And.intro (⟨lc_X7_390, Nat.le_of_ble_eq_true rfl, _, rfl, rfl⟩) (And.intro (⟨lc_X7_393, Nat.le_of_ble_eq_true rfl, _, rfl, rfl⟩) (And.intro (⟨lc_X7_396, Nat.le_of_ble_eq_true rfl, _, rfl, rfl⟩) (And.intro (⟨lc_X7_399, Nat.le_of_ble_eq_true rfl, _, rfl, rfl⟩) (trivial))))))
set_option maxRecDepth 100000 in
theorem okC7_15 : xall (okC 7) tC7_15 := And.intro (⟨lc_X7_402, Nat.le_of_ble_eq_true rfl, _, rfl, rfl⟩) (And.intro (⟨lc_X7_405, Nat.le_of_ble_eq_true rfl, _, rfl, rfl⟩) (And.intro (⟨lc_X7_408, Nat.le_of_ble_eq_true rfl, _, rfl, rfl⟩) (And.intro (⟨lc_X7_411, Nat.le_of_ble_eq_true rfl, _, rfl, rfl⟩) (And.intro (⟨lc_X7_414, Nat.le_of_ble_eq_true rfl, _, rfl, rfl⟩) (And.intro (⟨lc_X7_417, Nat.le_of_ble_eq_true rfl, _, rfl, rfl⟩) (trivial))))))
set_option maxRecDepth 100000 in
theorem okC7_16 : xall (okC 7) tC7_16 := And.intro (⟨lc_X7_420, Nat.le_of_ble_eq_true rfl, _, rfl, rfl⟩) (And.intro (⟨lc_X7_423, Nat.le_of_ble_eq_true rfl, _, rfl, rfl⟩) (And.intro (⟨lc_X7_429, Nat.le_of_ble_eq_true rfl, _, rfl, rfl⟩) (And.intro (⟨lc_X7_432, Nat.le_of_ble_eq_true rfl, _, rfl, rfl⟩) (And.intro (⟨lc_X7_435, Nat.le_of_ble_eq_true rfl, _, rfl, rfl⟩) (And.intro (⟨lc_X7_438, Nat.le_of_ble_eq_true rfl, _, rfl, rfl⟩) (trivial))))))
set_option maxRecDepth 100000 in
theorem okC7_17 : xall (okC 7) tC7_17 := And.intro (⟨lc_X7_441, Nat.le_of_ble_eq_true rfl, _, rfl, rfl⟩) (And.intro (⟨lc_X7_448, Nat.le_of_ble_eq_true rfl, _, rfl, rfl⟩) (And.intro (⟨lc_X7_451, Nat.le_of_ble_eq_true rfl, _, rfl, rfl⟩) (trivial)))
theorem okC7 : ∀ k, xall (okC 7) (tC7 k) := by
  intro k
  unfold tC7
  exact xall_bif (fun _ => xall_bif (fun _ => xall_bif (fun _ => xall_bif (fun _ => xall_bif (fun _ => okC7_17) (okC7_16)) (okC7_15)) (xall_bif (fun _ => okC7_14) (okC7_13))) (xall_bif (fun _ => xall_bif (fun _ => okC7_12) (okC7_11)) (xall_bif (fun _ => okC7_10) (okC7_9)))) (xall_bif (fun _ => xall_bif (fun _ => xall_bif (fun _ => xall_bif (fun _ => okC7_8) (okC7_7)) (okC7_6)) (xall_bif (fun _ => okC7_5) (okC7_4))) (xall_bif (fun _ => xall_bif (fun _ => okC7_3) (okC7_2)) (xall_bif (fun _ => okC7_1) (okC7_0))))
set_option maxRecDepth 100000 in
theorem okC8_0 : xall (okC 8) tC8_0 := And.intro (⟨lc_L_9, Nat.le_of_ble_eq_true rfl, rfl⟩) (And.intro (⟨lc_L_12, Nat.le_of_ble_eq_true rfl, rfl⟩) (And.intro (⟨lc_L_13, Nat.le_of_ble_eq_true rfl, _, rfl, rfl⟩) (And.intro (⟨lc_L_17, Nat.le_of_ble_eq_true rfl, _, rfl, rfl⟩) (And.intro (⟨lc_L_18, Nat.le_of_ble_eq_true rfl, _, rfl, rfl⟩) (And.intro (⟨lc_L_22, Nat.le_of_ble_eq_true rfl, _, rfl, rfl⟩) (trivial))))))
set_option maxRecDepth 100000 in
theorem okC8_1 : xall (okC 8) tC8_1 := And.intro (⟨lc_L_23, Nat.le_of_ble_eq_true rfl, _, rfl, rfl⟩) (And.intro (⟨lc_L_27, Nat.le_of_ble_eq_true rfl, _, rfl, rfl⟩) (And.intro (⟨lc_L_28, Nat.le_of_ble_eq_true rfl, _, rfl, rfl⟩) (And.intro (⟨lc_L_31, Nat.le_of_ble_eq_true rfl, _, rfl, rfl⟩) (And.intro (⟨lc_L_32, Nat.le_of_ble_eq_true rfl, _, rfl, rfl⟩) (And.intro (⟨lc_L_35, Nat.le_of_ble_eq_true rfl, _, rfl, rfl⟩) (trivial))))))
set_option maxRecDepth 100000 in
theorem okC8_2 : xall (okC 8) tC8_2 := And.intro (⟨lc_L_36, Nat.le_of_ble_eq_true rfl, _, rfl, rfl⟩) (And.intro (⟨lc_L_40, Nat.le_of_ble_eq_true rfl, _, rfl, rfl⟩) (And.intro (⟨lc_L_41, Nat.le_of_ble_eq_true rfl, _, rfl, rfl⟩) (And.intro (⟨lc_L_45, Nat.le_of_ble_eq_true rfl, _, rfl, rfl⟩) (And.intro (⟨lc_L_46, Nat.le_of_ble_eq_true rfl, _, rfl, rfl⟩) (And.intro (⟨lc_L_50, Nat.le_of_ble_eq_true rfl, _, rfl, rfl⟩) (trivial))))))
set_option maxRecDepth 100000 in
theorem okC8_3 : xall (okC 8) tC8_3 := And.intro (⟨lc_L_51, Nat.le_of_ble_eq_true rfl, _, rfl, rfl⟩) (And.intro (⟨lc_L_54, Nat.le_of_ble_eq_true rfl, _, rfl, rfl⟩) (And.intro (⟨lc_L_55, Nat.le_of_ble_eq_true rfl, _, rfl, rfl⟩) (And.intro (⟨lc_L_58, Nat.le_of_ble_eq_true rfl, _, rfl, rfl⟩) (And.intro (⟨lc_L_59, Nat.le_of_ble_eq_true rfl, _, rfl, rfl⟩) (And.intro (⟨lc_L_62, Nat.le_of_ble_eq_true rfl, _, rfl, rfl⟩) (trivial))))))
set_option maxRecDepth 100000 in
theorem okC8_4 : xall (okC 8) tC8_4 := And.intro (⟨lc_L_63, Nat.le_of_ble_eq_true rfl, _, rfl, rfl⟩) (And.intro (⟨lc_L_66, Nat.le_of_ble_eq_true rfl, _, rfl, rfl⟩) (And.intro (⟨lc_L_67, Nat.le_of_ble_eq_true rfl, _, rfl, rfl⟩) (And.intro (⟨lc_L_70, Nat.le_of_ble_eq_true rfl, _, rfl, rfl⟩) (And.intro (⟨lc_L_71, Nat.le_of_ble_eq_true rfl, _, rfl, rfl⟩) (And.intro (⟨lc_L_74, Nat.le_of_ble_eq_true rfl, _, rfl, rfl⟩) (trivial))))))
set_option maxRecDepth 100000 in
theorem okC8_5 : xall (okC 8) tC8_5 := And.intro (⟨lc_L_75, Nat.le_of_ble_eq_true rfl, _, rfl, rfl⟩) (And.intro (⟨lc_L_79, Nat.le_of_ble_eq_true rfl, _, rfl, rfl⟩) (And.intro (⟨lc_L_80, Nat.le_of_ble_eq_true rfl, _, rfl, rfl⟩) (And.intro (⟨lc_L_83, Nat.le_of_ble_eq_true rfl, _, rfl, rfl⟩) (And.intro (⟨lc_L_84, Nat.le_of_ble_eq_true rfl, _, rfl, rfl⟩) (And.intro (⟨lc_L_87, Nat.le_of_ble_eq_true rfl, _, rfl, rfl⟩) (trivial))))))
set_option maxRecDepth 100000 in
theorem okC8_6 : xall (okC 8) tC8_6 := And.intro (⟨lc_L_88, Nat.le_of_ble_eq_true rfl, _, rfl, rfl⟩) (And.intro (⟨lc_L_92, Nat.le_of_ble_eq_true rfl, _, rfl, rfl⟩) (And.intro (⟨lc_L_93, Nat.le_of_ble_eq_true rfl, _, rfl, rfl⟩) (And.intro (⟨lc_L_96, Nat.le_of_ble_eq_true rfl, _, rfl, rfl⟩) (And.intro (⟨lc_L_97, Nat.le_of_ble_eq_true rfl, _, rfl, rfl⟩) (And.intro (⟨lc_L_100, Nat.le_of_ble_eq_true rfl, _, rfl, rfl⟩) (trivial))))))
set_option maxRecDepth 100000 in
theorem okC8_7 : xall (okC 8) tC8_7 := And.intro (⟨lc_L_101, Nat.le_of_ble_eq_true rfl, _, rfl, rfl⟩) (And.intro (⟨lc_L_104, Nat.le_of_ble_eq_true rfl, _, rfl, rfl⟩) (And.intro (⟨lc_L_105, Nat.le_of_ble_eq_true rfl, _, rfl, rfl⟩) (And.intro (⟨lc_L_108, Nat.le_of_ble_eq_true rfl, _, rfl, rfl⟩) (And.intro (⟨lc_L_109, Nat.le_of_ble_eq_true rfl, _, rfl, rfl⟩) (And.intro (⟨lc_L_113, Nat.le_of_ble_eq_true rfl, _, rfl, rfl⟩) (trivial))))))
set_option maxRecDepth 100000 in
theorem okC8_8 : xall (okC 8) tC8_8 := And.intro (⟨lc_L_114, Nat.le_of_ble_eq_true rfl, _, rfl, rfl⟩) (And.intro (⟨lc_L_117, Nat.le_of_ble_eq_true rfl, _, rfl, rfl⟩) (And.intro (⟨lc_L_118, Nat.le_of_ble_eq_true rfl, _, rfl, rfl⟩) (And.intro (⟨lc_L_121, Nat.le_of_ble_eq_true rfl, _, rfl, rfl⟩) (And.intro (⟨lc_L_122, Nat.le_of_ble_eq_true rfl, _, rfl, rfl⟩) (And.intro (⟨lc_L_126, Nat.le_of_ble_eq_true rfl, _, rfl, rfl⟩) (trivial))))))
set_option maxRecDepth 100000 in
theorem okC8_9 : xall (okC 8) tC8_9 := And.intro (⟨lc_L_127, Nat.le_of_ble_eq_true rfl, _, rfl, rfl⟩) (And.intro (⟨lc_L_130, Nat.le_of_ble_eq_true rfl, _, rfl, rfl⟩) (And.intro (⟨lc_L_131, Nat.le_of_ble_eq_true rfl, _, rfl, rfl⟩) (And.intro (⟨lc_L_135, Nat.le_of_ble_eq_true rfl, _, rfl, rfl⟩) (And.intro (⟨lc_L_136, Nat.le_of_ble_eq_true rfl, _, rfl, rfl⟩) (And.intro (⟨lc_L_139, Nat.le_of_ble_eq_true rfl, _, rfl, rfl⟩) (trivial))))))
theorem okC8 : ∀ k, xall (okC 8) (tC8 k) := by
  intro k
  unfold tC8
  exact xall_bif (fun _ => xall_bif (fun _ => xall_bif (fun _ => xall_bif (fun _ => okC8_9) (okC8_8)) (okC8_7)) (xall_bif (fun _ => okC8_6) (okC8_5))) (xall_bif (fun _ => xall_bif (fun _ => xall_bif (fun _ => okC8_4) (okC8_3)) (okC8_2)) (xall_bif (fun _ => okC8_1) (okC8_0)))
set_option maxRecDepth 100000 in
theorem okC10_0 : xall (okC 10) tC10_0 := And.intro (⟨lc_J0_335, Nat.le_of_ble_eq_true rfl, rfl⟩) (And.intro (⟨lc_J0_492, Nat.le_of_ble_eq_true rfl, rfl⟩) (And.intro (⟨lc_J0_495, Nat.le_of_ble_eq_true rfl⟩) (And.intro (⟨lc_J0_1059, Nat.le_of_ble_eq_true rfl⟩) (trivial))))
theorem okC10 : ∀ k, xall (okC 10) (tC10 k) := by
  intro k
  unfold tC10
  exact okC10_0
set_option maxRecDepth 100000 in
theorem okC11_0 : xall (okC 11) tC11_0 := And.intro (⟨lc_J1_9, Nat.le_of_ble_eq_true rfl⟩) (trivial)
theorem okC11 : ∀ k, xall (okC 11) (tC11 k) := by
  intro k
  unfold tC11
  exact okC11_0
theorem okC_all : ∀ o k, xall (okC o) (tC o k) := by
  intro o k
  unfold tC
  exact xall_bif (fun _ => xall_bif (fun _ => xall_bif (fun _ => xall_bif (fun _ => xall_bif (fun e => xall_at e (okC11 k)) trivial) (xall_bif (fun e => xall_at e (okC10 k)) trivial)) (xall_bif (fun e => xall_at e (okC8 k)) trivial)) (xall_bif (fun _ => xall_bif (fun _ => xall_bif (fun e => xall_at e (okC7 k)) trivial) (xall_bif (fun e => xall_at e (okC6 k)) trivial)) (xall_bif (fun e => xall_at e (okC5 k)) trivial))) (xall_bif (fun _ => xall_bif (fun _ => xall_bif (fun _ => xall_bif (fun e => xall_at e (okC4 k)) trivial) (xall_bif (fun e => xall_at e (okC3 k)) trivial)) (xall_bif (fun e => xall_at e (okC2 k)) trivial)) (xall_bif (fun _ => xall_bif (fun e => xall_at e (okC1 k)) trivial) (xall_bif (fun e => xall_at e (okC0 k)) trivial)))
