theorem xdk_parts {cc : ByteArray} {C : XC} (N : Nat) (h : ∀ j, j < N → xdk cc ((C.drop (40 * j)).take 40) = true) (hl : C.length ≤ 40 * N) : xdk cc C = true := by
  unfold xdk
  rw [List.all_eq_true]
  intro q hq
  obtain ⟨k, hk, rfl⟩ := List.mem_iff_getElem.mp hq
  have h1 := h (k / 40) (by omega)
  unfold xdk at h1
  rw [List.all_eq_true] at h1
  refine h1 _ (List.mem_iff_getElem?.mpr ⟨k % 40, ?_⟩)
  rw [List.getElem?_take, if_pos (by omega), List.getElem?_drop, show 40 * (k / 40) + k % 40 = k by omega]
  exact List.getElem?_eq_getElem hk
set_option maxRecDepth 100000 in
theorem oTX0_init : okT (0, 0, 0, true, kX0_init_0) := ⟨by decide +kernel, rfl, rfl, fun _ => rfl, by decide +kernel⟩
set_option maxRecDepth 100000 in
theorem oTX0_open : okT (1, 0, 0, false, kX0_open_0) := ⟨by decide +kernel, rfl, rfl, fun h => absurd h (by decide), by decide +kernel⟩
set_option maxRecDepth 100000 in
theorem oTX0_run : okT (2, 0, 1, false, kX0_run_0) := ⟨by decide +kernel, rfl, rfl, fun h => absurd h (by decide), by decide +kernel⟩
set_option maxRecDepth 100000 in
theorem oDX0_happens_0 : xdk cX0_happens ((kX0_happens_0.drop 0).take 40) = true := by decide +kernel
set_option maxRecDepth 100000 in
theorem oDX0_happens_1 : xdk cX0_happens ((kX0_happens_0.drop 40).take 40) = true := by decide +kernel
set_option maxRecDepth 100000 in
theorem oTX0_happens : okT (3, 0, 4, false, kX0_happens_0) := ⟨by decide +kernel, rfl, rfl, fun h => absurd h (by decide), xdk_parts 2 (fun j hj => match j, hj with | 0, _ => oDX0_happens_0 | 1, _ => oDX0_happens_1 | j + 2, hj => absurd hj (by omega)) (by decide +kernel)⟩
set_option maxRecDepth 100000 in
theorem oTX0_takesOffice : okT (4, 0, 4, false, kX0_takesOffice_0) := ⟨by decide +kernel, rfl, rfl, fun h => absurd h (by decide), by decide +kernel⟩
set_option maxRecDepth 100000 in
theorem oTX0_isDismissed : okT (5, 0, 4, false, kX0_isDismissed_0) := ⟨by decide +kernel, rfl, rfl, fun h => absurd h (by decide), by decide +kernel⟩
set_option maxRecDepth 100000 in
theorem oTX0_isRecalled : okT (6, 0, 4, false, kX0_isRecalled_0) := ⟨by decide +kernel, rfl, rfl, fun h => absurd h (by decide), by decide +kernel⟩
set_option maxRecDepth 100000 in
theorem oTX0_decide : okT (7, 0, 0, false, kX0_decide_0) := ⟨by decide +kernel, rfl, rfl, fun h => absurd h (by decide), by decide +kernel⟩
set_option maxRecDepth 100000 in
theorem oTX0_bear : okT (8, 0, 0, false, kX0_bear_0) := ⟨by decide +kernel, rfl, rfl, fun h => absurd h (by decide), by decide +kernel⟩
set_option maxRecDepth 100000 in
theorem oTX0_committee : okT (9, 0, 0, false, kX0_committee_0) := ⟨by decide +kernel, rfl, rfl, fun h => absurd h (by decide), by decide +kernel⟩
set_option maxRecDepth 100000 in
theorem oTX0_record : okT (10, 0, 0, false, kX0_record_0) := ⟨by decide +kernel, rfl, rfl, fun h => absurd h (by decide), by decide +kernel⟩
set_option maxRecDepth 100000 in
theorem oTX0_draw : okT (11, 0, 0, false, kX0_draw_0) := ⟨by decide +kernel, rfl, rfl, fun h => absurd h (by decide), by decide +kernel⟩
set_option maxRecDepth 100000 in
theorem oTX0_drawMotion : okT (12, 0, 0, false, kX0_drawMotion_0) := ⟨by decide +kernel, rfl, rfl, fun h => absurd h (by decide), by decide +kernel⟩
set_option maxRecDepth 100000 in
theorem oTX0_oneThere : okT (13, 0, 1, false, kX0_oneThere_0) := ⟨by decide +kernel, rfl, rfl, fun h => absurd h (by decide), by decide +kernel⟩
set_option maxRecDepth 100000 in
theorem oTX0_drawBelow : okT (14, 0, 1, false, kX0_drawBelow_0) := ⟨by decide +kernel, rfl, rfl, fun h => absurd h (by decide), by decide +kernel⟩
set_option maxRecDepth 100000 in
theorem oTX1_init : okT (15, 1, 0, true, kX1_init_0) := ⟨by decide +kernel, rfl, rfl, fun _ => rfl, by decide +kernel⟩
set_option maxRecDepth 100000 in
theorem oTX1_read : okT (16, 1, 0, false, kX1_read_0) := ⟨by decide +kernel, rfl, rfl, fun h => absurd h (by decide), by decide +kernel⟩
set_option maxRecDepth 100000 in
theorem oTX1_startOn : okT (17, 1, 0, false, kX1_startOn_0) := ⟨by decide +kernel, rfl, rfl, fun h => absurd h (by decide), by decide +kernel⟩
set_option maxRecDepth 100000 in
theorem oTX1_note : okT (18, 1, 0, false, kX1_note_0) := ⟨by decide +kernel, rfl, rfl, fun h => absurd h (by decide), by decide +kernel⟩
set_option maxRecDepth 100000 in
theorem oTX1_refuse : okT (19, 1, 4, false, kX1_refuse_0) := ⟨by decide +kernel, rfl, rfl, fun h => absurd h (by decide), by decide +kernel⟩
set_option maxRecDepth 100000 in
theorem oTX1_wordsOf : okT (20, 1, 3, false, kX1_wordsOf_0) := ⟨by decide +kernel, rfl, Or.inl ⟨_, rfl⟩, fun h => absurd h (by decide), by decide +kernel⟩
set_option maxRecDepth 100000 in
theorem oTX1_formsOf : okT (21, 1, 3, false, kX1_formsOf_0) := ⟨by decide +kernel, rfl, Or.inl ⟨_, rfl⟩, fun h => absurd h (by decide), by decide +kernel⟩
set_option maxRecDepth 100000 in
theorem oDX1_readLine_0 : xdk cX1_readLine ((kX1_readLine_0.drop 0).take 40) = true := by decide +kernel
set_option maxRecDepth 100000 in
theorem oDX1_readLine_1 : xdk cX1_readLine ((kX1_readLine_0.drop 40).take 40) = true := by decide +kernel
set_option maxRecDepth 100000 in
theorem oTX1_readLine : okT (22, 1, 4, false, kX1_readLine_0) := ⟨by decide +kernel, rfl, rfl, fun h => absurd h (by decide), xdk_parts 2 (fun j hj => match j, hj with | 0, _ => oDX1_readLine_0 | 1, _ => oDX1_readLine_1 | j + 2, hj => absurd hj (by omega)) (by decide +kernel)⟩
set_option maxRecDepth 100000 in
theorem oTX1_countLine : okT (23, 1, 0, false, kX1_countLine_0) := ⟨by decide +kernel, rfl, rfl, fun h => absurd h (by decide), by decide +kernel⟩
set_option maxRecDepth 100000 in
theorem oDX1_readPart_0 : xdk cX1_readPart ((kX1_readPart_0.drop 0).take 40) = true := by decide +kernel
set_option maxRecDepth 100000 in
theorem oDX1_readPart_1 : xdk cX1_readPart ((kX1_readPart_0.drop 40).take 40) = true := by decide +kernel
set_option maxRecDepth 100000 in
theorem oTX1_readPart : okT (24, 1, 4, false, kX1_readPart_0) := ⟨by decide +kernel, rfl, rfl, fun h => absurd h (by decide), xdk_parts 2 (fun j hj => match j, hj with | 0, _ => oDX1_readPart_0 | 1, _ => oDX1_readPart_1 | j + 2, hj => absurd hj (by omega)) (by decide +kernel)⟩
set_option maxRecDepth 100000 in
theorem oTX1_choicesOf : okT (25, 1, 3, false, kX1_choicesOf_0) := ⟨by decide +kernel, rfl, Or.inl ⟨_, rfl⟩, fun h => absurd h (by decide), by decide +kernel⟩
set_option maxRecDepth 100000 in
theorem oTX1_readSemicolon : okT (26, 1, 4, false, kX1_readSemicolon_0) := ⟨by decide +kernel, rfl, rfl, fun h => absurd h (by decide), by decide +kernel⟩
set_option maxRecDepth 100000 in
theorem oDX1_readNumber_0 : xdk cX1_readNumber ((kX1_readNumber_0.drop 0).take 40) = true := by decide +kernel
set_option maxRecDepth 100000 in
theorem oDX1_readNumber_1 : xdk cX1_readNumber ((kX1_readNumber_0.drop 40).take 40) = true := by decide +kernel
set_option maxRecDepth 100000 in
theorem oTX1_readNumber : okT (27, 1, 4, false, kX1_readNumber_0) := ⟨by decide +kernel, rfl, rfl, fun h => absurd h (by decide), xdk_parts 2 (fun j hj => match j, hj with | 0, _ => oDX1_readNumber_0 | 1, _ => oDX1_readNumber_1 | j + 2, hj => absurd hj (by omega)) (by decide +kernel)⟩
set_option maxRecDepth 100000 in
theorem oTX1_leastOf : okT (28, 1, 1, false, kX1_leastOf_0) := ⟨by decide +kernel, rfl, rfl, fun h => absurd h (by decide), by decide +kernel⟩
set_option maxRecDepth 100000 in
theorem oTX1_mostOf : okT (29, 1, 1, false, kX1_mostOf_0) := ⟨by decide +kernel, rfl, rfl, fun h => absurd h (by decide), by decide +kernel⟩
set_option maxRecDepth 100000 in
theorem oDX1_take_0 : xdk cX1_take ((kX1_take_0.drop 0).take 40) = true := by decide +kernel
set_option maxRecDepth 100000 in
theorem oDX1_take_1 : xdk cX1_take ((kX1_take_0.drop 40).take 40) = true := by decide +kernel
set_option maxRecDepth 100000 in
theorem oTX1_take : okT (30, 1, 0, false, kX1_take_0) := ⟨by decide +kernel, rfl, rfl, fun h => absurd h (by decide), xdk_parts 2 (fun j hj => match j, hj with | 0, _ => oDX1_take_0 | 1, _ => oDX1_take_1 | j + 2, hj => absurd hj (by omega)) (by decide +kernel)⟩
set_option maxRecDepth 100000 in
theorem oDX1_takeToldOf_0 : xdk cX1_takeToldOf ((kX1_takeToldOf_0.drop 0).take 40) = true := by decide +kernel
set_option maxRecDepth 100000 in
theorem oDX1_takeToldOf_1 : xdk cX1_takeToldOf ((kX1_takeToldOf_0.drop 40).take 40) = true := by decide +kernel
set_option maxRecDepth 100000 in
theorem oTX1_takeToldOf : okT (31, 1, 0, false, kX1_takeToldOf_0) := ⟨by decide +kernel, rfl, rfl, fun h => absurd h (by decide), xdk_parts 2 (fun j hj => match j, hj with | 0, _ => oDX1_takeToldOf_0 | 1, _ => oDX1_takeToldOf_1 | j + 2, hj => absurd hj (by omega)) (by decide +kernel)⟩
set_option maxRecDepth 100000 in
theorem oTX1_takeOrder : okT (32, 1, 0, false, kX1_takeOrder_0) := ⟨by decide +kernel, rfl, rfl, fun h => absurd h (by decide), by decide +kernel⟩
set_option maxRecDepth 100000 in
theorem oTX1_chosen : okT (33, 1, 1, false, kX1_chosen_0) := ⟨by decide +kernel, rfl, rfl, fun h => absurd h (by decide), by decide +kernel⟩
set_option maxRecDepth 100000 in
theorem oTX1_isToken : okT (34, 1, 4, false, kX1_isToken_0) := ⟨by decide +kernel, rfl, rfl, fun h => absurd h (by decide), by decide +kernel⟩
set_option maxRecDepth 100000 in
theorem oTX1_startOf : okT (35, 1, 1, false, kX1_startOf_0) := ⟨by decide +kernel, rfl, rfl, fun h => absurd h (by decide), by decide +kernel⟩
set_option maxRecDepth 100000 in
theorem oDX1_advance_0 : xdk cX1_advance ((kX1_advance_0.drop 0).take 40) = true := by decide +kernel
set_option maxRecDepth 100000 in
theorem oDX1_advance_1 : xdk cX1_advance ((kX1_advance_0.drop 40).take 40) = true := by decide +kernel
set_option maxRecDepth 100000 in
theorem oDX1_advance_2 : xdk cX1_advance ((kX1_advance_0.drop 80).take 40) = true := by decide +kernel
set_option maxRecDepth 100000 in
theorem oDX1_advance_3 : xdk cX1_advance ((kX1_advance_0.drop 120).take 40) = true := by decide +kernel
set_option maxRecDepth 100000 in
theorem oTX1_advance : okT (36, 1, 0, false, kX1_advance_0) := ⟨by decide +kernel, rfl, rfl, fun h => absurd h (by decide), xdk_parts 4 (fun j hj => match j, hj with | 0, _ => oDX1_advance_0 | 1, _ => oDX1_advance_1 | 2, _ => oDX1_advance_2 | 3, _ => oDX1_advance_3 | j + 4, hj => absurd hj (by omega)) (by decide +kernel)⟩
set_option maxRecDepth 100000 in
theorem oTX1_isBlank : okT (37, 1, 4, false, kX1_isBlank_0) := ⟨by decide +kernel, rfl, rfl, fun h => absurd h (by decide), by decide +kernel⟩
set_option maxRecDepth 100000 in
theorem oTX1_isLetter : okT (38, 1, 4, false, kX1_isLetter_0) := ⟨by decide +kernel, rfl, rfl, fun h => absurd h (by decide), by decide +kernel⟩
set_option maxRecDepth 100000 in
theorem oTX1_isDigit : okT (39, 1, 4, false, kX1_isDigit_0) := ⟨by decide +kernel, rfl, rfl, fun h => absurd h (by decide), by decide +kernel⟩
set_option maxRecDepth 100000 in
theorem oTX2_init : okT (40, 2, 0, true, kX2_init_0) := ⟨by decide +kernel, rfl, rfl, fun _ => rfl, by decide +kernel⟩
set_option maxRecDepth 100000 in
theorem oTX2_clear : okT (41, 2, 0, false, kX2_clear_0) := ⟨by decide +kernel, rfl, rfl, fun h => absurd h (by decide), by decide +kernel⟩
set_option maxRecDepth 100000 in
theorem oDX2_copyRepublic_0 : xdk cX2_copyRepublic ((kX2_copyRepublic_0.drop 0).take 40) = true := by decide +kernel
set_option maxRecDepth 100000 in
theorem oDX2_copyRepublic_1 : xdk cX2_copyRepublic ((kX2_copyRepublic_0.drop 40).take 40) = true := by decide +kernel
set_option maxRecDepth 100000 in
theorem oTX2_copyRepublic : okT (42, 2, 0, false, kX2_copyRepublic_0) := ⟨by decide +kernel, rfl, rfl, fun h => absurd h (by decide), xdk_parts 2 (fun j hj => match j, hj with | 0, _ => oDX2_copyRepublic_0 | 1, _ => oDX2_copyRepublic_1 | j + 2, hj => absurd hj (by omega)) (by decide +kernel)⟩
set_option maxRecDepth 100000 in
theorem oDX2_takeLine_0 : xdk cX2_takeLine ((kX2_takeLine_0.drop 0).take 40) = true := by decide +kernel
set_option maxRecDepth 100000 in
theorem oDX2_takeLine_1 : xdk cX2_takeLine ((kX2_takeLine_0.drop 40).take 40) = true := by decide +kernel
set_option maxRecDepth 100000 in
theorem oDX2_takeLine_2 : xdk cX2_takeLine ((kX2_takeLine_0.drop 80).take 40) = true := by decide +kernel
set_option maxRecDepth 100000 in
theorem oTX2_takeLine : okT (43, 2, 0, false, kX2_takeLine_0) := ⟨by decide +kernel, rfl, rfl, fun h => absurd h (by decide), xdk_parts 3 (fun j hj => match j, hj with | 0, _ => oDX2_takeLine_0 | 1, _ => oDX2_takeLine_1 | 2, _ => oDX2_takeLine_2 | j + 3, hj => absurd hj (by omega)) (by decide +kernel)⟩
set_option maxRecDepth 100000 in
theorem oTX2_addMinister : okT (44, 2, 0, false, kX2_addMinister_0) := ⟨by decide +kernel, rfl, rfl, fun h => absurd h (by decide), by decide +kernel⟩
set_option maxRecDepth 100000 in
theorem oTX2_setNumber : okT (45, 2, 0, false, kX2_setNumber_0) := ⟨by decide +kernel, rfl, rfl, fun h => absurd h (by decide), by decide +kernel⟩
set_option maxRecDepth 100000 in
theorem oTX2_isMinister : okT (46, 2, 4, false, kX2_isMinister_0) := ⟨by decide +kernel, rfl, rfl, fun h => absurd h (by decide), by decide +kernel⟩
set_option maxRecDepth 100000 in
theorem oTX2_everybody : okT (47, 2, 1, false, kX2_everybody_0) := ⟨by decide +kernel, rfl, rfl, fun h => absurd h (by decide), by decide +kernel⟩
set_option maxRecDepth 100000 in
theorem oTX2_want : okT (48, 2, 1, false, kX2_want_0) := ⟨by decide +kernel, rfl, rfl, fun h => absurd h (by decide), by decide +kernel⟩
set_option maxRecDepth 100000 in
theorem oTX2_distance : okT (49, 2, 1, false, kX2_distance_0) := ⟨by decide +kernel, rfl, rfl, fun h => absurd h (by decide), by decide +kernel⟩
set_option maxRecDepth 100000 in
theorem oTX2_patience : okT (50, 2, 1, false, kX2_patience_0) := ⟨by decide +kernel, rfl, rfl, fun h => absurd h (by decide), by decide +kernel⟩
set_option maxRecDepth 100000 in
theorem oTX2_agreeing : okT (51, 2, 1, false, kX2_agreeing_0) := ⟨by decide +kernel, rfl, rfl, fun h => absurd h (by decide), by decide +kernel⟩
set_option maxRecDepth 100000 in
theorem oTX2_votesOf : okT (52, 2, 1, false, kX2_votesOf_0) := ⟨by decide +kernel, rfl, rfl, fun h => absurd h (by decide), by decide +kernel⟩
set_option maxRecDepth 100000 in
theorem oTX2_isPassed : okT (53, 2, 4, false, kX2_isPassed_0) := ⟨by decide +kernel, rfl, rfl, fun h => absurd h (by decide), by decide +kernel⟩
set_option maxRecDepth 100000 in
theorem oTX2_areSeats : okT (54, 2, 4, false, kX2_areSeats_0) := ⟨by decide +kernel, rfl, rfl, fun h => absurd h (by decide), by decide +kernel⟩
set_option maxRecDepth 100000 in
theorem oTX2_proposal : okT (55, 2, 1, false, kX2_proposal_0) := ⟨by decide +kernel, rfl, rfl, fun h => absurd h (by decide), by decide +kernel⟩
set_option maxRecDepth 100000 in
theorem oTX3_init : okT (56, 3, 0, true, kX3_init_0) := ⟨by decide +kernel, rfl, rfl, fun _ => rfl, by decide +kernel⟩
set_option maxRecDepth 100000 in
theorem oTX3_clear : okT (57, 3, 0, false, kX3_clear_0) := ⟨by decide +kernel, rfl, rfl, fun h => absurd h (by decide), by decide +kernel⟩
set_option maxRecDepth 100000 in
theorem oTX3_copyRows : okT (58, 3, 0, false, kX3_copyRows_0) := ⟨by decide +kernel, rfl, rfl, fun h => absurd h (by decide), by decide +kernel⟩
set_option maxRecDepth 100000 in
theorem oTX3_part : okT (59, 3, 1, false, kX3_part_0) := ⟨by decide +kernel, rfl, rfl, fun h => absurd h (by decide), by decide +kernel⟩
set_option maxRecDepth 100000 in
theorem oTX3_set : okT (60, 3, 0, false, kX3_set_0) := ⟨by decide +kernel, rfl, rfl, fun h => absurd h (by decide), by decide +kernel⟩
set_option maxRecDepth 100000 in
theorem oTX3_dayFrom : okT (61, 3, 1, false, kX3_dayFrom_0) := ⟨by decide +kernel, rfl, rfl, fun h => absurd h (by decide), by decide +kernel⟩
set_option maxRecDepth 100000 in
theorem oTX3_add : okT (62, 3, 0, false, kX3_add_0) := ⟨by decide +kernel, rfl, rfl, fun h => absurd h (by decide), by decide +kernel⟩
set_option maxRecDepth 100000 in
theorem oTX4_init : okT (63, 4, 0, true, kX4_init_0) := ⟨by decide +kernel, rfl, rfl, fun _ => rfl, by decide +kernel⟩
set_option maxRecDepth 100000 in
theorem oTX4_settle : okT (64, 4, 0, false, kX4_settle_0) := ⟨by decide +kernel, rfl, rfl, fun h => absurd h (by decide), by decide +kernel⟩
set_option maxRecDepth 100000 in
theorem oTX4_can : okT (65, 4, 4, false, kX4_can_0) := ⟨by decide +kernel, rfl, rfl, fun h => absurd h (by decide), by decide +kernel⟩
set_option maxRecDepth 100000 in
theorem oTX4_bring : okT (66, 4, 0, false, kX4_bring_0) := ⟨by decide +kernel, rfl, rfl, fun h => absurd h (by decide), by decide +kernel⟩
set_option maxRecDepth 100000 in
theorem oDX5_init_0 : xdk cX5_init ((kX5_init_0.drop 0).take 40) = true := by decide +kernel
set_option maxRecDepth 100000 in
theorem oDX5_init_1 : xdk cX5_init ((kX5_init_0.drop 40).take 40) = true := by decide +kernel
set_option maxRecDepth 100000 in
theorem oTX5_init : okT (67, 5, 0, true, kX5_init_0) := ⟨by decide +kernel, rfl, rfl, fun _ => rfl, xdk_parts 2 (fun j hj => match j, hj with | 0, _ => oDX5_init_0 | 1, _ => oDX5_init_1 | j + 2, hj => absurd hj (by omega)) (by decide +kernel)⟩
set_option maxRecDepth 100000 in
theorem oTX5_republicKept : okT (68, 5, 3, false, kX5_republicKept_0) := ⟨by decide +kernel, rfl, Or.inl ⟨_, rfl⟩, fun h => absurd h (by decide), by decide +kernel⟩
set_option maxRecDepth 100000 in
theorem oTX5_rowsKept : okT (69, 5, 3, false, kX5_rowsKept_0) := ⟨by decide +kernel, rfl, Or.inl ⟨_, rfl⟩, fun h => absurd h (by decide), by decide +kernel⟩
set_option maxRecDepth 100000 in
theorem oDX5_copyTold_0 : xdk cX5_copyTold ((kX5_copyTold_0.drop 0).take 40) = true := by decide +kernel
set_option maxRecDepth 100000 in
theorem oDX5_copyTold_1 : xdk cX5_copyTold ((kX5_copyTold_0.drop 40).take 40) = true := by decide +kernel
set_option maxRecDepth 100000 in
theorem oDX5_copyTold_2 : xdk cX5_copyTold ((kX5_copyTold_0.drop 80).take 40) = true := by decide +kernel
set_option maxRecDepth 100000 in
theorem oTX5_copyTold : okT (70, 5, 0, false, kX5_copyTold_0) := ⟨by decide +kernel, rfl, rfl, fun h => absurd h (by decide), xdk_parts 3 (fun j hj => match j, hj with | 0, _ => oDX5_copyTold_0 | 1, _ => oDX5_copyTold_1 | 2, _ => oDX5_copyTold_2 | j + 3, hj => absurd hj (by omega)) (by decide +kernel)⟩
set_option maxRecDepth 100000 in
theorem oTX6_init : okT (71, 6, 0, true, kX6_init_0) := ⟨by decide +kernel, rfl, rfl, fun _ => rfl, by decide +kernel⟩
set_option maxRecDepth 100000 in
theorem oTX6_feed : okT (72, 6, 1, false, kX6_feed_0) := ⟨by decide +kernel, rfl, rfl, fun h => absurd h (by decide), by decide +kernel⟩
set_option maxRecDepth 100000 in
theorem oTX6_feedNumber : okT (73, 6, 0, false, kX6_feedNumber_0) := ⟨by decide +kernel, rfl, rfl, fun h => absurd h (by decide), by decide +kernel⟩
set_option maxRecDepth 100000 in
theorem oTX6_end : okT (74, 6, 1, false, kX6_end_0) := ⟨by decide +kernel, rfl, rfl, fun h => absurd h (by decide), by decide +kernel⟩
set_option maxRecDepth 100000 in
theorem oDX6_text_0 : xdk cX6_text ((kX6_text_0.drop 0).take 40) = true := by decide +kernel
set_option maxRecDepth 100000 in
theorem oDX6_text_1 : xdk cX6_text ((kX6_text_0.drop 40).take 40) = true := by decide +kernel
set_option maxRecDepth 100000 in
theorem oTX6_text : okT (75, 6, 1, false, kX6_text_0) := ⟨by decide +kernel, rfl, rfl, fun h => absurd h (by decide), xdk_parts 2 (fun j hj => match j, hj with | 0, _ => oDX6_text_0 | 1, _ => oDX6_text_1 | j + 2, hj => absurd hj (by omega)) (by decide +kernel)⟩
set_option maxRecDepth 100000 in
theorem oTX6_placeFor : okT (76, 6, 1, false, kX6_placeFor_0) := ⟨by decide +kernel, rfl, rfl, fun h => absurd h (by decide), by decide +kernel⟩
set_option maxRecDepth 100000 in
theorem oTX6_keep : okT (77, 6, 0, false, kX6_keep_0) := ⟨by decide +kernel, rfl, rfl, fun h => absurd h (by decide), by decide +kernel⟩
set_option maxRecDepth 100000 in
theorem oTX6_fault : okT (78, 6, 1, false, kX6_fault_0) := ⟨by decide +kernel, rfl, rfl, fun h => absurd h (by decide), by decide +kernel⟩
set_option maxRecDepth 100000 in
theorem oTX6_count : okT (79, 6, 1, false, kX6_count_0) := ⟨by decide +kernel, rfl, rfl, fun h => absurd h (by decide), by decide +kernel⟩
set_option maxRecDepth 100000 in
theorem oTX6_image : okT (80, 6, 4, false, kX6_image_0) := ⟨by decide +kernel, rfl, rfl, fun h => absurd h (by decide), by decide +kernel⟩
set_option maxRecDepth 100000 in
theorem oTX6_again : okT (81, 6, 4, false, kX6_again_0) := ⟨by decide +kernel, rfl, rfl, fun h => absurd h (by decide), by decide +kernel⟩
set_option maxRecDepth 100000 in
theorem oTX6_republicAt : okT (82, 6, 3, false, kX6_republicAt_0) := ⟨by decide +kernel, rfl, Or.inl ⟨_, rfl⟩, fun h => absurd h (by decide), by decide +kernel⟩
set_option maxRecDepth 100000 in
theorem oTX6_rowsAt : okT (83, 6, 3, false, kX6_rowsAt_0) := ⟨by decide +kernel, rfl, Or.inl ⟨_, rfl⟩, fun h => absurd h (by decide), by decide +kernel⟩
set_option maxRecDepth 100000 in
theorem oTX6_republic : okT (84, 6, 1, false, kX6_republic_0) := ⟨by decide +kernel, rfl, rfl, fun h => absurd h (by decide), by decide +kernel⟩
set_option maxRecDepth 100000 in
theorem oDX6_minister_0 : xdk cX6_minister ((kX6_minister_0.drop 0).take 40) = true := by decide +kernel
set_option maxRecDepth 100000 in
theorem oDX6_minister_1 : xdk cX6_minister ((kX6_minister_0.drop 40).take 40) = true := by decide +kernel
set_option maxRecDepth 100000 in
theorem oTX6_minister : okT (85, 6, 1, false, kX6_minister_0) := ⟨by decide +kernel, rfl, rfl, fun h => absurd h (by decide), xdk_parts 2 (fun j hj => match j, hj with | 0, _ => oDX6_minister_0 | 1, _ => oDX6_minister_1 | j + 2, hj => absurd hj (by omega)) (by decide +kernel)⟩
set_option maxRecDepth 100000 in
theorem oTX6_order : okT (86, 6, 1, false, kX6_order_0) := ⟨by decide +kernel, rfl, rfl, fun h => absurd h (by decide), by decide +kernel⟩
set_option maxRecDepth 100000 in
theorem oTX6_deed : okT (87, 6, 1, false, kX6_deed_0) := ⟨by decide +kernel, rfl, rfl, fun h => absurd h (by decide), by decide +kernel⟩
set_option maxRecDepth 100000 in
theorem oTX6_leak : okT (88, 6, 1, false, kX6_leak_0) := ⟨by decide +kernel, rfl, rfl, fun h => absurd h (by decide), by decide +kernel⟩
set_option maxRecDepth 100000 in
theorem oTX6_was : okT (89, 6, 1, false, kX6_was_0) := ⟨by decide +kernel, rfl, rfl, fun h => absurd h (by decide), by decide +kernel⟩
set_option maxRecDepth 100000 in
theorem oTX6_rowTold : okT (90, 6, 1, false, kX6_rowTold_0) := ⟨by decide +kernel, rfl, rfl, fun h => absurd h (by decide), by decide +kernel⟩
set_option maxRecDepth 100000 in
theorem oTX6_movedIn : okT (91, 6, 3, false, kX6_movedIn_0) := ⟨by decide +kernel, rfl, Or.inl ⟨_, rfl⟩, fun h => absurd h (by decide), by decide +kernel⟩
set_option maxRecDepth 100000 in
theorem oTX6_off : okT (92, 6, 1, false, kX6_off_0) := ⟨by decide +kernel, rfl, rfl, fun h => absurd h (by decide), by decide +kernel⟩
set_option maxRecDepth 100000 in
theorem oTX6_vote : okT (93, 6, 1, false, kX6_vote_0) := ⟨by decide +kernel, rfl, rfl, fun h => absurd h (by decide), by decide +kernel⟩
set_option maxRecDepth 100000 in
theorem oTX6_broken : okT (94, 6, 1, false, kX6_broken_0) := ⟨by decide +kernel, rfl, rfl, fun h => absurd h (by decide), by decide +kernel⟩
set_option maxRecDepth 100000 in
theorem oTX6_firstBroken : okT (95, 6, 1, false, kX6_firstBroken_0) := ⟨by decide +kernel, rfl, rfl, fun h => absurd h (by decide), by decide +kernel⟩
set_option maxRecDepth 100000 in
theorem oDX6_isBroken_0 : xdk cX6_isBroken ((kX6_isBroken_0.drop 0).take 40) = true := by decide +kernel
set_option maxRecDepth 100000 in
theorem oDX6_isBroken_1 : xdk cX6_isBroken ((kX6_isBroken_0.drop 40).take 40) = true := by decide +kernel
set_option maxRecDepth 100000 in
theorem oDX6_isBroken_2 : xdk cX6_isBroken ((kX6_isBroken_0.drop 80).take 40) = true := by decide +kernel
set_option maxRecDepth 100000 in
theorem oTX6_isBroken : okT (96, 6, 4, false, kX6_isBroken_0) := ⟨by decide +kernel, rfl, rfl, fun h => absurd h (by decide), xdk_parts 3 (fun j hj => match j, hj with | 0, _ => oDX6_isBroken_0 | 1, _ => oDX6_isBroken_1 | 2, _ => oDX6_isBroken_2 | j + 3, hj => absurd hj (by omega)) (by decide +kernel)⟩
set_option maxRecDepth 100000 in
theorem oTX6_stop : okT (97, 6, 1, false, kX6_stop_0) := ⟨by decide +kernel, rfl, rfl, fun h => absurd h (by decide), by decide +kernel⟩
set_option maxRecDepth 100000 in
theorem oTX6_state : okT (98, 6, 1, false, kX6_state_0) := ⟨by decide +kernel, rfl, rfl, fun h => absurd h (by decide), by decide +kernel⟩
set_option maxRecDepth 100000 in
theorem oDX6_stateTold_0 : xdk cX6_stateTold ((kX6_stateTold_0.drop 0).take 40) = true := by decide +kernel
set_option maxRecDepth 100000 in
theorem oDX6_stateTold_1 : xdk cX6_stateTold ((kX6_stateTold_0.drop 40).take 40) = true := by decide +kernel
set_option maxRecDepth 100000 in
theorem oTX6_stateTold : okT (99, 6, 1, false, kX6_stateTold_0) := ⟨by decide +kernel, rfl, rfl, fun h => absurd h (by decide), xdk_parts 2 (fun j hj => match j, hj with | 0, _ => oDX6_stateTold_0 | 1, _ => oDX6_stateTold_1 | j + 2, hj => absurd hj (by omega)) (by decide +kernel)⟩
set_option maxRecDepth 100000 in
theorem oDX6_drawn_0 : xdk cX6_drawn ((kX6_drawn_0.drop 0).take 40) = true := by decide +kernel
set_option maxRecDepth 100000 in
theorem oDX6_drawn_1 : xdk cX6_drawn ((kX6_drawn_0.drop 40).take 40) = true := by decide +kernel
set_option maxRecDepth 100000 in
theorem oTX6_drawn : okT (100, 6, 1, false, kX6_drawn_0) := ⟨by decide +kernel, rfl, rfl, fun h => absurd h (by decide), xdk_parts 2 (fun j hj => match j, hj with | 0, _ => oDX6_drawn_0 | 1, _ => oDX6_drawn_1 | j + 2, hj => absurd hj (by omega)) (by decide +kernel)⟩
set_option maxRecDepth 100000 in
theorem oDX6_agreed_0 : xdk cX6_agreed ((kX6_agreed_0.drop 0).take 40) = true := by decide +kernel
set_option maxRecDepth 100000 in
theorem oDX6_agreed_1 : xdk cX6_agreed ((kX6_agreed_0.drop 40).take 40) = true := by decide +kernel
set_option maxRecDepth 100000 in
theorem oTX6_agreed : okT (101, 6, 1, false, kX6_agreed_0) := ⟨by decide +kernel, rfl, rfl, fun h => absurd h (by decide), xdk_parts 2 (fun j hj => match j, hj with | 0, _ => oDX6_agreed_0 | 1, _ => oDX6_agreed_1 | j + 2, hj => absurd hj (by omega)) (by decide +kernel)⟩
set_option maxRecDepth 100000 in
theorem oTX6_isAgreed : okT (102, 6, 4, false, kX6_isAgreed_0) := ⟨by decide +kernel, rfl, rfl, fun h => absurd h (by decide), by decide +kernel⟩
set_option maxRecDepth 100000 in
theorem oTX6_manyAgreed : okT (103, 6, 1, false, kX6_manyAgreed_0) := ⟨by decide +kernel, rfl, rfl, fun h => absurd h (by decide), by decide +kernel⟩
set_option maxRecDepth 100000 in
theorem oTX6_bestAgreed : okT (104, 6, 1, false, kX6_bestAgreed_0) := ⟨by decide +kernel, rfl, rfl, fun h => absurd h (by decide), by decide +kernel⟩
set_option maxRecDepth 100000 in
theorem oTX6_rank : okT (105, 6, 1, false, kX6_rank_0) := ⟨by decide +kernel, rfl, rfl, fun h => absurd h (by decide), by decide +kernel⟩
set_option maxRecDepth 100000 in
theorem oTX6_power : okT (106, 6, 1, false, kX6_power_0) := ⟨by decide +kernel, rfl, rfl, fun h => absurd h (by decide), by decide +kernel⟩
set_option maxRecDepth 100000 in
theorem oDX6_rowsDecided_0 : xdk cX6_rowsDecided ((kX6_rowsDecided_0.drop 0).take 40) = true := by decide +kernel
set_option maxRecDepth 100000 in
theorem oDX6_rowsDecided_1 : xdk cX6_rowsDecided ((kX6_rowsDecided_0.drop 40).take 40) = true := by decide +kernel
set_option maxRecDepth 100000 in
theorem oTX6_rowsDecided : okT (107, 6, 1, false, kX6_rowsDecided_0) := ⟨by decide +kernel, rfl, rfl, fun h => absurd h (by decide), xdk_parts 2 (fun j hj => match j, hj with | 0, _ => oDX6_rowsDecided_0 | 1, _ => oDX6_rowsDecided_1 | j + 2, hj => absurd hj (by omega)) (by decide +kernel)⟩
set_option maxRecDepth 100000 in
theorem oTX6_coalition : okT (108, 6, 1, false, kX6_coalition_0) := ⟨by decide +kernel, rfl, rfl, fun h => absurd h (by decide), by decide +kernel⟩
set_option maxRecDepth 100000 in
theorem oTX6_keyMinisters : okT (109, 6, 1, false, kX6_keyMinisters_0) := ⟨by decide +kernel, rfl, rfl, fun h => absurd h (by decide), by decide +kernel⟩
set_option maxRecDepth 100000 in
theorem oTX6_leastCoalition : okT (110, 6, 1, false, kX6_leastCoalition_0) := ⟨by decide +kernel, rfl, rfl, fun h => absurd h (by decide), by decide +kernel⟩
set_option maxRecDepth 100000 in
theorem oTX6_isLeastCoalition : okT (111, 6, 4, false, kX6_isLeastCoalition_0) := ⟨by decide +kernel, rfl, rfl, fun h => absurd h (by decide), by decide +kernel⟩
set_option maxRecDepth 100000 in
theorem oDX6_bribe_0 : xdk cX6_bribe ((kX6_bribe_0.drop 0).take 40) = true := by decide +kernel
set_option maxRecDepth 100000 in
theorem oDX6_bribe_1 : xdk cX6_bribe ((kX6_bribe_0.drop 40).take 40) = true := by decide +kernel
set_option maxRecDepth 100000 in
theorem oTX6_bribe : okT (112, 6, 1, false, kX6_bribe_0) := ⟨by decide +kernel, rfl, rfl, fun h => absurd h (by decide), xdk_parts 2 (fun j hj => match j, hj with | 0, _ => oDX6_bribe_0 | 1, _ => oDX6_bribe_1 | j + 2, hj => absurd hj (by omega)) (by decide +kernel)⟩
set_option maxRecDepth 100000 in
theorem oTX6_bribeOf : okT (113, 6, 1, false, kX6_bribeOf_0) := ⟨by decide +kernel, rfl, rfl, fun h => absurd h (by decide), by decide +kernel⟩
set_option maxRecDepth 100000 in
theorem oDX6_lobby_0 : xdk cX6_lobby ((kX6_lobby_0.drop 0).take 40) = true := by decide +kernel
set_option maxRecDepth 100000 in
theorem oDX6_lobby_1 : xdk cX6_lobby ((kX6_lobby_0.drop 40).take 40) = true := by decide +kernel
set_option maxRecDepth 100000 in
theorem oTX6_lobby : okT (114, 6, 1, false, kX6_lobby_0) := ⟨by decide +kernel, rfl, rfl, fun h => absurd h (by decide), xdk_parts 2 (fun j hj => match j, hj with | 0, _ => oDX6_lobby_0 | 1, _ => oDX6_lobby_1 | j + 2, hj => absurd hj (by omega)) (by decide +kernel)⟩
set_option maxRecDepth 100000 in
theorem oTX6_isRest : okT (115, 6, 4, false, kX6_isRest_0) := ⟨by decide +kernel, rfl, rfl, fun h => absurd h (by decide), by decide +kernel⟩
set_option maxRecDepth 100000 in
theorem oTX6_gain : okT (116, 6, 1, false, kX6_gain_0) := ⟨by decide +kernel, rfl, rfl, fun h => absurd h (by decide), by decide +kernel⟩
set_option maxRecDepth 100000 in
theorem oTX6_boughtBy : okT (117, 6, 1, false, kX6_boughtBy_0) := ⟨by decide +kernel, rfl, rfl, fun h => absurd h (by decide), by decide +kernel⟩
set_option maxRecDepth 100000 in
theorem oTX6_bargain : okT (118, 6, 1, false, kX6_bargain_0) := ⟨by decide +kernel, rfl, rfl, fun h => absurd h (by decide), by decide +kernel⟩
set_option maxRecDepth 100000 in
theorem oTX6_leavers : okT (119, 6, 1, false, kX6_leavers_0) := ⟨by decide +kernel, rfl, rfl, fun h => absurd h (by decide), by decide +kernel⟩
set_option maxRecDepth 100000 in
theorem oTX6_sharesOf : okT (120, 6, 1, false, kX6_sharesOf_0) := ⟨by decide +kernel, rfl, rfl, fun h => absurd h (by decide), by decide +kernel⟩
set_option maxRecDepth 100000 in
theorem oDX6_nature_0 : xdk cX6_nature ((kX6_nature_0.drop 0).take 40) = true := by decide +kernel
set_option maxRecDepth 100000 in
theorem oDX6_nature_1 : xdk cX6_nature ((kX6_nature_0.drop 40).take 40) = true := by decide +kernel
set_option maxRecDepth 100000 in
theorem oTX6_nature : okT (121, 6, 1, false, kX6_nature_0) := ⟨by decide +kernel, rfl, rfl, fun h => absurd h (by decide), xdk_parts 2 (fun j hj => match j, hj with | 0, _ => oDX6_nature_0 | 1, _ => oDX6_nature_1 | j + 2, hj => absurd hj (by omega)) (by decide +kernel)⟩
set_option maxRecDepth 100000 in
theorem oTX6_firstWrong : okT (122, 6, 1, false, kX6_firstWrong_0) := ⟨by decide +kernel, rfl, rfl, fun h => absurd h (by decide), by decide +kernel⟩
set_option maxRecDepth 100000 in
theorem oDX6_mend_0 : xdk cX6_mend ((kX6_mend_0.drop 0).take 40) = true := by decide +kernel
set_option maxRecDepth 100000 in
theorem oDX6_mend_1 : xdk cX6_mend ((kX6_mend_0.drop 40).take 40) = true := by decide +kernel
set_option maxRecDepth 100000 in
theorem oTX6_mend : okT (123, 6, 1, false, kX6_mend_0) := ⟨by decide +kernel, rfl, rfl, fun h => absurd h (by decide), xdk_parts 2 (fun j hj => match j, hj with | 0, _ => oDX6_mend_0 | 1, _ => oDX6_mend_1 | j + 2, hj => absurd hj (by omega)) (by decide +kernel)⟩
set_option maxRecDepth 100000 in
theorem oDX6_seats_0 : xdk cX6_seats ((kX6_seats_0.drop 0).take 40) = true := by decide +kernel
set_option maxRecDepth 100000 in
theorem oDX6_seats_1 : xdk cX6_seats ((kX6_seats_0.drop 40).take 40) = true := by decide +kernel
set_option maxRecDepth 100000 in
theorem oTX6_seats : okT (124, 6, 1, false, kX6_seats_0) := ⟨by decide +kernel, rfl, rfl, fun h => absurd h (by decide), xdk_parts 2 (fun j hj => match j, hj with | 0, _ => oDX6_seats_0 | 1, _ => oDX6_seats_1 | j + 2, hj => absurd hj (by omega)) (by decide +kernel)⟩
set_option maxRecDepth 100000 in
theorem oTX6_findFitting : okT (125, 6, 1, false, kX6_findFitting_0) := ⟨by decide +kernel, rfl, rfl, fun h => absurd h (by decide), by decide +kernel⟩
set_option maxRecDepth 100000 in
theorem oTX6_isFit : okT (126, 6, 4, false, kX6_isFit_0) := ⟨by decide +kernel, rfl, rfl, fun h => absurd h (by decide), by decide +kernel⟩
set_option maxRecDepth 100000 in
theorem oTX6_tellingSeason : okT (127, 6, 1, false, kX6_tellingSeason_0) := ⟨by decide +kernel, rfl, rfl, fun h => absurd h (by decide), by decide +kernel⟩
set_option maxRecDepth 100000 in
theorem oTX6_unlikeProposals : okT (128, 6, 1, false, kX6_unlikeProposals_0) := ⟨by decide +kernel, rfl, rfl, fun h => absurd h (by decide), by decide +kernel⟩
set_option maxRecDepth 100000 in
theorem oTX6_reshuffle : okT (129, 6, 1, false, kX6_reshuffle_0) := ⟨by decide +kernel, rfl, rfl, fun h => absurd h (by decide), by decide +kernel⟩
set_option maxRecDepth 100000 in
theorem oTX6_wetSeasons : okT (130, 6, 1, false, kX6_wetSeasons_0) := ⟨by decide +kernel, rfl, rfl, fun h => absurd h (by decide), by decide +kernel⟩
set_option maxRecDepth 100000 in
theorem oDX6_fits_0 : xdk cX6_fits ((kX6_fits_0.drop 0).take 40) = true := by decide +kernel
set_option maxRecDepth 100000 in
theorem oDX6_fits_1 : xdk cX6_fits ((kX6_fits_0.drop 40).take 40) = true := by decide +kernel
set_option maxRecDepth 100000 in
theorem oTX6_fits : okT (131, 6, 1, false, kX6_fits_0) := ⟨by decide +kernel, rfl, rfl, fun h => absurd h (by decide), xdk_parts 2 (fun j hj => match j, hj with | 0, _ => oDX6_fits_0 | 1, _ => oDX6_fits_1 | j + 2, hj => absurd hj (by omega)) (by decide +kernel)⟩
set_option maxRecDepth 100000 in
theorem oTX6_areThere : okT (132, 6, 4, false, kX6_areThere_0) := ⟨by decide +kernel, rfl, rfl, fun h => absurd h (by decide), by decide +kernel⟩
set_option maxRecDepth 100000 in
theorem oTX6_unfit : okT (133, 6, 1, false, kX6_unfit_0) := ⟨by decide +kernel, rfl, rfl, fun h => absurd h (by decide), by decide +kernel⟩
set_option maxRecDepth 100000 in
theorem oTX6_manyFitting : okT (134, 6, 1, false, kX6_manyFitting_0) := ⟨by decide +kernel, rfl, rfl, fun h => absurd h (by decide), by decide +kernel⟩
set_option maxRecDepth 100000 in
theorem oTX6_likelyRain : okT (135, 6, 1, false, kX6_likelyRain_0) := ⟨by decide +kernel, rfl, rfl, fun h => absurd h (by decide), by decide +kernel⟩
set_option maxRecDepth 100000 in
theorem oTX6_extreme : okT (136, 6, 1, false, kX6_extreme_0) := ⟨by decide +kernel, rfl, rfl, fun h => absurd h (by decide), by decide +kernel⟩
set_option maxRecDepth 100000 in
theorem oTX6_lies : okT (137, 6, 1, false, kX6_lies_0) := ⟨by decide +kernel, rfl, rfl, fun h => absurd h (by decide), by decide +kernel⟩
set_option maxRecDepth 100000 in
theorem oTX6_isSeason : okT (138, 6, 4, false, kX6_isSeason_0) := ⟨by decide +kernel, rfl, rfl, fun h => absurd h (by decide), by decide +kernel⟩
set_option maxRecDepth 100000 in
theorem oTX6_isAmount : okT (139, 6, 4, false, kX6_isAmount_0) := ⟨by decide +kernel, rfl, rfl, fun h => absurd h (by decide), by decide +kernel⟩
set_option maxRecDepth 100000 in
theorem oTX6_dayOf : okT (140, 6, 1, false, kX6_dayOf_0) := ⟨by decide +kernel, rfl, rfl, fun h => absurd h (by decide), by decide +kernel⟩
set_option maxRecDepth 100000 in
theorem oTX6_numberOf : okT (141, 6, 1, false, kX6_numberOf_0) := ⟨by decide +kernel, rfl, rfl, fun h => absurd h (by decide), by decide +kernel⟩
set_option maxRecDepth 100000 in
theorem oTX6_amount : okT (142, 6, 1, false, kX6_amount_0) := ⟨by decide +kernel, rfl, rfl, fun h => absurd h (by decide), by decide +kernel⟩
set_option maxRecDepth 100000 in
theorem oTX6_has : okT (143, 6, 4, false, kX6_has_0) := ⟨by decide +kernel, rfl, rfl, fun h => absurd h (by decide), by decide +kernel⟩
set_option maxRecDepth 100000 in
theorem oTX6_cell : okT (144, 6, 1, false, kX6_cell_0) := ⟨by decide +kernel, rfl, rfl, fun h => absurd h (by decide), by decide +kernel⟩
set_option maxRecDepth 100000 in
theorem oTX6_put : okT (145, 6, 0, false, kX6_put_0) := ⟨by decide +kernel, rfl, rfl, fun h => absurd h (by decide), by decide +kernel⟩
set_option maxRecDepth 100000 in
theorem oTX6_copy : okT (146, 6, 0, false, kX6_copy_0) := ⟨by decide +kernel, rfl, rfl, fun h => absurd h (by decide), by decide +kernel⟩
set_option maxRecDepth 100000 in
theorem oTX6_fraction : okT (147, 6, 1, false, kX6_fraction_0) := ⟨by decide +kernel, rfl, rfl, fun h => absurd h (by decide), by decide +kernel⟩
set_option maxRecDepth 100000 in
theorem oTX6_commonDivisor : okT (148, 6, 1, false, kX6_commonDivisor_0) := ⟨by decide +kernel, rfl, rfl, fun h => absurd h (by decide), by decide +kernel⟩
set_option maxRecDepth 100000 in
theorem oTX7_init : okT (149, 7, 0, true, kX7_init_0) := ⟨by decide +kernel, rfl, rfl, fun _ => rfl, by decide +kernel⟩
set_option maxRecDepth 100000 in
theorem oTX7_isIn : okT (150, 7, 4, false, kX7_isIn_0) := ⟨by decide +kernel, rfl, rfl, fun h => absurd h (by decide), by decide +kernel⟩
set_option maxRecDepth 100000 in
theorem oDX7_feed_0 : xdk cX7_feed ((kX7_feed_0.drop 0).take 40) = true := by decide +kernel
set_option maxRecDepth 100000 in
theorem oDX7_feed_1 : xdk cX7_feed ((kX7_feed_0.drop 40).take 40) = true := by decide +kernel
set_option maxRecDepth 100000 in
theorem oTX7_feed : okT (151, 7, 1, false, kX7_feed_0) := ⟨by decide +kernel, rfl, rfl, fun h => absurd h (by decide), xdk_parts 2 (fun j hj => match j, hj with | 0, _ => oDX7_feed_0 | 1, _ => oDX7_feed_1 | j + 2, hj => absurd hj (by omega)) (by decide +kernel)⟩
set_option maxRecDepth 100000 in
theorem oTX7_end : okT (152, 7, 1, false, kX7_end_0) := ⟨by decide +kernel, rfl, rfl, fun h => absurd h (by decide), by decide +kernel⟩
set_option maxRecDepth 100000 in
theorem oTX7_byteAt : okT (153, 7, 1, false, kX7_byteAt_0) := ⟨by decide +kernel, rfl, rfl, fun h => absurd h (by decide), by decide +kernel⟩
set_option maxRecDepth 100000 in
theorem oTX7_isLetter : okT (154, 7, 4, false, kX7_isLetter_0) := ⟨by decide +kernel, rfl, rfl, fun h => absurd h (by decide), by decide +kernel⟩
set_option maxRecDepth 100000 in
theorem oTX7_isDigit : okT (155, 7, 4, false, kX7_isDigit_0) := ⟨by decide +kernel, rfl, rfl, fun h => absurd h (by decide), by decide +kernel⟩
set_option maxRecDepth 100000 in
theorem oTX7_four : okT (156, 7, 2, false, kX7_four_0) := ⟨by decide +kernel, rfl, rfl, fun h => absurd h (by decide), by decide +kernel⟩
set_option maxRecDepth 100000 in
theorem oTX7_eight : okT (157, 7, 2, false, kX7_eight_0) := ⟨by decide +kernel, rfl, rfl, fun h => absurd h (by decide), by decide +kernel⟩
set_option maxRecDepth 100000 in
theorem oDX7_wordOf_0 : xdk cX7_wordOf ((kX7_wordOf_0.drop 0).take 40) = true := by decide +kernel
set_option maxRecDepth 100000 in
theorem oDX7_wordOf_1 : xdk cX7_wordOf ((kX7_wordOf_0.drop 40).take 40) = true := by decide +kernel
set_option maxRecDepth 100000 in
theorem oDX7_wordOf_2 : xdk cX7_wordOf ((kX7_wordOf_0.drop 80).take 40) = true := by decide +kernel
set_option maxRecDepth 100000 in
theorem oDX7_wordOf_3 : xdk cX7_wordOf ((kX7_wordOf_0.drop 120).take 40) = true := by decide +kernel
set_option maxRecDepth 100000 in
theorem oTX7_wordOf : okT (158, 7, 1, false, kX7_wordOf_0) := ⟨by decide +kernel, rfl, rfl, fun h => absurd h (by decide), xdk_parts 4 (fun j hj => match j, hj with | 0, _ => oDX7_wordOf_0 | 1, _ => oDX7_wordOf_1 | 2, _ => oDX7_wordOf_2 | 3, _ => oDX7_wordOf_3 | j + 4, hj => absurd hj (by omega)) (by decide +kernel)⟩
set_option maxRecDepth 100000 in
theorem oDX7_kindOrSeason_0 : xdk cX7_kindOrSeason ((kX7_kindOrSeason_0.drop 0).take 40) = true := by decide +kernel
set_option maxRecDepth 100000 in
theorem oDX7_kindOrSeason_1 : xdk cX7_kindOrSeason ((kX7_kindOrSeason_0.drop 40).take 40) = true := by decide +kernel
set_option maxRecDepth 100000 in
theorem oDX7_kindOrSeason_2 : xdk cX7_kindOrSeason ((kX7_kindOrSeason_0.drop 80).take 40) = true := by decide +kernel
set_option maxRecDepth 100000 in
theorem oTX7_kindOrSeason : okT (159, 7, 1, false, kX7_kindOrSeason_0) := ⟨by decide +kernel, rfl, rfl, fun h => absurd h (by decide), xdk_parts 3 (fun j hj => match j, hj with | 0, _ => oDX7_kindOrSeason_0 | 1, _ => oDX7_kindOrSeason_1 | 2, _ => oDX7_kindOrSeason_2 | j + 3, hj => absurd hj (by omega)) (by decide +kernel)⟩
set_option maxRecDepth 100000 in
theorem oDX7_otherWord_0 : xdk cX7_otherWord ((kX7_otherWord_0.drop 0).take 40) = true := by decide +kernel
set_option maxRecDepth 100000 in
theorem oDX7_otherWord_1 : xdk cX7_otherWord ((kX7_otherWord_0.drop 40).take 40) = true := by decide +kernel
set_option maxRecDepth 100000 in
theorem oDX7_otherWord_2 : xdk cX7_otherWord ((kX7_otherWord_0.drop 80).take 40) = true := by decide +kernel
set_option maxRecDepth 100000 in
theorem oDX7_otherWord_3 : xdk cX7_otherWord ((kX7_otherWord_0.drop 120).take 40) = true := by decide +kernel
set_option maxRecDepth 100000 in
theorem oDX7_otherWord_4 : xdk cX7_otherWord ((kX7_otherWord_0.drop 160).take 40) = true := by decide +kernel
set_option maxRecDepth 100000 in
theorem oTX7_otherWord : okT (160, 7, 1, false, kX7_otherWord_0) := ⟨by decide +kernel, rfl, rfl, fun h => absurd h (by decide), xdk_parts 5 (fun j hj => match j, hj with | 0, _ => oDX7_otherWord_0 | 1, _ => oDX7_otherWord_1 | 2, _ => oDX7_otherWord_2 | 3, _ => oDX7_otherWord_3 | 4, _ => oDX7_otherWord_4 | j + 5, hj => absurd hj (by omega)) (by decide +kernel)⟩
set_option maxRecDepth 100000 in
theorem oDX7_advance_0 : xdk cX7_advance ((kX7_advance_0.drop 0).take 40) = true := by decide +kernel
set_option maxRecDepth 100000 in
theorem oDX7_advance_1 : xdk cX7_advance ((kX7_advance_0.drop 40).take 40) = true := by decide +kernel
set_option maxRecDepth 100000 in
theorem oDX7_advance_2 : xdk cX7_advance ((kX7_advance_0.drop 80).take 40) = true := by decide +kernel
set_option maxRecDepth 100000 in
theorem oDX7_advance_3 : xdk cX7_advance ((kX7_advance_0.drop 120).take 40) = true := by decide +kernel
set_option maxRecDepth 100000 in
theorem oDX7_advance_4 : xdk cX7_advance ((kX7_advance_0.drop 160).take 40) = true := by decide +kernel
set_option maxRecDepth 100000 in
theorem oTX7_advance : okT (161, 7, 0, false, kX7_advance_0) := ⟨by decide +kernel, rfl, rfl, fun h => absurd h (by decide), xdk_parts 5 (fun j hj => match j, hj with | 0, _ => oDX7_advance_0 | 1, _ => oDX7_advance_1 | 2, _ => oDX7_advance_2 | 3, _ => oDX7_advance_3 | 4, _ => oDX7_advance_4 | j + 5, hj => absurd hj (by omega)) (by decide +kernel)⟩
set_option maxRecDepth 100000 in
theorem oTX7_ends : okT (162, 7, 0, false, kX7_ends_0) := ⟨by decide +kernel, rfl, rfl, fun h => absurd h (by decide), by decide +kernel⟩
set_option maxRecDepth 100000 in
theorem oTX7_also : okT (163, 7, 0, false, kX7_also_0) := ⟨by decide +kernel, rfl, rfl, fun h => absurd h (by decide), by decide +kernel⟩
set_option maxRecDepth 100000 in
theorem oTX7_numbered : okT (164, 7, 1, false, kX7_numbered_0) := ⟨by decide +kernel, rfl, rfl, fun h => absurd h (by decide), by decide +kernel⟩
set_option maxRecDepth 100000 in
theorem oTX7_takes : okT (165, 7, 1, false, kX7_takes_0) := ⟨by decide +kernel, rfl, rfl, fun h => absurd h (by decide), by decide +kernel⟩
set_option maxRecDepth 100000 in
theorem oTX7_endsLine : okT (166, 7, 0, false, kX7_endsLine_0) := ⟨by decide +kernel, rfl, rfl, fun h => absurd h (by decide), by decide +kernel⟩
set_option maxRecDepth 100000 in
theorem oTX7_kindTold : okT (167, 7, 1, false, kX7_kindTold_0) := ⟨by decide +kernel, rfl, rfl, fun h => absurd h (by decide), by decide +kernel⟩
set_option maxRecDepth 100000 in
theorem oTX7_seasonTold : okT (168, 7, 1, false, kX7_seasonTold_0) := ⟨by decide +kernel, rfl, rfl, fun h => absurd h (by decide), by decide +kernel⟩
set_option maxRecDepth 100000 in
theorem oTX7_ministerTold : okT (169, 7, 1, false, kX7_ministerTold_0) := ⟨by decide +kernel, rfl, rfl, fun h => absurd h (by decide), by decide +kernel⟩
set_option maxRecDepth 100000 in
theorem oDX7_ministerLine_0 : xdk cX7_ministerLine ((kX7_ministerLine_0.drop 0).take 40) = true := by decide +kernel
set_option maxRecDepth 100000 in
theorem oDX7_ministerLine_1 : xdk cX7_ministerLine ((kX7_ministerLine_0.drop 40).take 40) = true := by decide +kernel
set_option maxRecDepth 100000 in
theorem oDX7_ministerLine_2 : xdk cX7_ministerLine ((kX7_ministerLine_0.drop 80).take 40) = true := by decide +kernel
set_option maxRecDepth 100000 in
theorem oTX7_ministerLine : okT (170, 7, 0, false, kX7_ministerLine_0) := ⟨by decide +kernel, rfl, rfl, fun h => absurd h (by decide), xdk_parts 3 (fun j hj => match j, hj with | 0, _ => oDX7_ministerLine_0 | 1, _ => oDX7_ministerLine_1 | 2, _ => oDX7_ministerLine_2 | j + 3, hj => absurd hj (by omega)) (by decide +kernel)⟩
set_option maxRecDepth 100000 in
theorem oTX7_wantLine : okT (171, 7, 0, false, kX7_wantLine_0) := ⟨by decide +kernel, rfl, rfl, fun h => absurd h (by decide), by decide +kernel⟩
set_option maxRecDepth 100000 in
theorem oDX7_feudLine_0 : xdk cX7_feudLine ((kX7_feudLine_0.drop 0).take 40) = true := by decide +kernel
set_option maxRecDepth 100000 in
theorem oDX7_feudLine_1 : xdk cX7_feudLine ((kX7_feudLine_0.drop 40).take 40) = true := by decide +kernel
set_option maxRecDepth 100000 in
theorem oTX7_feudLine : okT (172, 7, 0, false, kX7_feudLine_0) := ⟨by decide +kernel, rfl, rfl, fun h => absurd h (by decide), xdk_parts 2 (fun j hj => match j, hj with | 0, _ => oDX7_feudLine_0 | 1, _ => oDX7_feudLine_1 | j + 2, hj => absurd hj (by omega)) (by decide +kernel)⟩
set_option maxRecDepth 100000 in
theorem oDX7_republicLine_0 : xdk cX7_republicLine ((kX7_republicLine_0.drop 0).take 40) = true := by decide +kernel
set_option maxRecDepth 100000 in
theorem oDX7_republicLine_1 : xdk cX7_republicLine ((kX7_republicLine_0.drop 40).take 40) = true := by decide +kernel
set_option maxRecDepth 100000 in
theorem oDX7_republicLine_2 : xdk cX7_republicLine ((kX7_republicLine_0.drop 80).take 40) = true := by decide +kernel
set_option maxRecDepth 100000 in
theorem oTX7_republicLine : okT (173, 7, 0, false, kX7_republicLine_0) := ⟨by decide +kernel, rfl, rfl, fun h => absurd h (by decide), xdk_parts 3 (fun j hj => match j, hj with | 0, _ => oDX7_republicLine_0 | 1, _ => oDX7_republicLine_1 | 2, _ => oDX7_republicLine_2 | j + 3, hj => absurd hj (by omega)) (by decide +kernel)⟩
set_option maxRecDepth 100000 in
theorem oDX7_adds_0 : xdk cX7_adds ((kX7_adds_0.drop 0).take 40) = true := by decide +kernel
set_option maxRecDepth 100000 in
theorem oDX7_adds_1 : xdk cX7_adds ((kX7_adds_0.drop 40).take 40) = true := by decide +kernel
set_option maxRecDepth 100000 in
theorem oTX7_adds : okT (174, 7, 0, false, kX7_adds_0) := ⟨by decide +kernel, rfl, rfl, fun h => absurd h (by decide), xdk_parts 2 (fun j hj => match j, hj with | 0, _ => oDX7_adds_0 | 1, _ => oDX7_adds_1 | j + 2, hj => absurd hj (by omega)) (by decide +kernel)⟩
set_option maxRecDepth 100000 in
theorem oTX7_noLine : okT (175, 7, 0, false, kX7_noLine_0) := ⟨by decide +kernel, rfl, rfl, fun h => absurd h (by decide), by decide +kernel⟩
set_option maxRecDepth 100000 in
theorem oDX7_orderLine_0 : xdk cX7_orderLine ((kX7_orderLine_0.drop 0).take 40) = true := by decide +kernel
set_option maxRecDepth 100000 in
theorem oDX7_orderLine_1 : xdk cX7_orderLine ((kX7_orderLine_0.drop 40).take 40) = true := by decide +kernel
set_option maxRecDepth 100000 in
theorem oTX7_orderLine : okT (176, 7, 0, false, kX7_orderLine_0) := ⟨by decide +kernel, rfl, rfl, fun h => absurd h (by decide), xdk_parts 2 (fun j hj => match j, hj with | 0, _ => oDX7_orderLine_0 | 1, _ => oDX7_orderLine_1 | j + 2, hj => absurd hj (by omega)) (by decide +kernel)⟩
set_option maxRecDepth 100000 in
theorem oDX7_yearLine_0 : xdk cX7_yearLine ((kX7_yearLine_0.drop 0).take 40) = true := by decide +kernel
set_option maxRecDepth 100000 in
theorem oDX7_yearLine_1 : xdk cX7_yearLine ((kX7_yearLine_0.drop 40).take 40) = true := by decide +kernel
set_option maxRecDepth 100000 in
theorem oDX7_yearLine_2 : xdk cX7_yearLine ((kX7_yearLine_0.drop 80).take 40) = true := by decide +kernel
set_option maxRecDepth 100000 in
theorem oDX7_yearLine_3 : xdk cX7_yearLine ((kX7_yearLine_0.drop 120).take 40) = true := by decide +kernel
set_option maxRecDepth 100000 in
theorem oTX7_yearLine : okT (177, 7, 0, false, kX7_yearLine_0) := ⟨by decide +kernel, rfl, rfl, fun h => absurd h (by decide), xdk_parts 4 (fun j hj => match j, hj with | 0, _ => oDX7_yearLine_0 | 1, _ => oDX7_yearLine_1 | 2, _ => oDX7_yearLine_2 | 3, _ => oDX7_yearLine_3 | j + 4, hj => absurd hj (by omega)) (by decide +kernel)⟩
set_option maxRecDepth 100000 in
theorem oDX7_leakLine_0 : xdk cX7_leakLine ((kX7_leakLine_0.drop 0).take 40) = true := by decide +kernel
set_option maxRecDepth 100000 in
theorem oDX7_leakLine_1 : xdk cX7_leakLine ((kX7_leakLine_0.drop 40).take 40) = true := by decide +kernel
set_option maxRecDepth 100000 in
theorem oDX7_leakLine_2 : xdk cX7_leakLine ((kX7_leakLine_0.drop 80).take 40) = true := by decide +kernel
set_option maxRecDepth 100000 in
theorem oTX7_leakLine : okT (178, 7, 0, false, kX7_leakLine_0) := ⟨by decide +kernel, rfl, rfl, fun h => absurd h (by decide), xdk_parts 3 (fun j hj => match j, hj with | 0, _ => oDX7_leakLine_0 | 1, _ => oDX7_leakLine_1 | 2, _ => oDX7_leakLine_2 | j + 3, hj => absurd hj (by omega)) (by decide +kernel)⟩
set_option maxRecDepth 100000 in
theorem oDX7_summerLine_0 : xdk cX7_summerLine ((kX7_summerLine_0.drop 0).take 40) = true := by decide +kernel
set_option maxRecDepth 100000 in
theorem oDX7_summerLine_1 : xdk cX7_summerLine ((kX7_summerLine_0.drop 40).take 40) = true := by decide +kernel
set_option maxRecDepth 100000 in
theorem oDX7_summerLine_2 : xdk cX7_summerLine ((kX7_summerLine_0.drop 80).take 40) = true := by decide +kernel
set_option maxRecDepth 100000 in
theorem oTX7_summerLine : okT (179, 7, 0, false, kX7_summerLine_0) := ⟨by decide +kernel, rfl, rfl, fun h => absurd h (by decide), xdk_parts 3 (fun j hj => match j, hj with | 0, _ => oDX7_summerLine_0 | 1, _ => oDX7_summerLine_1 | 2, _ => oDX7_summerLine_2 | j + 3, hj => absurd hj (by omega)) (by decide +kernel)⟩
set_option maxRecDepth 100000 in
theorem oTX7_bargainLine : okT (180, 7, 0, false, kX7_bargainLine_0) := ⟨by decide +kernel, rfl, rfl, fun h => absurd h (by decide), by decide +kernel⟩
set_option maxRecDepth 100000 in
theorem oTX7_placeOf : okT (181, 7, 1, false, kX7_placeOf_0) := ⟨by decide +kernel, rfl, rfl, fun h => absurd h (by decide), by decide +kernel⟩
set_option maxRecDepth 100000 in
theorem oTX7_sizeOf : okT (182, 7, 1, false, kX7_sizeOf_0) := ⟨by decide +kernel, rfl, rfl, fun h => absurd h (by decide), by decide +kernel⟩
set_option maxRecDepth 100000 in
theorem oTX7_isOf : okT (183, 7, 4, false, kX7_isOf_0) := ⟨by decide +kernel, rfl, rfl, fun h => absurd h (by decide), by decide +kernel⟩
set_option maxRecDepth 100000 in
theorem oTX7_clears : okT (184, 7, 0, false, kX7_clears_0) := ⟨by decide +kernel, rfl, rfl, fun h => absurd h (by decide), by decide +kernel⟩
set_option maxRecDepth 100000 in
theorem oDX7_text_0 : xdk cX7_text ((kX7_text_0.drop 0).take 40) = true := by decide +kernel
set_option maxRecDepth 100000 in
theorem oDX7_text_1 : xdk cX7_text ((kX7_text_0.drop 40).take 40) = true := by decide +kernel
set_option maxRecDepth 100000 in
theorem oDX7_text_2 : xdk cX7_text ((kX7_text_0.drop 80).take 40) = true := by decide +kernel
set_option maxRecDepth 100000 in
theorem oDX7_text_3 : xdk cX7_text ((kX7_text_0.drop 120).take 40) = true := by decide +kernel
set_option maxRecDepth 100000 in
theorem oTX7_text : okT (185, 7, 1, false, kX7_text_0) := ⟨by decide +kernel, rfl, rfl, fun h => absurd h (by decide), xdk_parts 4 (fun j hj => match j, hj with | 0, _ => oDX7_text_0 | 1, _ => oDX7_text_1 | 2, _ => oDX7_text_2 | 3, _ => oDX7_text_3 | j + 4, hj => absurd hj (by omega)) (by decide +kernel)⟩
set_option maxRecDepth 100000 in
theorem oTX7_fault : okT (186, 7, 1, false, kX7_fault_0) := ⟨by decide +kernel, rfl, rfl, fun h => absurd h (by decide), by decide +kernel⟩
set_option maxRecDepth 100000 in
theorem oTX7_isRepublic : okT (187, 7, 4, false, kX7_isRepublic_0) := ⟨by decide +kernel, rfl, rfl, fun h => absurd h (by decide), by decide +kernel⟩
set_option maxRecDepth 100000 in
theorem oTX7_of : okT (188, 7, 1, false, kX7_of_0) := ⟨by decide +kernel, rfl, rfl, fun h => absurd h (by decide), by decide +kernel⟩
set_option maxRecDepth 100000 in
theorem oTX7_ministers : okT (189, 7, 1, false, kX7_ministers_0) := ⟨by decide +kernel, rfl, rfl, fun h => absurd h (by decide), by decide +kernel⟩
set_option maxRecDepth 100000 in
theorem oTX7_isMinister : okT (190, 7, 4, false, kX7_isMinister_0) := ⟨by decide +kernel, rfl, rfl, fun h => absurd h (by decide), by decide +kernel⟩
set_option maxRecDepth 100000 in
theorem oTX7_ofMinister : okT (191, 7, 1, false, kX7_ofMinister_0) := ⟨by decide +kernel, rfl, rfl, fun h => absurd h (by decide), by decide +kernel⟩
set_option maxRecDepth 100000 in
theorem oTX7_wants : okT (192, 7, 1, false, kX7_wants_0) := ⟨by decide +kernel, rfl, rfl, fun h => absurd h (by decide), by decide +kernel⟩
set_option maxRecDepth 100000 in
theorem oTX7_republic : okT (193, 7, 1, false, kX7_republic_0) := ⟨by decide +kernel, rfl, rfl, fun h => absurd h (by decide), by decide +kernel⟩
set_option maxRecDepth 100000 in
theorem oTX7_minister : okT (194, 7, 1, false, kX7_minister_0) := ⟨by decide +kernel, rfl, rfl, fun h => absurd h (by decide), by decide +kernel⟩
set_option maxRecDepth 100000 in
theorem oTX7_amountOf : okT (195, 7, 1, false, kX7_amountOf_0) := ⟨by decide +kernel, rfl, rfl, fun h => absurd h (by decide), by decide +kernel⟩
set_option maxRecDepth 100000 in
theorem oTX7_talksOf : okT (196, 7, 0, false, kX7_talksOf_0) := ⟨by decide +kernel, rfl, rfl, fun h => absurd h (by decide), by decide +kernel⟩
set_option maxRecDepth 100000 in
theorem oTX7_size : okT (197, 7, 1, false, kX7_size_0) := ⟨by decide +kernel, rfl, rfl, fun h => absurd h (by decide), by decide +kernel⟩
set_option maxRecDepth 100000 in
theorem oTX7_offOf : okT (198, 7, 1, false, kX7_offOf_0) := ⟨by decide +kernel, rfl, rfl, fun h => absurd h (by decide), by decide +kernel⟩
set_option maxRecDepth 100000 in
theorem oTX7_yields : okT (199, 7, 1, false, kX7_yields_0) := ⟨by decide +kernel, rfl, rfl, fun h => absurd h (by decide), by decide +kernel⟩
set_option maxRecDepth 100000 in
theorem oTX7_agrees : okT (200, 7, 4, false, kX7_agrees_0) := ⟨by decide +kernel, rfl, rfl, fun h => absurd h (by decide), by decide +kernel⟩
set_option maxRecDepth 100000 in
theorem oTX7_agreeing : okT (201, 7, 1, false, kX7_agreeing_0) := ⟨by decide +kernel, rfl, rfl, fun h => absurd h (by decide), by decide +kernel⟩
set_option maxRecDepth 100000 in
theorem oTX7_votesOf : okT (202, 7, 1, false, kX7_votesOf_0) := ⟨by decide +kernel, rfl, rfl, fun h => absurd h (by decide), by decide +kernel⟩
set_option maxRecDepth 100000 in
theorem oTX7_vetoes : okT (203, 7, 1, false, kX7_vetoes_0) := ⟨by decide +kernel, rfl, rfl, fun h => absurd h (by decide), by decide +kernel⟩
set_option maxRecDepth 100000 in
theorem oTX7_isPassed : okT (204, 7, 4, false, kX7_isPassed_0) := ⟨by decide +kernel, rfl, rfl, fun h => absurd h (by decide), by decide +kernel⟩
set_option maxRecDepth 100000 in
theorem oTX7_areAmounts : okT (205, 7, 4, false, kX7_areAmounts_0) := ⟨by decide +kernel, rfl, rfl, fun h => absurd h (by decide), by decide +kernel⟩
set_option maxRecDepth 100000 in
theorem oTX7_isMotion : okT (206, 7, 4, false, kX7_isMotion_0) := ⟨by decide +kernel, rfl, rfl, fun h => absurd h (by decide), by decide +kernel⟩
set_option maxRecDepth 100000 in
theorem oTX7_off : okT (207, 7, 1, false, kX7_off_0) := ⟨by decide +kernel, rfl, rfl, fun h => absurd h (by decide), by decide +kernel⟩
set_option maxRecDepth 100000 in
theorem oTX7_vote : okT (208, 7, 1, false, kX7_vote_0) := ⟨by decide +kernel, rfl, rfl, fun h => absurd h (by decide), by decide +kernel⟩
set_option maxRecDepth 100000 in
theorem oTX7_areOrders : okT (209, 7, 4, false, kX7_areOrders_0) := ⟨by decide +kernel, rfl, rfl, fun h => absurd h (by decide), by decide +kernel⟩
set_option maxRecDepth 100000 in
theorem oTX7_orderOf : okT (210, 7, 1, false, kX7_orderOf_0) := ⟨by decide +kernel, rfl, rfl, fun h => absurd h (by decide), by decide +kernel⟩
set_option maxRecDepth 100000 in
theorem oTX7_order : okT (211, 7, 1, false, kX7_order_0) := ⟨by decide +kernel, rfl, rfl, fun h => absurd h (by decide), by decide +kernel⟩
set_option maxRecDepth 100000 in
theorem oTX7_amount : okT (212, 7, 1, false, kX7_amount_0) := ⟨by decide +kernel, rfl, rfl, fun h => absurd h (by decide), by decide +kernel⟩
set_option maxRecDepth 100000 in
theorem oDX7_isBroken_0 : xdk cX7_isBroken ((kX7_isBroken_0.drop 0).take 40) = true := by decide +kernel
set_option maxRecDepth 100000 in
theorem oDX7_isBroken_1 : xdk cX7_isBroken ((kX7_isBroken_0.drop 40).take 40) = true := by decide +kernel
set_option maxRecDepth 100000 in
theorem oDX7_isBroken_2 : xdk cX7_isBroken ((kX7_isBroken_0.drop 80).take 40) = true := by decide +kernel
set_option maxRecDepth 100000 in
theorem oTX7_isBroken : okT (213, 7, 4, false, kX7_isBroken_0) := ⟨by decide +kernel, rfl, rfl, fun h => absurd h (by decide), xdk_parts 3 (fun j hj => match j, hj with | 0, _ => oDX7_isBroken_0 | 1, _ => oDX7_isBroken_1 | 2, _ => oDX7_isBroken_2 | j + 3, hj => absurd hj (by omega)) (by decide +kernel)⟩
set_option maxRecDepth 100000 in
theorem oTX7_firstBroken : okT (214, 7, 1, false, kX7_firstBroken_0) := ⟨by decide +kernel, rfl, rfl, fun h => absurd h (by decide), by decide +kernel⟩
set_option maxRecDepth 100000 in
theorem oTX7_broken : okT (215, 7, 1, false, kX7_broken_0) := ⟨by decide +kernel, rfl, rfl, fun h => absurd h (by decide), by decide +kernel⟩
set_option maxRecDepth 100000 in
theorem oDX7_begins_0 : xdk cX7_begins ((kX7_begins_0.drop 0).take 40) = true := by decide +kernel
set_option maxRecDepth 100000 in
theorem oDX7_begins_1 : xdk cX7_begins ((kX7_begins_0.drop 40).take 40) = true := by decide +kernel
set_option maxRecDepth 100000 in
theorem oTX7_begins : okT (216, 7, 0, false, kX7_begins_0) := ⟨by decide +kernel, rfl, rfl, fun h => absurd h (by decide), xdk_parts 2 (fun j hj => match j, hj with | 0, _ => oDX7_begins_0 | 1, _ => oDX7_begins_1 | j + 2, hj => absurd hj (by omega)) (by decide +kernel)⟩
set_option maxRecDepth 100000 in
theorem oTX7_canNature : okT (217, 7, 4, false, kX7_canNature_0) := ⟨by decide +kernel, rfl, rfl, fun h => absurd h (by decide), by decide +kernel⟩
set_option maxRecDepth 100000 in
theorem oDX7_goes_0 : xdk cX7_goes ((kX7_goes_0.drop 0).take 40) = true := by decide +kernel
set_option maxRecDepth 100000 in
theorem oDX7_goes_1 : xdk cX7_goes ((kX7_goes_0.drop 40).take 40) = true := by decide +kernel
set_option maxRecDepth 100000 in
theorem oTX7_goes : okT (218, 7, 0, false, kX7_goes_0) := ⟨by decide +kernel, rfl, rfl, fun h => absurd h (by decide), xdk_parts 2 (fun j hj => match j, hj with | 0, _ => oDX7_goes_0 | 1, _ => oDX7_goes_1 | j + 2, hj => absurd hj (by omega)) (by decide +kernel)⟩
set_option maxRecDepth 100000 in
theorem oTX7_committee : okT (219, 7, 0, false, kX7_committee_0) := ⟨by decide +kernel, rfl, rfl, fun h => absurd h (by decide), by decide +kernel⟩
set_option maxRecDepth 100000 in
theorem oDX7_angers_0 : xdk cX7_angers ((kX7_angers_0.drop 0).take 40) = true := by decide +kernel
set_option maxRecDepth 100000 in
theorem oDX7_angers_1 : xdk cX7_angers ((kX7_angers_0.drop 40).take 40) = true := by decide +kernel
set_option maxRecDepth 100000 in
theorem oTX7_angers : okT (220, 7, 0, false, kX7_angers_0) := ⟨by decide +kernel, rfl, rfl, fun h => absurd h (by decide), xdk_parts 2 (fun j hj => match j, hj with | 0, _ => oDX7_angers_0 | 1, _ => oDX7_angers_1 | j + 2, hj => absurd hj (by omega)) (by decide +kernel)⟩
set_option maxRecDepth 100000 in
theorem oTX7_moves : okT (221, 7, 0, false, kX7_moves_0) := ⟨by decide +kernel, rfl, rfl, fun h => absurd h (by decide), by decide +kernel⟩
set_option maxRecDepth 100000 in
theorem oTX7_deeds : okT (222, 7, 1, false, kX7_deeds_0) := ⟨by decide +kernel, rfl, rfl, fun h => absurd h (by decide), by decide +kernel⟩
set_option maxRecDepth 100000 in
theorem oTX7_deedOf : okT (223, 7, 1, false, kX7_deedOf_0) := ⟨by decide +kernel, rfl, rfl, fun h => absurd h (by decide), by decide +kernel⟩
set_option maxRecDepth 100000 in
theorem oTX7_deed : okT (224, 7, 1, false, kX7_deed_0) := ⟨by decide +kernel, rfl, rfl, fun h => absurd h (by decide), by decide +kernel⟩
set_option maxRecDepth 100000 in
theorem oTX7_isThere : okT (225, 7, 4, false, kX7_isThere_0) := ⟨by decide +kernel, rfl, rfl, fun h => absurd h (by decide), by decide +kernel⟩
set_option maxRecDepth 100000 in
theorem oDX7_can_0 : xdk cX7_can ((kX7_can_0.drop 0).take 40) = true := by decide +kernel
set_option maxRecDepth 100000 in
theorem oDX7_can_1 : xdk cX7_can ((kX7_can_0.drop 40).take 40) = true := by decide +kernel
set_option maxRecDepth 100000 in
theorem oTX7_can : okT (226, 7, 4, false, kX7_can_0) := ⟨by decide +kernel, rfl, rfl, fun h => absurd h (by decide), xdk_parts 2 (fun j hj => match j, hj with | 0, _ => oDX7_can_0 | 1, _ => oDX7_can_1 | j + 2, hj => absurd hj (by omega)) (by decide +kernel)⟩
set_option maxRecDepth 100000 in
theorem oDX7_does_0 : xdk cX7_does ((kX7_does_0.drop 0).take 40) = true := by decide +kernel
set_option maxRecDepth 100000 in
theorem oDX7_does_1 : xdk cX7_does ((kX7_does_0.drop 40).take 40) = true := by decide +kernel
set_option maxRecDepth 100000 in
theorem oTX7_does : okT (227, 7, 0, false, kX7_does_0) := ⟨by decide +kernel, rfl, rfl, fun h => absurd h (by decide), xdk_parts 2 (fun j hj => match j, hj with | 0, _ => oDX7_does_0 | 1, _ => oDX7_does_1 | j + 2, hj => absurd hj (by omega)) (by decide +kernel)⟩
set_option maxRecDepth 100000 in
theorem oTX7_areTold : okT (228, 7, 4, false, kX7_areTold_0) := ⟨by decide +kernel, rfl, rfl, fun h => absurd h (by decide), by decide +kernel⟩
set_option maxRecDepth 100000 in
theorem oTX7_runs : okT (229, 7, 0, false, kX7_runs_0) := ⟨by decide +kernel, rfl, rfl, fun h => absurd h (by decide), by decide +kernel⟩
set_option maxRecDepth 100000 in
theorem oTX7_stop : okT (230, 7, 1, false, kX7_stop_0) := ⟨by decide +kernel, rfl, rfl, fun h => absurd h (by decide), by decide +kernel⟩
set_option maxRecDepth 100000 in
theorem oDX7_state_0 : xdk cX7_state ((kX7_state_0.drop 0).take 40) = true := by decide +kernel
set_option maxRecDepth 100000 in
theorem oDX7_state_1 : xdk cX7_state ((kX7_state_0.drop 40).take 40) = true := by decide +kernel
set_option maxRecDepth 100000 in
theorem oDX7_state_2 : xdk cX7_state ((kX7_state_0.drop 80).take 40) = true := by decide +kernel
set_option maxRecDepth 100000 in
theorem oTX7_state : okT (231, 7, 1, false, kX7_state_0) := ⟨by decide +kernel, rfl, rfl, fun h => absurd h (by decide), xdk_parts 3 (fun j hj => match j, hj with | 0, _ => oDX7_state_0 | 1, _ => oDX7_state_1 | 2, _ => oDX7_state_2 | j + 3, hj => absurd hj (by omega)) (by decide +kernel)⟩
set_option maxRecDepth 100000 in
theorem oTX7_isAgreed : okT (232, 7, 4, false, kX7_isAgreed_0) := ⟨by decide +kernel, rfl, rfl, fun h => absurd h (by decide), by decide +kernel⟩
set_option maxRecDepth 100000 in
theorem oTX7_rank : okT (233, 7, 1, false, kX7_rank_0) := ⟨by decide +kernel, rfl, rfl, fun h => absurd h (by decide), by decide +kernel⟩
set_option maxRecDepth 100000 in
theorem oDX7_agreed_0 : xdk cX7_agreed ((kX7_agreed_0.drop 0).take 40) = true := by decide +kernel
set_option maxRecDepth 100000 in
theorem oDX7_agreed_1 : xdk cX7_agreed ((kX7_agreed_0.drop 40).take 40) = true := by decide +kernel
set_option maxRecDepth 100000 in
theorem oTX7_agreed : okT (234, 7, 1, false, kX7_agreed_0) := ⟨by decide +kernel, rfl, rfl, fun h => absurd h (by decide), xdk_parts 2 (fun j hj => match j, hj with | 0, _ => oDX7_agreed_0 | 1, _ => oDX7_agreed_1 | j + 2, hj => absurd hj (by omega)) (by decide +kernel)⟩
set_option maxRecDepth 100000 in
theorem oTX7_common : okT (235, 7, 1, false, kX7_common_0) := ⟨by decide +kernel, rfl, rfl, fun h => absurd h (by decide), by decide +kernel⟩
set_option maxRecDepth 100000 in
theorem oTX7_part : okT (236, 7, 1, false, kX7_part_0) := ⟨by decide +kernel, rfl, rfl, fun h => absurd h (by decide), by decide +kernel⟩
set_option maxRecDepth 100000 in
theorem oTX7_factorial : okT (237, 7, 1, false, kX7_factorial_0) := ⟨by decide +kernel, rfl, rfl, fun h => absurd h (by decide), by decide +kernel⟩
set_option maxRecDepth 100000 in
theorem oTX7_bits : okT (238, 7, 1, false, kX7_bits_0) := ⟨by decide +kernel, rfl, rfl, fun h => absurd h (by decide), by decide +kernel⟩
set_option maxRecDepth 100000 in
theorem oTX7_everybody : okT (239, 7, 1, false, kX7_everybody_0) := ⟨by decide +kernel, rfl, rfl, fun h => absurd h (by decide), by decide +kernel⟩
set_option maxRecDepth 100000 in
theorem oTX7_isEnough : okT (240, 7, 4, false, kX7_isEnough_0) := ⟨by decide +kernel, rfl, rfl, fun h => absurd h (by decide), by decide +kernel⟩
set_option maxRecDepth 100000 in
theorem oDX7_power_0 : xdk cX7_power ((kX7_power_0.drop 0).take 40) = true := by decide +kernel
set_option maxRecDepth 100000 in
theorem oDX7_power_1 : xdk cX7_power ((kX7_power_0.drop 40).take 40) = true := by decide +kernel
set_option maxRecDepth 100000 in
theorem oTX7_power : okT (241, 7, 1, false, kX7_power_0) := ⟨by decide +kernel, rfl, rfl, fun h => absurd h (by decide), xdk_parts 2 (fun j hj => match j, hj with | 0, _ => oDX7_power_0 | 1, _ => oDX7_power_1 | j + 2, hj => absurd hj (by omega)) (by decide +kernel)⟩
set_option maxRecDepth 100000 in
theorem oTX7_key : okT (242, 7, 1, false, kX7_key_0) := ⟨by decide +kernel, rfl, rfl, fun h => absurd h (by decide), by decide +kernel⟩
set_option maxRecDepth 100000 in
theorem oTX7_isLeast : okT (243, 7, 4, false, kX7_isLeast_0) := ⟨by decide +kernel, rfl, rfl, fun h => absurd h (by decide), by decide +kernel⟩
set_option maxRecDepth 100000 in
theorem oTX7_coalition : okT (244, 7, 1, false, kX7_coalition_0) := ⟨by decide +kernel, rfl, rfl, fun h => absurd h (by decide), by decide +kernel⟩
set_option maxRecDepth 100000 in
theorem oTX7_costOf : okT (245, 7, 1, false, kX7_costOf_0) := ⟨by decide +kernel, rfl, rfl, fun h => absurd h (by decide), by decide +kernel⟩
set_option maxRecDepth 100000 in
theorem oDX7_bribe_0 : xdk cX7_bribe ((kX7_bribe_0.drop 0).take 40) = true := by decide +kernel
set_option maxRecDepth 100000 in
theorem oDX7_bribe_1 : xdk cX7_bribe ((kX7_bribe_0.drop 40).take 40) = true := by decide +kernel
set_option maxRecDepth 100000 in
theorem oTX7_bribe : okT (246, 7, 1, false, kX7_bribe_0) := ⟨by decide +kernel, rfl, rfl, fun h => absurd h (by decide), xdk_parts 2 (fun j hj => match j, hj with | 0, _ => oDX7_bribe_0 | 1, _ => oDX7_bribe_1 | j + 2, hj => absurd hj (by omega)) (by decide +kernel)⟩
set_option maxRecDepth 100000 in
theorem oTX7_priceOf : okT (247, 7, 1, false, kX7_priceOf_0) := ⟨by decide +kernel, rfl, rfl, fun h => absurd h (by decide), by decide +kernel⟩
set_option maxRecDepth 100000 in
theorem oDX7_gainOf_0 : xdk cX7_gainOf ((kX7_gainOf_0.drop 0).take 40) = true := by decide +kernel
set_option maxRecDepth 100000 in
theorem oDX7_gainOf_1 : xdk cX7_gainOf ((kX7_gainOf_0.drop 40).take 40) = true := by decide +kernel
set_option maxRecDepth 100000 in
theorem oTX7_gainOf : okT (248, 7, 1, false, kX7_gainOf_0) := ⟨by decide +kernel, rfl, rfl, fun h => absurd h (by decide), xdk_parts 2 (fun j hj => match j, hj with | 0, _ => oDX7_gainOf_0 | 1, _ => oDX7_gainOf_1 | j + 2, hj => absurd hj (by omega)) (by decide +kernel)⟩
set_option maxRecDepth 100000 in
theorem oTX7_isRest : okT (249, 7, 4, false, kX7_isRest_0) := ⟨by decide +kernel, rfl, rfl, fun h => absurd h (by decide), by decide +kernel⟩
set_option maxRecDepth 100000 in
theorem oDX7_lobby_0 : xdk cX7_lobby ((kX7_lobby_0.drop 0).take 40) = true := by decide +kernel
set_option maxRecDepth 100000 in
theorem oDX7_lobby_1 : xdk cX7_lobby ((kX7_lobby_0.drop 40).take 40) = true := by decide +kernel
set_option maxRecDepth 100000 in
theorem oTX7_lobby : okT (250, 7, 1, false, kX7_lobby_0) := ⟨by decide +kernel, rfl, rfl, fun h => absurd h (by decide), xdk_parts 2 (fun j hj => match j, hj with | 0, _ => oDX7_lobby_0 | 1, _ => oDX7_lobby_1 | j + 2, hj => absurd hj (by omega)) (by decide +kernel)⟩
set_option maxRecDepth 100000 in
theorem oDX7_bargain_0 : xdk cX7_bargain ((kX7_bargain_0.drop 0).take 40) = true := by decide +kernel
set_option maxRecDepth 100000 in
theorem oDX7_bargain_1 : xdk cX7_bargain ((kX7_bargain_0.drop 40).take 40) = true := by decide +kernel
set_option maxRecDepth 100000 in
theorem oDX7_bargain_2 : xdk cX7_bargain ((kX7_bargain_0.drop 80).take 40) = true := by decide +kernel
set_option maxRecDepth 100000 in
theorem oTX7_bargain : okT (251, 7, 1, false, kX7_bargain_0) := ⟨by decide +kernel, rfl, rfl, fun h => absurd h (by decide), xdk_parts 3 (fun j hj => match j, hj with | 0, _ => oDX7_bargain_0 | 1, _ => oDX7_bargain_1 | 2, _ => oDX7_bargain_2 | j + 3, hj => absurd hj (by omega)) (by decide +kernel)⟩
set_option maxRecDepth 100000 in
theorem oTX7_isSummer : okT (252, 7, 4, false, kX7_isSummer_0) := ⟨by decide +kernel, rfl, rfl, fun h => absurd h (by decide), by decide +kernel⟩
set_option maxRecDepth 100000 in
theorem oTX7_summerDays : okT (253, 7, 1, false, kX7_summerDays_0) := ⟨by decide +kernel, rfl, rfl, fun h => absurd h (by decide), by decide +kernel⟩
set_option maxRecDepth 100000 in
theorem oTX7_dayOf : okT (254, 7, 1, false, kX7_dayOf_0) := ⟨by decide +kernel, rfl, rfl, fun h => absurd h (by decide), by decide +kernel⟩
set_option maxRecDepth 100000 in
theorem oTX7_numberOf : okT (255, 7, 1, false, kX7_numberOf_0) := ⟨by decide +kernel, rfl, rfl, fun h => absurd h (by decide), by decide +kernel⟩
set_option maxRecDepth 100000 in
theorem oTX7_was : okT (256, 7, 1, false, kX7_was_0) := ⟨by decide +kernel, rfl, rfl, fun h => absurd h (by decide), by decide +kernel⟩
set_option maxRecDepth 100000 in
theorem oTX7_wrongDay : okT (257, 7, 1, false, kX7_wrongDay_0) := ⟨by decide +kernel, rfl, rfl, fun h => absurd h (by decide), by decide +kernel⟩
set_option maxRecDepth 100000 in
theorem oTX7_isHeatRight : okT (258, 7, 4, false, kX7_isHeatRight_0) := ⟨by decide +kernel, rfl, rfl, fun h => absurd h (by decide), by decide +kernel⟩
set_option maxRecDepth 100000 in
theorem oTX7_cloudAfter : okT (259, 7, 1, false, kX7_cloudAfter_0) := ⟨by decide +kernel, rfl, rfl, fun h => absurd h (by decide), by decide +kernel⟩
set_option maxRecDepth 100000 in
theorem oDX7_mends_0 : xdk cX7_mends ((kX7_mends_0.drop 0).take 40) = true := by decide +kernel
set_option maxRecDepth 100000 in
theorem oDX7_mends_1 : xdk cX7_mends ((kX7_mends_0.drop 40).take 40) = true := by decide +kernel
set_option maxRecDepth 100000 in
theorem oDX7_mends_2 : xdk cX7_mends ((kX7_mends_0.drop 80).take 40) = true := by decide +kernel
set_option maxRecDepth 100000 in
theorem oTX7_mends : okT (260, 7, 0, false, kX7_mends_0) := ⟨by decide +kernel, rfl, rfl, fun h => absurd h (by decide), xdk_parts 3 (fun j hj => match j, hj with | 0, _ => oDX7_mends_0 | 1, _ => oDX7_mends_1 | 2, _ => oDX7_mends_2 | j + 3, hj => absurd hj (by omega)) (by decide +kernel)⟩
set_option maxRecDepth 100000 in
theorem oDX7_fallsOn_0 : xdk cX7_fallsOn ((kX7_fallsOn_0.drop 0).take 40) = true := by decide +kernel
set_option maxRecDepth 100000 in
theorem oDX7_fallsOn_1 : xdk cX7_fallsOn ((kX7_fallsOn_0.drop 40).take 40) = true := by decide +kernel
set_option maxRecDepth 100000 in
theorem oTX7_fallsOn : okT (261, 7, 1, false, kX7_fallsOn_0) := ⟨by decide +kernel, rfl, rfl, fun h => absurd h (by decide), xdk_parts 2 (fun j hj => match j, hj with | 0, _ => oDX7_fallsOn_0 | 1, _ => oDX7_fallsOn_1 | j + 2, hj => absurd hj (by omega)) (by decide +kernel)⟩
set_option maxRecDepth 100000 in
theorem oDX7_nature_0 : xdk cX7_nature ((kX7_nature_0.drop 0).take 40) = true := by decide +kernel
set_option maxRecDepth 100000 in
theorem oDX7_nature_1 : xdk cX7_nature ((kX7_nature_0.drop 40).take 40) = true := by decide +kernel
set_option maxRecDepth 100000 in
theorem oTX7_nature : okT (262, 7, 1, false, kX7_nature_0) := ⟨by decide +kernel, rfl, rfl, fun h => absurd h (by decide), xdk_parts 2 (fun j hj => match j, hj with | 0, _ => oDX7_nature_0 | 1, _ => oDX7_nature_1 | j + 2, hj => absurd hj (by omega)) (by decide +kernel)⟩
set_option maxRecDepth 100000 in
theorem oTX7_areSeats : okT (263, 7, 4, false, kX7_areSeats_0) := ⟨by decide +kernel, rfl, rfl, fun h => absurd h (by decide), by decide +kernel⟩
set_option maxRecDepth 100000 in
theorem oTX7_proposal : okT (264, 7, 1, false, kX7_proposal_0) := ⟨by decide +kernel, rfl, rfl, fun h => absurd h (by decide), by decide +kernel⟩
set_option maxRecDepth 100000 in
theorem oTX7_isSat : okT (265, 7, 4, false, kX7_isSat_0) := ⟨by decide +kernel, rfl, rfl, fun h => absurd h (by decide), by decide +kernel⟩
set_option maxRecDepth 100000 in
theorem oDX7_unlike_0 : xdk cX7_unlike ((kX7_unlike_0.drop 0).take 40) = true := by decide +kernel
set_option maxRecDepth 100000 in
theorem oDX7_unlike_1 : xdk cX7_unlike ((kX7_unlike_0.drop 40).take 40) = true := by decide +kernel
set_option maxRecDepth 100000 in
theorem oTX7_unlike : okT (266, 7, 1, false, kX7_unlike_0) := ⟨by decide +kernel, rfl, rfl, fun h => absurd h (by decide), xdk_parts 2 (fun j hj => match j, hj with | 0, _ => oDX7_unlike_0 | 1, _ => oDX7_unlike_1 | j + 2, hj => absurd hj (by omega)) (by decide +kernel)⟩
set_option maxRecDepth 100000 in
theorem oDX7_seats_0 : xdk cX7_seats ((kX7_seats_0.drop 0).take 40) = true := by decide +kernel
set_option maxRecDepth 100000 in
theorem oDX7_seats_1 : xdk cX7_seats ((kX7_seats_0.drop 40).take 40) = true := by decide +kernel
set_option maxRecDepth 100000 in
theorem oTX7_seats : okT (267, 7, 1, false, kX7_seats_0) := ⟨by decide +kernel, rfl, rfl, fun h => absurd h (by decide), xdk_parts 2 (fun j hj => match j, hj with | 0, _ => oDX7_seats_0 | 1, _ => oDX7_seats_1 | j + 2, hj => absurd hj (by omega)) (by decide +kernel)⟩
set_option maxRecDepth 100000 in
theorem oTX7_rainy : okT (268, 7, 1, false, kX7_rainy_0) := ⟨by decide +kernel, rfl, rfl, fun h => absurd h (by decide), by decide +kernel⟩
set_option maxRecDepth 100000 in
theorem oDX7_reshuffle_0 : xdk cX7_reshuffle ((kX7_reshuffle_0.drop 0).take 40) = true := by decide +kernel
set_option maxRecDepth 100000 in
theorem oDX7_reshuffle_1 : xdk cX7_reshuffle ((kX7_reshuffle_0.drop 40).take 40) = true := by decide +kernel
set_option maxRecDepth 100000 in
theorem oTX7_reshuffle : okT (269, 7, 1, false, kX7_reshuffle_0) := ⟨by decide +kernel, rfl, rfl, fun h => absurd h (by decide), xdk_parts 2 (fun j hj => match j, hj with | 0, _ => oDX7_reshuffle_0 | 1, _ => oDX7_reshuffle_1 | j + 2, hj => absurd hj (by omega)) (by decide +kernel)⟩
set_option maxRecDepth 100000 in
theorem oTX7_leakOf : okT (270, 7, 1, false, kX7_leakOf_0) := ⟨by decide +kernel, rfl, rfl, fun h => absurd h (by decide), by decide +kernel⟩
set_option maxRecDepth 100000 in
theorem oDX7_leak_0 : xdk cX7_leak ((kX7_leak_0.drop 0).take 40) = true := by decide +kernel
set_option maxRecDepth 100000 in
theorem oDX7_leak_1 : xdk cX7_leak ((kX7_leak_0.drop 40).take 40) = true := by decide +kernel
set_option maxRecDepth 100000 in
theorem oTX7_leak : okT (271, 7, 1, false, kX7_leak_0) := ⟨by decide +kernel, rfl, rfl, fun h => absurd h (by decide), xdk_parts 2 (fun j hj => match j, hj with | 0, _ => oDX7_leak_0 | 1, _ => oDX7_leak_1 | j + 2, hj => absurd hj (by omega)) (by decide +kernel)⟩
set_option maxRecDepth 100000 in
theorem oTX7_isFit : okT (272, 7, 4, false, kX7_isFit_0) := ⟨by decide +kernel, rfl, rfl, fun h => absurd h (by decide), by decide +kernel⟩
set_option maxRecDepth 100000 in
theorem oTX7_fitting : okT (273, 7, 1, false, kX7_fitting_0) := ⟨by decide +kernel, rfl, rfl, fun h => absurd h (by decide), by decide +kernel⟩
set_option maxRecDepth 100000 in
theorem oTX7_extreme : okT (274, 7, 1, false, kX7_extreme_0) := ⟨by decide +kernel, rfl, rfl, fun h => absurd h (by decide), by decide +kernel⟩
set_option maxRecDepth 100000 in
theorem oTX7_rainyFit : okT (275, 7, 1, false, kX7_rainyFit_0) := ⟨by decide +kernel, rfl, rfl, fun h => absurd h (by decide), by decide +kernel⟩
set_option maxRecDepth 100000 in
theorem oDX7_fits_0 : xdk cX7_fits ((kX7_fits_0.drop 0).take 40) = true := by decide +kernel
set_option maxRecDepth 100000 in
theorem oDX7_fits_1 : xdk cX7_fits ((kX7_fits_0.drop 40).take 40) = true := by decide +kernel
set_option maxRecDepth 100000 in
theorem oDX7_fits_2 : xdk cX7_fits ((kX7_fits_0.drop 80).take 40) = true := by decide +kernel
set_option maxRecDepth 100000 in
theorem oDX7_fits_3 : xdk cX7_fits ((kX7_fits_0.drop 120).take 40) = true := by decide +kernel
set_option maxRecDepth 100000 in
theorem oTX7_fits : okT (276, 7, 1, false, kX7_fits_0) := ⟨by decide +kernel, rfl, rfl, fun h => absurd h (by decide), xdk_parts 4 (fun j hj => match j, hj with | 0, _ => oDX7_fits_0 | 1, _ => oDX7_fits_1 | 2, _ => oDX7_fits_2 | 3, _ => oDX7_fits_3 | j + 4, hj => absurd hj (by omega)) (by decide +kernel)⟩
set_option maxRecDepth 100000 in
theorem oTX7_below : okT (277, 7, 1, false, kX7_below_0) := ⟨by decide +kernel, rfl, rfl, fun h => absurd h (by decide), by decide +kernel⟩
set_option maxRecDepth 100000 in
theorem oTX7_thereAt : okT (278, 7, 1, false, kX7_thereAt_0) := ⟨by decide +kernel, rfl, rfl, fun h => absurd h (by decide), by decide +kernel⟩
set_option maxRecDepth 100000 in
theorem oDX7_drawn_0 : xdk cX7_drawn ((kX7_drawn_0.drop 0).take 40) = true := by decide +kernel
set_option maxRecDepth 100000 in
theorem oDX7_drawn_1 : xdk cX7_drawn ((kX7_drawn_0.drop 40).take 40) = true := by decide +kernel
set_option maxRecDepth 100000 in
theorem oDX7_drawn_2 : xdk cX7_drawn ((kX7_drawn_0.drop 80).take 40) = true := by decide +kernel
set_option maxRecDepth 100000 in
theorem oDX7_drawn_3 : xdk cX7_drawn ((kX7_drawn_0.drop 120).take 40) = true := by decide +kernel
set_option maxRecDepth 100000 in
theorem oTX7_drawn : okT (279, 7, 1, false, kX7_drawn_0) := ⟨by decide +kernel, rfl, rfl, fun h => absurd h (by decide), xdk_parts 4 (fun j hj => match j, hj with | 0, _ => oDX7_drawn_0 | 1, _ => oDX7_drawn_1 | 2, _ => oDX7_drawn_2 | 3, _ => oDX7_drawn_3 | j + 4, hj => absurd hj (by omega)) (by decide +kernel)⟩
set_option maxRecDepth 100000 in
theorem oTX7_count : okT (280, 7, 1, false, kX7_count_0) := ⟨by decide +kernel, rfl, rfl, fun h => absurd h (by decide), by decide +kernel⟩
set_option maxRecDepth 100000 in
theorem oTX7_image : okT (281, 7, 4, false, kX7_image_0) := ⟨by decide +kernel, rfl, rfl, fun h => absurd h (by decide), by decide +kernel⟩
set_option maxRecDepth 100000 in
theorem oTX7_again : okT (282, 7, 4, false, kX7_again_0) := ⟨by decide +kernel, rfl, rfl, fun h => absurd h (by decide), by decide +kernel⟩
set_option maxRecDepth 100000 in
theorem oTJ0_length_8abf5 : okT (283, 10, 1, false, kJ0_length_8abf5_0) := ⟨by decide +kernel, rfl, rfl, fun h => absurd h (by decide), by decide +kernel⟩
set_option maxRecDepth 100000 in
theorem oTJ0_isEmpty_aae02 : okT (284, 10, 4, false, kJ0_isEmpty_aae02_0) := ⟨by decide +kernel, rfl, rfl, fun h => absurd h (by decide), by decide +kernel⟩
set_option maxRecDepth 100000 in
theorem oTJ0_charAt_5068e : okT (285, 10, 5, false, kJ0_charAt_5068e_0) := ⟨by decide +kernel, rfl, rfl, fun h => absurd h (by decide), by decide +kernel⟩
set_option maxRecDepth 100000 in
theorem oTJ0_coder_7d493 : okT (286, 10, 6, false, kJ0_coder_7d493_0) := ⟨by decide +kernel, rfl, rfl, fun h => absurd h (by decide), by decide +kernel⟩
set_option maxRecDepth 100000 in
theorem oTJ0_isLatin1_aae02 : okT (287, 10, 4, false, kJ0_isLatin1_aae02_0) := ⟨by decide +kernel, rfl, rfl, fun h => absurd h (by decide), by decide +kernel⟩
set_option maxRecDepth 100000 in
theorem oTJ0_checkIndex_df160 : okT (288, 10, 0, false, kJ0_checkIndex_df160_0) := ⟨by decide +kernel, rfl, rfl, fun h => absurd h (by decide), by decide +kernel⟩
set_option maxRecDepth 100000 in
theorem oTJ1_charAt_3b067 : okT (289, 11, 5, false, kJ1_charAt_3b067_0) := ⟨by decide +kernel, rfl, rfl, fun h => absurd h (by decide), by decide +kernel⟩
set_option maxRecDepth 100000 in
theorem oTJ3_checkIndex_8e157 : okT (290, 13, 1, false, kJ3_checkIndex_8e157_0) := ⟨by decide +kernel, rfl, rfl, fun h => absurd h (by decide), by decide +kernel⟩
set_option maxRecDepth 100000 in
theorem oTJ6_bitCount_0f7a4 : okT (291, 16, 1, false, kJ6_bitCount_0f7a4_0) := ⟨by decide +kernel, rfl, rfl, fun h => absurd h (by decide), by decide +kernel⟩
set_option maxRecDepth 100000 in
theorem oTJ7_fill_53178 : okT (292, 17, 0, false, kJ7_fill_53178_0) := ⟨by decide +kernel, rfl, rfl, fun h => absurd h (by decide), by decide +kernel⟩
set_option maxRecDepth 100000 in
theorem oDL_law_0 : xdk cL_law ((kL_law_0.drop 0).take 40) = true := by decide +kernel
set_option maxRecDepth 100000 in
theorem oDL_law_1 : xdk cL_law ((kL_law_0.drop 40).take 40) = true := by decide +kernel
set_option maxRecDepth 100000 in
theorem oDL_law_2 : xdk cL_law ((kL_law_0.drop 80).take 40) = true := by decide +kernel
set_option maxRecDepth 100000 in
theorem oDL_law_3 : xdk cL_law ((kL_law_0.drop 120).take 40) = true := by decide +kernel
set_option maxRecDepth 100000 in
theorem oDL_law_4 : xdk cL_law ((kL_law_0.drop 160).take 40) = true := by decide +kernel
set_option maxRecDepth 100000 in
theorem oDL_law_5 : xdk cL_law ((kL_law_0.drop 200).take 40) = true := by decide +kernel
set_option maxRecDepth 100000 in
theorem oDL_law_6 : xdk cL_law ((kL_law_0.drop 240).take 40) = true := by decide +kernel
set_option maxRecDepth 100000 in
theorem oDL_law_7 : xdk cL_law ((kL_law_0.drop 280).take 40) = true := by decide +kernel
set_option maxRecDepth 100000 in
theorem oDL_law_8 : xdk cL_law ((kL_law_0.drop 320).take 40) = true := by decide +kernel
set_option maxRecDepth 100000 in
theorem oDL_law_9 : xdk cL_law ((kL_law_0.drop 360).take 40) = true := by decide +kernel
set_option maxRecDepth 100000 in
theorem oDL_law_10 : xdk cL_law ((kL_law_0.drop 400).take 40) = true := by decide +kernel
set_option maxRecDepth 100000 in
theorem oDL_law_11 : xdk cL_law ((kL_law_0.drop 440).take 40) = true := by decide +kernel
set_option maxRecDepth 100000 in
theorem oDL_law_12 : xdk cL_law ((kL_law_0.drop 480).take 40) = true := by decide +kernel
set_option maxRecDepth 100000 in
theorem oDL_law_13 : xdk cL_law ((kL_law_0.drop 520).take 40) = true := by decide +kernel
set_option maxRecDepth 100000 in
theorem oDL_law_14 : xdk cL_law ((kL_law_0.drop 560).take 40) = true := by decide +kernel
set_option maxRecDepth 100000 in
theorem oDL_law_15 : xdk cL_law ((kL_law_0.drop 600).take 40) = true := by decide +kernel
set_option maxRecDepth 100000 in
theorem oDL_law_16 : xdk cL_law ((kL_law_0.drop 640).take 40) = true := by decide +kernel
set_option maxRecDepth 100000 in
theorem oDL_law_17 : xdk cL_law ((kL_law_0.drop 680).take 40) = true := by decide +kernel
set_option maxRecDepth 100000 in
theorem oDL_law_18 : xdk cL_law ((kL_law_0.drop 720).take 40) = true := by decide +kernel
set_option maxRecDepth 100000 in
theorem oDL_law_19 : xdk cL_law ((kL_law_0.drop 760).take 40) = true := by decide +kernel
set_option maxRecDepth 100000 in
theorem oDL_law_20 : xdk cL_law ((kL_law_0.drop 800).take 40) = true := by decide +kernel
set_option maxRecDepth 100000 in
theorem oDL_law_21 : xdk cL_law ((kL_law_0.drop 840).take 40) = true := by decide +kernel
set_option maxRecDepth 100000 in
theorem oDL_law_22 : xdk cL_law ((kL_law_0.drop 880).take 40) = true := by decide +kernel
set_option maxRecDepth 100000 in
theorem oDL_law_23 : xdk cL_law ((kL_law_0.drop 920).take 40) = true := by decide +kernel
set_option maxRecDepth 100000 in
theorem oDL_law_24 : xdk cL_law ((kL_law_0.drop 960).take 40) = true := by decide +kernel
set_option maxRecDepth 100000 in
theorem oDL_law_25 : xdk cL_law ((kL_law_0.drop 1000).take 40) = true := by decide +kernel
set_option maxRecDepth 100000 in
theorem oDL_law_26 : xdk cL_law ((kL_law_0.drop 1040).take 40) = true := by decide +kernel
set_option maxRecDepth 100000 in
theorem oDL_law_27 : xdk cL_law ((kL_law_0.drop 1080).take 40) = true := by decide +kernel
set_option maxRecDepth 100000 in
theorem oDL_law_28 : xdk cL_law ((kL_law_0.drop 1120).take 40) = true := by decide +kernel
set_option maxRecDepth 100000 in
theorem oDL_law_29 : xdk cL_law ((kL_law_0.drop 1160).take 40) = true := by decide +kernel
set_option maxRecDepth 100000 in
theorem oDL_law_30 : xdk cL_law ((kL_law_0.drop 1200).take 40) = true := by decide +kernel
set_option maxRecDepth 100000 in
theorem oDL_law_31 : xdk cL_law ((kL_law_0.drop 1240).take 40) = true := by decide +kernel
set_option maxRecDepth 100000 in
theorem oTL_law : okT (293, 8, 4, false, kL_law_0) := ⟨by decide +kernel, rfl, rfl, fun h => absurd h (by decide), xdk_parts 32 (fun j hj => match j, hj with | 0, _ => oDL_law_0 | 1, _ => oDL_law_1 | 2, _ => oDL_law_2 | 3, _ => oDL_law_3 | 4, _ => oDL_law_4 | 5, _ => oDL_law_5 | 6, _ => oDL_law_6 | 7, _ => oDL_law_7 | 8, _ => oDL_law_8 | 9, _ => oDL_law_9 | 10, _ => oDL_law_10 | 11, _ => oDL_law_11 | 12, _ => oDL_law_12 | 13, _ => oDL_law_13 | 14, _ => oDL_law_14 | 15, _ => oDL_law_15 | 16, _ => oDL_law_16 | 17, _ => oDL_law_17 | 18, _ => oDL_law_18 | 19, _ => oDL_law_19 | 20, _ => oDL_law_20 | 21, _ => oDL_law_21 | 22, _ => oDL_law_22 | 23, _ => oDL_law_23 | 24, _ => oDL_law_24 | 25, _ => oDL_law_25 | 26, _ => oDL_law_26 | 27, _ => oDL_law_27 | 28, _ => oDL_law_28 | 29, _ => oDL_law_29 | 30, _ => oDL_law_30 | 31, _ => oDL_law_31 | j + 32, hj => absurd hj (by omega)) (by decide +kernel)⟩
set_option maxRecDepth 100000 in
theorem oTT0 : xall okT TT0 := And.intro oTX0_init (And.intro oTX0_open (And.intro oTX0_run (And.intro oTX0_happens (And.intro oTX0_takesOffice (And.intro oTX0_isDismissed (And.intro oTX0_isRecalled (And.intro oTX0_decide (And.intro oTX0_bear (And.intro oTX0_committee (And.intro oTX0_record (And.intro oTX0_draw (And.intro oTX0_drawMotion (And.intro oTX0_oneThere (And.intro oTX0_drawBelow (And.intro oTX1_init (And.intro oTX1_read (And.intro oTX1_startOn (And.intro oTX1_note (And.intro oTX1_refuse (And.intro oTX1_wordsOf (And.intro oTX1_formsOf (And.intro oTX1_readLine (And.intro oTX1_countLine (And.intro oTX1_readPart (And.intro oTX1_choicesOf (And.intro oTX1_readSemicolon (And.intro oTX1_readNumber (And.intro oTX1_leastOf (And.intro oTX1_mostOf (And.intro oTX1_take (And.intro oTX1_takeToldOf (And.intro oTX1_takeOrder (And.intro oTX1_chosen (And.intro oTX1_isToken (And.intro oTX1_startOf (And.intro oTX1_advance (And.intro oTX1_isBlank (And.intro oTX1_isLetter (And.intro oTX1_isDigit (And.intro oTX2_init (And.intro oTX2_clear (And.intro oTX2_copyRepublic (And.intro oTX2_takeLine (And.intro oTX2_addMinister (And.intro oTX2_setNumber (And.intro oTX2_isMinister (And.intro oTX2_everybody (And.intro oTX2_want (And.intro oTX2_distance (trivial))))))))))))))))))))))))))))))))))))))))))))))))))
set_option maxRecDepth 100000 in
theorem oTT1 : xall okT TT1 := And.intro oTX2_patience (And.intro oTX2_agreeing (And.intro oTX2_votesOf (And.intro oTX2_isPassed (And.intro oTX2_areSeats (And.intro oTX2_proposal (And.intro oTX3_init (And.intro oTX3_clear (And.intro oTX3_copyRows (And.intro oTX3_part (And.intro oTX3_set (And.intro oTX3_dayFrom (And.intro oTX3_add (And.intro oTX4_init (And.intro oTX4_settle (And.intro oTX4_can (And.intro oTX4_bring (And.intro oTX5_init (And.intro oTX5_republicKept (And.intro oTX5_rowsKept (And.intro oTX5_copyTold (And.intro oTX6_init (And.intro oTX6_feed (And.intro oTX6_feedNumber (And.intro oTX6_end (And.intro oTX6_text (And.intro oTX6_placeFor (And.intro oTX6_keep (And.intro oTX6_fault (And.intro oTX6_count (And.intro oTX6_image (And.intro oTX6_again (And.intro oTX6_republicAt (And.intro oTX6_rowsAt (And.intro oTX6_republic (And.intro oTX6_minister (And.intro oTX6_order (And.intro oTX6_deed (And.intro oTX6_leak (And.intro oTX6_was (And.intro oTX6_rowTold (And.intro oTX6_movedIn (And.intro oTX6_off (And.intro oTX6_vote (And.intro oTX6_broken (And.intro oTX6_firstBroken (And.intro oTX6_isBroken (And.intro oTX6_stop (And.intro oTX6_state (And.intro oTX6_stateTold (trivial))))))))))))))))))))))))))))))))))))))))))))))))))
set_option maxRecDepth 100000 in
theorem oTT2 : xall okT TT2 := And.intro oTX6_drawn (And.intro oTX6_agreed (And.intro oTX6_isAgreed (And.intro oTX6_manyAgreed (And.intro oTX6_bestAgreed (And.intro oTX6_rank (And.intro oTX6_power (And.intro oTX6_rowsDecided (And.intro oTX6_coalition (And.intro oTX6_keyMinisters (And.intro oTX6_leastCoalition (And.intro oTX6_isLeastCoalition (And.intro oTX6_bribe (And.intro oTX6_bribeOf (And.intro oTX6_lobby (And.intro oTX6_isRest (And.intro oTX6_gain (And.intro oTX6_boughtBy (And.intro oTX6_bargain (And.intro oTX6_leavers (And.intro oTX6_sharesOf (And.intro oTX6_nature (And.intro oTX6_firstWrong (And.intro oTX6_mend (And.intro oTX6_seats (And.intro oTX6_findFitting (And.intro oTX6_isFit (And.intro oTX6_tellingSeason (And.intro oTX6_unlikeProposals (And.intro oTX6_reshuffle (And.intro oTX6_wetSeasons (And.intro oTX6_fits (And.intro oTX6_areThere (And.intro oTX6_unfit (And.intro oTX6_manyFitting (And.intro oTX6_likelyRain (And.intro oTX6_extreme (And.intro oTX6_lies (And.intro oTX6_isSeason (And.intro oTX6_isAmount (And.intro oTX6_dayOf (And.intro oTX6_numberOf (And.intro oTX6_amount (And.intro oTX6_has (And.intro oTX6_cell (And.intro oTX6_put (And.intro oTX6_copy (And.intro oTX6_fraction (And.intro oTX6_commonDivisor (And.intro oTX7_init (trivial))))))))))))))))))))))))))))))))))))))))))))))))))
set_option maxRecDepth 100000 in
theorem oTT3 : xall okT TT3 := And.intro oTX7_isIn (And.intro oTX7_feed (And.intro oTX7_end (And.intro oTX7_byteAt (And.intro oTX7_isLetter (And.intro oTX7_isDigit (And.intro oTX7_four (And.intro oTX7_eight (And.intro oTX7_wordOf (And.intro oTX7_kindOrSeason (And.intro oTX7_otherWord (And.intro oTX7_advance (And.intro oTX7_ends (And.intro oTX7_also (And.intro oTX7_numbered (And.intro oTX7_takes (And.intro oTX7_endsLine (And.intro oTX7_kindTold (And.intro oTX7_seasonTold (And.intro oTX7_ministerTold (And.intro oTX7_ministerLine (And.intro oTX7_wantLine (And.intro oTX7_feudLine (And.intro oTX7_republicLine (And.intro oTX7_adds (And.intro oTX7_noLine (And.intro oTX7_orderLine (And.intro oTX7_yearLine (And.intro oTX7_leakLine (And.intro oTX7_summerLine (And.intro oTX7_bargainLine (And.intro oTX7_placeOf (And.intro oTX7_sizeOf (And.intro oTX7_isOf (And.intro oTX7_clears (And.intro oTX7_text (And.intro oTX7_fault (And.intro oTX7_isRepublic (And.intro oTX7_of (And.intro oTX7_ministers (And.intro oTX7_isMinister (And.intro oTX7_ofMinister (And.intro oTX7_wants (And.intro oTX7_republic (And.intro oTX7_minister (And.intro oTX7_amountOf (And.intro oTX7_talksOf (And.intro oTX7_size (And.intro oTX7_offOf (And.intro oTX7_yields (trivial))))))))))))))))))))))))))))))))))))))))))))))))))
set_option maxRecDepth 100000 in
theorem oTT4 : xall okT TT4 := And.intro oTX7_agrees (And.intro oTX7_agreeing (And.intro oTX7_votesOf (And.intro oTX7_vetoes (And.intro oTX7_isPassed (And.intro oTX7_areAmounts (And.intro oTX7_isMotion (And.intro oTX7_off (And.intro oTX7_vote (And.intro oTX7_areOrders (And.intro oTX7_orderOf (And.intro oTX7_order (And.intro oTX7_amount (And.intro oTX7_isBroken (And.intro oTX7_firstBroken (And.intro oTX7_broken (And.intro oTX7_begins (And.intro oTX7_canNature (And.intro oTX7_goes (And.intro oTX7_committee (And.intro oTX7_angers (And.intro oTX7_moves (And.intro oTX7_deeds (And.intro oTX7_deedOf (And.intro oTX7_deed (And.intro oTX7_isThere (And.intro oTX7_can (And.intro oTX7_does (And.intro oTX7_areTold (And.intro oTX7_runs (And.intro oTX7_stop (And.intro oTX7_state (And.intro oTX7_isAgreed (And.intro oTX7_rank (And.intro oTX7_agreed (And.intro oTX7_common (And.intro oTX7_part (And.intro oTX7_factorial (And.intro oTX7_bits (And.intro oTX7_everybody (And.intro oTX7_isEnough (And.intro oTX7_power (And.intro oTX7_key (And.intro oTX7_isLeast (And.intro oTX7_coalition (And.intro oTX7_costOf (And.intro oTX7_bribe (And.intro oTX7_priceOf (And.intro oTX7_gainOf (And.intro oTX7_isRest (trivial))))))))))))))))))))))))))))))))))))))))))))))))))
set_option maxRecDepth 100000 in
theorem oTT5 : xall okT TT5 := And.intro oTX7_lobby (And.intro oTX7_bargain (And.intro oTX7_isSummer (And.intro oTX7_summerDays (And.intro oTX7_dayOf (And.intro oTX7_numberOf (And.intro oTX7_was (And.intro oTX7_wrongDay (And.intro oTX7_isHeatRight (And.intro oTX7_cloudAfter (And.intro oTX7_mends (And.intro oTX7_fallsOn (And.intro oTX7_nature (And.intro oTX7_areSeats (And.intro oTX7_proposal (And.intro oTX7_isSat (And.intro oTX7_unlike (And.intro oTX7_seats (And.intro oTX7_rainy (And.intro oTX7_reshuffle (And.intro oTX7_leakOf (And.intro oTX7_leak (And.intro oTX7_isFit (And.intro oTX7_fitting (And.intro oTX7_extreme (And.intro oTX7_rainyFit (And.intro oTX7_fits (And.intro oTX7_below (And.intro oTX7_thereAt (And.intro oTX7_drawn (And.intro oTX7_count (And.intro oTX7_image (And.intro oTX7_again (And.intro oTJ0_length_8abf5 (And.intro oTJ0_isEmpty_aae02 (And.intro oTJ0_charAt_5068e (And.intro oTJ0_coder_7d493 (And.intro oTJ0_isLatin1_aae02 (And.intro oTJ0_checkIndex_df160 (And.intro oTJ1_charAt_3b067 (And.intro oTJ3_checkIndex_8e157 (And.intro oTJ6_bitCount_0f7a4 (And.intro oTJ7_fill_53178 (And.intro oTL_law (trivial))))))))))))))))))))))))))))))))))))))))))))
theorem oTT : xall okT TT := xall_app oTT0 (xall_app oTT1 (xall_app oTT2 (xall_app oTT3 (xall_app oTT4 (oTT5)))))
