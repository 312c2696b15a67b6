def kX0_init_0 : XC := (0, .aload_n 0) :: (1, .invokespecial 3) :: (4, .aload_n 0) :: (5, .new 9) :: (8, .dup) :: (9, .invokespecial 11) :: (12, .putfield 12) :: (15, .aload_n 0) :: (16, .bipush 6) :: (18, .newarray .int) :: (20, .putfield 18) :: (23, .aload_n 0) :: (24, .iconst 3) :: (25, .newarray .int) :: (27, .putfield 22) :: (30, .return_) :: []
def kX0_open_0 : XC := (0, .aload_n 0) :: (1, .getfield 12) :: (4, .aload_n 1) :: (5, .invokevirtual 25) :: (8, .aload_n 0) :: (9, .iconst 0) :: (10, .putfield 29) :: (13, .aload_n 0) :: (14, .aload_n 1) :: (15, .invokevirtual 33) :: (18, .putfield 39) :: (21, .aload_n 0) :: (22, .iconst 0) :: (23, .putfield 42) :: (26, .aload_n 0) :: (27, .getfield 18) :: (30, .iconst 0) :: (31, .invokestatic 45) :: (34, .aload_n 1) :: (35, .getfield 51) :: (38, .aload_n 0) :: (39, .getfield 22) :: (42, .invokestatic 52) :: (45, .aload_n 0) :: (46, .iconst 0) :: (47, .putfield 56) :: (50, .aload_n 0) :: (51, .iconst 0) :: (52, .putfield 59) :: (55, .aload_n 0) :: (56, .iconst (-1)) :: (57, .putfield 62) :: (60, .aload_n 0) :: (61, .iconst 0) :: (62, .putfield 65) :: (65, .aload_n 0) :: (66, .iconst 0) :: (67, .putfield 68) :: (70, .aload_n 0) :: (71, .iconst 0) :: (72, .putfield 71) :: (75, .return_) :: []
def kX0_run_36 : XC := (36, .iload 4) :: (38, .ireturn) :: []
def kX0_run_30 : XC := (30, .iinc 5 1) :: (33, .goto (-25)) :: kX0_run_36
def kX0_run_27 : XC := (27, .iload 5) :: (29, .ireturn) :: kX0_run_30
def kX0_run_15 : XC := (15, .aload_n 0) :: (16, .aload_n 1) :: (17, .aload_n 2) :: (18, .aload_n 3) :: (19, .iload 5) :: (21, .invokevirtual 77) :: (24, .ifCond .ne 6) :: kX0_run_27
def kX0_run_8 : XC := (8, .iload 5) :: (10, .iload 4) :: (12, .if_icmp .ge 24) :: kX0_run_15
def kX0_run_0 : XC := (0, .aload_n 0) :: (1, .aload_n 1) :: (2, .invokevirtual 74) :: (5, .iconst 0) :: (6, .istore 5) :: kX0_run_8
def kX0_happens_163 : XC := (163, .iconst 0) :: (164, .ireturn) :: []
def kX0_happens_157 : XC := (157, .aload_n 0) :: (158, .invokevirtual 116) :: (161, .iconst 1) :: (162, .ireturn) :: kX0_happens_163
def kX0_happens_149 : XC := (149, .aload_n 0) :: (150, .aload_n 1) :: (151, .iload 5) :: (153, .invokevirtual 112) :: (156, .ireturn) :: kX0_happens_157
def kX0_happens_142 : XC := (142, .aload_n 0) :: (143, .iload 5) :: (145, .invokevirtual 109) :: (148, .ireturn) :: kX0_happens_149
def kX0_happens_128 : XC := (128, .aload_n 0) :: (129, .iload 5) :: (131, .aload_n 3) :: (132, .iload 4) :: (134, .iconst 2) :: (135, .invokevirtual 81) :: (138, .invokevirtual 106) :: (141, .ireturn) :: kX0_happens_142
def kX0_happens_120 : XC := (120, .aload_n 0) :: (121, .iload 5) :: (123, .putfield 29) :: (126, .iconst 1) :: (127, .ireturn) :: kX0_happens_128
def kX0_happens_109 : XC := (109, .aload_n 0) :: (110, .aload_n 1) :: (111, .iload 5) :: (113, .iload 6) :: (115, .invokevirtual 102) :: (118, .iconst 1) :: (119, .ireturn) :: kX0_happens_120
def kX0_happens_107 : XC := (107, .iconst 0) :: (108, .ireturn) :: kX0_happens_109
def kX0_happens_89 : XC := (89, .aload_n 2) :: (90, .aload_n 0) :: (91, .getfield 29) :: (94, .iload 6) :: (96, .aload_n 0) :: (97, .getfield 62) :: (100, .invokestatic 98) :: (103, .iconst (-1)) :: (104, .if_icmp .eq 5) :: kX0_happens_107
def kX0_happens_77 : XC := (77, .aload_n 0) :: (78, .getfield 12) :: (81, .iload 6) :: (83, .invokevirtual 94) :: (86, .ifCond .eq 21) :: kX0_happens_89
def kX0_happens_56 : XC := (56, .aload_n 3) :: (57, .iload 4) :: (59, .iconst 2) :: (60, .invokevirtual 87) :: (63, .istore 6) :: (65, .aload_n 0) :: (66, .getfield 39) :: (69, .iload 5) :: (71, .invokestatic 90) :: (74, .ifCond .eq 33) :: kX0_happens_77
def kX0_happens_16 : XC := (16, .tableswitch 147 0 5 #[40, 104, 112, 126, 133, 141]) :: kX0_happens_56
def kX0_happens_0 : XC := (0, .aload_n 3) :: (1, .iload 4) :: (3, .iconst 1) :: (4, .invokevirtual 81) :: (7, .istore 5) :: (9, .aload_n 3) :: (10, .iload 4) :: (12, .iconst 0) :: (13, .invokevirtual 81) :: kX0_happens_16
def kX0_takesOffice_22 : XC := (22, .iload_n 3) :: (23, .ireturn) :: []
def kX0_takesOffice_13 : XC := (13, .aload_n 0) :: (14, .getfield 22) :: (17, .iload_n 1) :: (18, .iload_n 2) :: (19, .invokestatic 119) :: kX0_takesOffice_22
def kX0_takesOffice_0 : XC := (0, .aload_n 0) :: (1, .getfield 39) :: (4, .iload_n 2) :: (5, .invokestatic 90) :: (8, .istore_n 3) :: (9, .iload_n 3) :: (10, .ifCond .eq 12) :: kX0_takesOffice_13
def kX0_isDismissed_27 : XC := (27, .iload_n 2) :: (28, .ireturn) :: []
def kX0_isDismissed_13 : XC := (13, .aload_n 0) :: (14, .dup) :: (15, .getfield 39) :: (18, .iconst 1) :: (19, .iload_n 1) :: (20, .ishl) :: (21, .iconst (-1)) :: (22, .ixor) :: (23, .iand) :: (24, .putfield 39) :: kX0_isDismissed_27
def kX0_isDismissed_0 : XC := (0, .aload_n 0) :: (1, .getfield 39) :: (4, .iload_n 1) :: (5, .invokestatic 90) :: (8, .istore_n 2) :: (9, .iload_n 2) :: (10, .ifCond .eq 17) :: kX0_isDismissed_13
def kX0_isRecalled_50 : XC := (50, .iload_n 3) :: (51, .ireturn) :: []
def kX0_isRecalled_29 : XC := (29, .aload_n 0) :: (30, .dup) :: (31, .getfield 39) :: (34, .iconst 1) :: (35, .iload_n 2) :: (36, .ishl) :: (37, .ior) :: (38, .putfield 39) :: (41, .aload_n 0) :: (42, .getfield 18) :: (45, .iload_n 2) :: (46, .iconst 0) :: (47, .invokestatic 119) :: kX0_isRecalled_50
def kX0_isRecalled_24 : XC := (24, .istore_n 3) :: (25, .iload_n 3) :: (26, .ifCond .eq 24) :: kX0_isRecalled_29
def kX0_isRecalled_23 : XC := (23, .iconst 0) :: kX0_isRecalled_24
def kX0_isRecalled_19 : XC := (19, .iconst 1) :: (20, .goto 4) :: kX0_isRecalled_23
def kX0_isRecalled_8 : XC := (8, .aload_n 0) :: (9, .getfield 39) :: (12, .iload_n 2) :: (13, .invokestatic 90) :: (16, .ifCond .ne 7) :: kX0_isRecalled_19
def kX0_isRecalled_0 : XC := (0, .aload_n 1) :: (1, .iload_n 2) :: (2, .invokevirtual 123) :: (5, .ifCond .eq 18) :: kX0_isRecalled_8
def kX0_decide_81 : XC := (81, .return_) :: []
def kX0_decide_77 : XC := (77, .aload_n 0) :: (78, .invokevirtual 116) :: kX0_decide_81
def kX0_decide_74 : XC := (74, .goto 7) :: kX0_decide_77
def kX0_decide_68 : XC := (68, .iinc 5 1) :: (71, .goto (-38)) :: kX0_decide_74
def kX0_decide_54 : XC := (54, .aload_n 0) :: (55, .aload_n 1) :: (56, .iload 5) :: (58, .iload 4) :: (60, .iload 5) :: (62, .invokestatic 90) :: (65, .invokevirtual 140) :: kX0_decide_68
def kX0_decide_42 : XC := (42, .aload_n 0) :: (43, .getfield 39) :: (46, .iload 5) :: (48, .invokestatic 90) :: (51, .ifCond .eq 17) :: kX0_decide_54
def kX0_decide_33 : XC := (33, .iload 5) :: (35, .aload_n 1) :: (36, .getfield 137) :: (39, .if_icmp .ge 35) :: kX0_decide_42
def kX0_decide_25 : XC := (25, .aload_n 0) :: (26, .iload_n 3) :: (27, .invokevirtual 133) :: (30, .iconst 0) :: (31, .istore 5) :: kX0_decide_33
def kX0_decide_0 : XC := (0, .aload_n 1) :: (1, .iload_n 2) :: (2, .aload_n 0) :: (3, .getfield 29) :: (6, .iload_n 3) :: (7, .invokevirtual 126) :: (10, .istore 4) :: (12, .aload_n 1) :: (13, .aload_n 0) :: (14, .getfield 39) :: (17, .iload 4) :: (19, .invokevirtual 130) :: (22, .ifCond .eq 55) :: kX0_decide_25
def kX0_bear_78 : XC := (78, .return_) :: []
def kX0_bear_52 : XC := (52, .aload_n 0) :: (53, .dup) :: (54, .getfield 42) :: (57, .iconst 1) :: (58, .iload_n 2) :: (59, .ishl) :: (60, .ior) :: (61, .putfield 42) :: (64, .aload_n 0) :: (65, .dup) :: (66, .getfield 39) :: (69, .iconst 1) :: (70, .iload_n 2) :: (71, .ishl) :: (72, .iconst (-1)) :: (73, .ixor) :: (74, .iand) :: (75, .putfield 39) :: kX0_bear_78
def kX0_bear_45 : XC := (45, .iload 4) :: (47, .iload 5) :: (49, .if_icmp .lt 29) :: kX0_bear_52
def kX0_bear_18 : XC := (18, .istore 4) :: (20, .aload_n 1) :: (21, .getfield 148) :: (24, .iload_n 2) :: (25, .invokestatic 144) :: (28, .istore 5) :: (30, .aload_n 0) :: (31, .getfield 18) :: (34, .iload_n 2) :: (35, .iload 4) :: (37, .invokestatic 119) :: (40, .iload 5) :: (42, .ifCond .le 36) :: kX0_bear_45
def kX0_bear_8 : XC := (8, .aload_n 0) :: (9, .getfield 18) :: (12, .iload_n 2) :: (13, .invokestatic 144) :: (16, .iconst 1) :: (17, .iadd) :: kX0_bear_18
def kX0_bear_4 : XC := (4, .iconst 0) :: (5, .goto 13) :: kX0_bear_8
def kX0_bear_0 : XC := (0, .iload_n 3) :: (1, .ifCond .eq 7) :: kX0_bear_4
def kX0_committee_0 : XC := (0, .aload_n 0) :: (1, .dup) :: (2, .getfield 59) :: (5, .iconst 1) :: (6, .iadd) :: (7, .putfield 59) :: (10, .aload_n 0) :: (11, .aload_n 0) :: (12, .getfield 12) :: (15, .getfield 151) :: (18, .iconst 1) :: (19, .invokestatic 154) :: (22, .iconst 0) :: (23, .iconst 0) :: (24, .invokestatic 159) :: (27, .invokevirtual 133) :: (30, .return_) :: []
def kX0_record_56 : XC := (56, .putfield 71) :: (59, .aload_n 0) :: (60, .aload_n 0) :: (61, .getfield 68) :: (64, .aload_n 0) :: (65, .getfield 71) :: (68, .invokestatic 168) :: (71, .putfield 68) :: (74, .return_) :: []
def kX0_record_55 : XC := (55, .iconst 0) :: kX0_record_56
def kX0_record_46 : XC := (46, .aload_n 0) :: (47, .getfield 71) :: (50, .iconst 1) :: (51, .iadd) :: (52, .goto 4) :: kX0_record_55
def kX0_record_0 : XC := (0, .aload_n 0) :: (1, .getfield 12) :: (4, .iload_n 1) :: (5, .invokevirtual 162) :: (8, .aload_n 0) :: (9, .dup) :: (10, .getfield 56) :: (13, .iconst 1) :: (14, .iadd) :: (15, .putfield 56) :: (18, .aload_n 0) :: (19, .iload_n 1) :: (20, .putfield 62) :: (23, .aload_n 0) :: (24, .dup) :: (25, .getfield 65) :: (28, .iload_n 1) :: (29, .iconst 0) :: (30, .invokestatic 165) :: (33, .iadd) :: (34, .putfield 65) :: (37, .aload_n 0) :: (38, .iload_n 1) :: (39, .iconst 0) :: (40, .invokestatic 165) :: (43, .ifCond .ne 12) :: kX0_record_46
def kX0_draw_54 : XC := (54, .return_) :: []
def kX0_draw_48 : XC := (48, .iinc 4 1) :: (51, .goto (-38)) :: kX0_draw_54
def kX0_draw_43 : XC := (43, .aload_n 0) :: (44, .aload_n 1) :: (45, .invokevirtual 174) :: kX0_draw_48
def kX0_draw_36 : XC := (36, .aload_n 0) :: (37, .invokevirtual 116) :: (40, .goto 8) :: kX0_draw_43
def kX0_draw_19 : XC := (19, .aload_n 0) :: (20, .iload 4) :: (22, .iconst 5) :: (23, .idiv) :: (24, .iconst 4) :: (25, .irem) :: (26, .putfield 29) :: (29, .aload_n 0) :: (30, .getfield 39) :: (33, .ifCond .ne 10) :: kX0_draw_36
def kX0_draw_13 : XC := (13, .iload 4) :: (15, .iload_n 3) :: (16, .if_icmp .ge 38) :: kX0_draw_19
def kX0_draw_0 : XC := (0, .aload_n 0) :: (1, .aload_n 1) :: (2, .invokevirtual 74) :: (5, .aload_n 0) :: (6, .iload_n 2) :: (7, .putfield 171) :: (10, .iconst 0) :: (11, .istore 4) :: kX0_draw_13
def kX0_drawMotion_76 : XC := (76, .return_) :: []
def kX0_drawMotion_72 : XC := (72, .aload_n 0) :: (73, .invokevirtual 116) :: kX0_drawMotion_76
def kX0_drawMotion_61 : XC := (61, .aload_n 0) :: (62, .aload_n 1) :: (63, .iload_n 2) :: (64, .iload 6) :: (66, .invokevirtual 102) :: (69, .goto 7) :: kX0_drawMotion_72
def kX0_drawMotion_0 : XC := (0, .aload_n 0) :: (1, .aload_n 0) :: (2, .aload_n 0) :: (3, .getfield 39) :: (6, .invokestatic 177) :: (9, .invokevirtual 183) :: (12, .invokevirtual 186) :: (15, .istore_n 2) :: (16, .aload_n 0) :: (17, .bipush 10) :: (19, .invokevirtual 183) :: (22, .istore_n 3) :: (23, .aload_n 0) :: (24, .bipush 10) :: (26, .invokevirtual 183) :: (29, .istore 4) :: (31, .aload_n 0) :: (32, .bipush 10) :: (34, .invokevirtual 183) :: (37, .istore 5) :: (39, .iload_n 3) :: (40, .iload 4) :: (42, .iload 5) :: (44, .invokestatic 159) :: (47, .istore 6) :: (49, .aload_n 0) :: (50, .getfield 12) :: (53, .iload 6) :: (55, .invokevirtual 94) :: (58, .ifCond .eq 14) :: kX0_drawMotion_61
def kX0_oneThere_37 : XC := (37, .iconst (-1)) :: (38, .ireturn) :: []
def kX0_oneThere_31 : XC := (31, .iinc 3 1) :: (34, .goto (-30)) :: kX0_oneThere_37
def kX0_oneThere_28 : XC := (28, .iinc 2 1) :: kX0_oneThere_31
def kX0_oneThere_26 : XC := (26, .iload_n 3) :: (27, .ireturn) :: kX0_oneThere_28
def kX0_oneThere_21 : XC := (21, .iload_n 2) :: (22, .iload_n 1) :: (23, .if_icmp .ne 5) :: kX0_oneThere_26
def kX0_oneThere_10 : XC := (10, .aload_n 0) :: (11, .getfield 39) :: (14, .iload_n 3) :: (15, .invokestatic 90) :: (18, .ifCond .eq 13) :: kX0_oneThere_21
def kX0_oneThere_4 : XC := (4, .iload_n 3) :: (5, .bipush 6) :: (7, .if_icmp .ge 30) :: kX0_oneThere_10
def kX0_oneThere_0 : XC := (0, .iconst 0) :: (1, .istore_n 2) :: (2, .iconst 0) :: (3, .istore_n 3) :: kX0_oneThere_4
def kX0_drawBelow_32 : XC := (32, .ireturn) :: []
def kX0_drawBelow_31 : XC := (31, .iconst 0) :: kX0_drawBelow_32
def kX0_drawBelow_19 : XC := (19, .aload_n 0) :: (20, .getfield 171) :: (23, .bipush 16) :: (25, .iushr) :: (26, .iload_n 1) :: (27, .irem) :: (28, .goto 4) :: kX0_drawBelow_31
def kX0_drawBelow_0 : XC := (0, .aload_n 0) :: (1, .aload_n 0) :: (2, .getfield 171) :: (5, .ldc 189) :: (7, .imul) :: (8, .sipush 12345) :: (11, .iadd) :: (12, .putfield 171) :: (15, .iload_n 1) :: (16, .ifCond .le 15) :: kX0_drawBelow_19
def kX1_init_0 : XC := (0, .aload_n 0) :: (1, .invokespecial 3) :: (4, .aload_n 0) :: (5, .new 9) :: (8, .dup) :: (9, .invokespecial 11) :: (12, .putfield 12) :: (15, .aload_n 0) :: (16, .new 18) :: (19, .dup) :: (20, .invokespecial 20) :: (23, .putfield 21) :: (26, .aload_n 0) :: (27, .sipush 600) :: (30, .newarray .int) :: (32, .putfield 25) :: (35, .aload_n 0) :: (36, .iconst 5) :: (37, .newarray .int) :: (39, .putfield 29) :: (42, .return_) :: []
def kX1_read_80 : XC := (80, .return_) :: []
def kX1_read_71 : XC := (71, .aload_n 0) :: (72, .iconst 4) :: (73, .aload_n 0) :: (74, .getfield 54) :: (77, .invokevirtual 57) :: kX1_read_80
def kX1_read_56 : XC := (56, .aload_n 0) :: (57, .getfield 48) :: (60, .aload_n 0) :: (61, .getfield 12) :: (64, .getfield 51) :: (67, .ishr) :: (68, .ifCond .eq 12) :: kX1_read_71
def kX1_read_52 : XC := (52, .iload_n 3) :: (53, .ifCond .ne 27) :: kX1_read_56
def kX1_read_39 : XC := (39, .aload_n 0) :: (40, .iload_n 3) :: (41, .invokevirtual 44) :: (44, .istore 4) :: (46, .iinc 5 1) :: (49, .goto (-30)) :: kX1_read_52
def kX1_read_32 : XC := (32, .aload_n 0) :: (33, .getfield 40) :: (36, .ifCond .eq 16) :: kX1_read_39
def kX1_read_27 : XC := (27, .iload 4) :: (29, .ifCond .eq 23) :: kX1_read_32
def kX1_read_19 : XC := (19, .iload 5) :: (21, .sipush 600) :: (24, .if_icmp .ge 28) :: kX1_read_27
def kX1_read_0 : XC := (0, .aload_n 1) :: (1, .aload_n 0) :: (2, .getfield 25) :: (5, .invokestatic 32) :: (8, .aload_n 0) :: (9, .iload_n 2) :: (10, .invokevirtual 36) :: (13, .iconst 1) :: (14, .istore 4) :: (16, .iconst 0) :: (17, .istore 5) :: kX1_read_19
def kX1_startOn_0 : XC := (0, .aload_n 0) :: (1, .getfield 12) :: (4, .invokevirtual 61) :: (7, .aload_n 0) :: (8, .getfield 21) :: (11, .invokevirtual 64) :: (14, .aload_n 0) :: (15, .iconst 0) :: (16, .putfield 65) :: (19, .aload_n 0) :: (20, .iconst (-1)) :: (21, .putfield 68) :: (24, .aload_n 0) :: (25, .iload_n 1) :: (26, .putfield 54) :: (29, .aload_n 0) :: (30, .iconst 0) :: (31, .putfield 71) :: (34, .aload_n 0) :: (35, .iconst 0) :: (36, .putfield 74) :: (39, .aload_n 0) :: (40, .iconst 0) :: (41, .putfield 48) :: (44, .aload_n 0) :: (45, .invokevirtual 77) :: (48, .return_) :: []
def kX1_note_22 : XC := (22, .return_) :: []
def kX1_note_12 : XC := (12, .aload_n 0) :: (13, .iload_n 1) :: (14, .putfield 65) :: (17, .aload_n 0) :: (18, .iload_n 2) :: (19, .putfield 68) :: kX1_note_22
def kX1_note_7 : XC := (7, .iload_n 1) :: (8, .iconst 1) :: (9, .if_icmp .ne 13) :: kX1_note_12
def kX1_note_0 : XC := (0, .aload_n 0) :: (1, .getfield 65) :: (4, .ifCond .eq 8) :: kX1_note_7
def kX1_refuse_0 : XC := (0, .aload_n 0) :: (1, .iconst 1) :: (2, .aload_n 0) :: (3, .getfield 80) :: (6, .invokevirtual 57) :: (9, .iconst 0) :: (10, .ireturn) :: []
def kX1_wordsOf_58 : XC := (58, .ldc 95) :: (60, .areturn) :: []
def kX1_wordsOf_55 : XC := (55, .ldc 93) :: (57, .areturn) :: kX1_wordsOf_58
def kX1_wordsOf_52 : XC := (52, .ldc 91) :: (54, .areturn) :: kX1_wordsOf_55
def kX1_wordsOf_49 : XC := (49, .ldc 89) :: (51, .areturn) :: kX1_wordsOf_52
def kX1_wordsOf_46 : XC := (46, .ldc 87) :: (48, .areturn) :: kX1_wordsOf_49
def kX1_wordsOf_43 : XC := (43, .ldc 85) :: (45, .areturn) :: kX1_wordsOf_46
def kX1_wordsOf_40 : XC := (40, .ldc 83) :: (42, .areturn) :: kX1_wordsOf_43
def kX1_wordsOf_1 : XC := (1, .tableswitch 57 0 5 #[39, 42, 45, 48, 51, 54]) :: kX1_wordsOf_40
def kX1_wordsOf_0 : XC := (0, .iload_n 0) :: kX1_wordsOf_1
def kX1_formsOf_58 : XC := (58, .ldc 95) :: (60, .areturn) :: []
def kX1_formsOf_55 : XC := (55, .ldc 107) :: (57, .areturn) :: kX1_formsOf_58
def kX1_formsOf_52 : XC := (52, .ldc 105) :: (54, .areturn) :: kX1_formsOf_55
def kX1_formsOf_49 : XC := (49, .ldc 103) :: (51, .areturn) :: kX1_formsOf_52
def kX1_formsOf_46 : XC := (46, .ldc 101) :: (48, .areturn) :: kX1_formsOf_49
def kX1_formsOf_43 : XC := (43, .ldc 99) :: (45, .areturn) :: kX1_formsOf_46
def kX1_formsOf_40 : XC := (40, .ldc 97) :: (42, .areturn) :: kX1_formsOf_43
def kX1_formsOf_1 : XC := (1, .tableswitch 57 0 5 #[39, 42, 45, 48, 51, 54]) :: kX1_formsOf_40
def kX1_formsOf_0 : XC := (0, .iload_n 0) :: kX1_formsOf_1
def kX1_readLine_114 : XC := (114, .iconst 1) :: (115, .ireturn) :: []
def kX1_readLine_108 : XC := (108, .aload_n 0) :: (109, .iload_n 1) :: (110, .iload_n 2) :: (111, .invokevirtual 150) :: kX1_readLine_114
def kX1_readLine_101 : XC := (101, .aload_n 0) :: (102, .getfield 65) :: (105, .ifCond .ne 9) :: kX1_readLine_108
def kX1_readLine_92 : XC := (92, .iinc 4 1) :: (95, .iinc 5 1) :: (98, .goto (-46)) :: kX1_readLine_101
def kX1_readLine_87 : XC := (87, .aload_n 0) :: (88, .invokevirtual 117) :: (91, .ireturn) :: kX1_readLine_92
def kX1_readLine_72 : XC := (72, .aload_n 0) :: (73, .aload_n 3) :: (74, .iload 5) :: (76, .invokevirtual 142) :: (79, .iload 4) :: (81, .invokevirtual 146) :: (84, .ifCond .ne 8) :: kX1_readLine_87
def kX1_readLine_61 : XC := (61, .aload_n 3) :: (62, .iload 5) :: (64, .invokevirtual 142) :: (67, .bipush 32) :: (69, .if_icmp .eq 32) :: kX1_readLine_72
def kX1_readLine_52 : XC := (52, .iload 5) :: (54, .aload_n 3) :: (55, .invokevirtual 137) :: (58, .if_icmp .ge 43) :: kX1_readLine_61
def kX1_readLine_19 : XC := (19, .aload_n 0) :: (20, .iload_n 1) :: (21, .iload_n 2) :: (22, .invokevirtual 121) :: (25, .aload_n 0) :: (26, .invokevirtual 77) :: (29, .aload_n 0) :: (30, .getfield 29) :: (33, .iconst (-1)) :: (34, .invokestatic 124) :: (37, .iload_n 1) :: (38, .invokestatic 130) :: (41, .astore_n 3) :: (42, .iconst 0) :: (43, .istore 4) :: (45, .aload_n 3) :: (46, .iload_n 2) :: (47, .invokestatic 133) :: (50, .istore 5) :: kX1_readLine_52
def kX1_readLine_14 : XC := (14, .aload_n 0) :: (15, .invokevirtual 117) :: (18, .ireturn) :: kX1_readLine_19
def kX1_readLine_0 : XC := (0, .aload_n 0) :: (1, .iload_n 1) :: (2, .invokestatic 109) :: (5, .invokevirtual 113) :: (8, .istore_n 2) :: (9, .iload_n 2) :: (10, .iconst (-1)) :: (11, .if_icmp .ne 8) :: kX1_readLine_14
def kX1_countLine_41 : XC := (41, .return_) :: []
def kX1_countLine_32 : XC := (32, .aload_n 0) :: (33, .iconst 3) :: (34, .aload_n 0) :: (35, .getfield 80) :: (38, .invokevirtual 57) :: kX1_countLine_41
def kX1_countLine_8 : XC := (8, .aload_n 0) :: (9, .dup) :: (10, .getfield 74) :: (13, .iconst 1) :: (14, .iadd) :: (15, .putfield 74) :: (18, .aload_n 0) :: (19, .getfield 74) :: (22, .getstatic 153) :: (25, .iload_n 1) :: (26, .invokestatic 156) :: (29, .if_icmp .le 12) :: kX1_countLine_32
def kX1_countLine_4 : XC := (4, .iload_n 2) :: (5, .ifCond .ne 36) :: kX1_countLine_8
def kX1_countLine_0 : XC := (0, .iload_n 1) :: (1, .ifCond .ne 7) :: kX1_countLine_4
def kX1_readPart_67 : XC := (67, .aload_n 0) :: (68, .getfield 29) :: (71, .iload_n 2) :: (72, .iload 4) :: (74, .invokestatic 175) :: (77, .aload_n 0) :: (78, .invokevirtual 77) :: (81, .iconst 1) :: (82, .ireturn) :: []
def kX1_readPart_65 : XC := (65, .iconst 0) :: (66, .ireturn) :: kX1_readPart_67
def kX1_readPart_52 : XC := (52, .aload_n 0) :: (53, .aload_n 3) :: (54, .invokevirtual 113) :: (57, .istore 4) :: (59, .iload 4) :: (61, .iconst (-1)) :: (62, .if_icmp .ne 5) :: kX1_readPart_65
def kX1_readPart_45 : XC := (45, .aload_n 0) :: (46, .iload_n 1) :: (47, .iload_n 2) :: (48, .invokevirtual 172) :: (51, .ireturn) :: kX1_readPart_52
def kX1_readPart_33 : XC := (33, .iload_n 1) :: (34, .invokestatic 165) :: (37, .astore_n 3) :: (38, .aload_n 3) :: (39, .invokevirtual 169) :: (42, .ifCond .eq 10) :: kX1_readPart_45
def kX1_readPart_29 : XC := (29, .aload_n 0) :: (30, .invokevirtual 77) :: kX1_readPart_33
def kX1_readPart_27 : XC := (27, .iconst 1) :: (28, .ireturn) :: kX1_readPart_29
def kX1_readPart_17 : XC := (17, .aload_n 0) :: (18, .ldc 163) :: (20, .invokevirtual 113) :: (23, .iconst (-1)) :: (24, .if_icmp .ne 5) :: kX1_readPart_27
def kX1_readPart_11 : XC := (11, .iload_n 1) :: (12, .bipush 105) :: (14, .if_icmp .ne 19) :: kX1_readPart_17
def kX1_readPart_6 : XC := (6, .aload_n 0) :: (7, .invokevirtual 160) :: (10, .ireturn) :: kX1_readPart_11
def kX1_readPart_0 : XC := (0, .iload_n 1) :: (1, .bipush 59) :: (3, .if_icmp .ne 8) :: kX1_readPart_6
def kX1_choicesOf_64 : XC := (64, .ldc 95) :: (66, .areturn) :: []
def kX1_choicesOf_61 : XC := (61, .ldc 185) :: (63, .areturn) :: kX1_choicesOf_64
def kX1_choicesOf_58 : XC := (58, .ldc 183) :: (60, .areturn) :: kX1_choicesOf_61
def kX1_choicesOf_55 : XC := (55, .ldc 181) :: (57, .areturn) :: kX1_choicesOf_58
def kX1_choicesOf_52 : XC := (52, .ldc 179) :: (54, .areturn) :: kX1_choicesOf_55
def kX1_choicesOf_1 : XC := (1, .lookupswitch 63 #[(98, 57), (105, 54), (107, 51), (115, 54), (121, 60)]) :: kX1_choicesOf_52
def kX1_choicesOf_0 : XC := (0, .iload_n 0) :: kX1_choicesOf_1
def kX1_readSemicolon_10 : XC := (10, .aload_n 0) :: (11, .invokevirtual 77) :: (14, .iconst 1) :: (15, .ireturn) :: []
def kX1_readSemicolon_8 : XC := (8, .iconst 0) :: (9, .ireturn) :: kX1_readSemicolon_10
def kX1_readSemicolon_0 : XC := (0, .aload_n 0) :: (1, .getfield 40) :: (4, .iconst 3) :: (5, .if_icmp .eq 5) :: kX1_readSemicolon_8
def kX1_readNumber_106 : XC := (106, .aload_n 0) :: (107, .getfield 29) :: (110, .iload_n 2) :: (111, .iload_n 3) :: (112, .invokestatic 175) :: (115, .aload_n 0) :: (116, .invokevirtual 77) :: (119, .iconst 1) :: (120, .ireturn) :: []
def kX1_readNumber_97 : XC := (97, .aload_n 0) :: (98, .iconst 2) :: (99, .aload_n 0) :: (100, .getfield 80) :: (103, .invokevirtual 57) :: kX1_readNumber_106
def kX1_readNumber_92 : XC := (92, .iload 4) :: (94, .ifCond .eq 12) :: kX1_readNumber_97
def kX1_readNumber_84 : XC := (84, .iload_n 3) :: (85, .iload_n 1) :: (86, .invokestatic 191) :: (89, .if_icmp .gt 8) :: kX1_readNumber_92
def kX1_readNumber_74 : XC := (74, .istore 4) :: (76, .iload_n 3) :: (77, .iload_n 1) :: (78, .invokestatic 187) :: (81, .if_icmp .lt 16) :: kX1_readNumber_84
def kX1_readNumber_73 : XC := (73, .iconst 0) :: kX1_readNumber_74
def kX1_readNumber_69 : XC := (69, .iconst 1) :: (70, .goto 4) :: kX1_readNumber_73
def kX1_readNumber_57 : XC := (57, .iload_n 3) :: (58, .aload_n 0) :: (59, .getfield 29) :: (62, .iconst 0) :: (63, .invokestatic 156) :: (66, .if_icmp .ne 7) :: kX1_readNumber_69
def kX1_readNumber_51 : XC := (51, .iload_n 1) :: (52, .bipush 102) :: (54, .if_icmp .ne 19) :: kX1_readNumber_57
def kX1_readNumber_27 : XC := (27, .iload_n 3) :: (28, .bipush 10) :: (30, .imul) :: (31, .aload_n 0) :: (32, .getfield 25) :: (35, .iload 4) :: (37, .invokestatic 156) :: (40, .iadd) :: (41, .bipush 48) :: (43, .isub) :: (44, .istore_n 3) :: (45, .iinc 4 1) :: (48, .goto (-30)) :: kX1_readNumber_51
def kX1_readNumber_18 : XC := (18, .iload 4) :: (20, .aload_n 0) :: (21, .getfield 71) :: (24, .if_icmp .ge 27) :: kX1_readNumber_27
def kX1_readNumber_10 : XC := (10, .iconst 0) :: (11, .istore_n 3) :: (12, .aload_n 0) :: (13, .getfield 80) :: (16, .istore 4) :: kX1_readNumber_18
def kX1_readNumber_8 : XC := (8, .iconst 0) :: (9, .ireturn) :: kX1_readNumber_10
def kX1_readNumber_0 : XC := (0, .aload_n 0) :: (1, .getfield 40) :: (4, .iconst 2) :: (5, .if_icmp .eq 5) :: kX1_readNumber_8
def kX1_leastOf_17 : XC := (17, .ireturn) :: []
def kX1_leastOf_16 : XC := (16, .iconst 0) :: kX1_leastOf_17
def kX1_leastOf_12 : XC := (12, .iconst 1) :: (13, .goto 4) :: kX1_leastOf_16
def kX1_leastOf_6 : XC := (6, .iload_n 0) :: (7, .bipush 113) :: (9, .if_icmp .ne 7) :: kX1_leastOf_12
def kX1_leastOf_0 : XC := (0, .iload_n 0) :: (1, .bipush 118) :: (3, .if_icmp .eq 9) :: kX1_leastOf_6
def kX1_mostOf_71 : XC := (71, .bipush 99) :: (73, .ireturn) :: []
def kX1_mostOf_68 : XC := (68, .bipush 60) :: (70, .ireturn) :: kX1_mostOf_71
def kX1_mostOf_65 : XC := (65, .bipush 27) :: (67, .ireturn) :: kX1_mostOf_68
def kX1_mostOf_62 : XC := (62, .bipush 9) :: (64, .ireturn) :: kX1_mostOf_65
def kX1_mostOf_60 : XC := (60, .iconst 5) :: (61, .ireturn) :: kX1_mostOf_62
def kX1_mostOf_1 : XC := (1, .lookupswitch 70 #[(97, 61), (102, 59), (109, 59), (113, 67), (116, 64), (118, 61)]) :: kX1_mostOf_60
def kX1_mostOf_0 : XC := (0, .iload_n 0) :: kX1_mostOf_1
def kX1_take_131 : XC := (131, .return_) :: []
def kX1_take_111 : XC := (111, .aload_n 0) :: (112, .getfield 21) :: (115, .aload_n 0) :: (116, .getfield 29) :: (119, .iconst 0) :: (120, .invokestatic 156) :: (123, .aload_n 0) :: (124, .getfield 29) :: (127, .iconst 1) :: (128, .invokevirtual 204) :: kX1_take_131
def kX1_take_84 : XC := (84, .aload_n 0) :: (85, .getfield 21) :: (88, .aload_n 0) :: (89, .getfield 29) :: (92, .iconst 0) :: (93, .invokestatic 156) :: (96, .iconst 0) :: (97, .aload_n 0) :: (98, .getfield 29) :: (101, .iconst 1) :: (102, .invokestatic 156) :: (105, .invokevirtual 208) :: (108, .goto 23) :: kX1_take_111
def kX1_take_68 : XC := (68, .aload_n 0) :: (69, .getfield 21) :: (72, .iload_n 2) :: (73, .aload_n 0) :: (74, .getfield 29) :: (77, .iconst 0) :: (78, .invokevirtual 204) :: (81, .goto 50) :: kX1_take_84
def kX1_take_60 : XC := (60, .aload_n 0) :: (61, .iload_n 2) :: (62, .invokevirtual 201) :: (65, .goto 66) :: kX1_take_68
def kX1_take_40 : XC := (40, .aload_n 0) :: (41, .getfield 12) :: (44, .iload_n 2) :: (45, .aload_n 0) :: (46, .getfield 29) :: (49, .invokevirtual 194) :: (52, .aload_n 0) :: (53, .iload_n 2) :: (54, .invokevirtual 198) :: (57, .goto 74) :: kX1_take_60
def kX1_take_1 : XC := (1, .tableswitch 110 0 5 #[39, 59, 67, 110, 110, 83]) :: kX1_take_40
def kX1_take_0 : XC := (0, .iload_n 1) :: kX1_take_1
def kX1_takeToldOf_87 : XC := (87, .ior) :: (88, .putfield 48) :: (91, .return_) :: []
def kX1_takeToldOf_86 : XC := (86, .iconst 0) :: kX1_takeToldOf_87
def kX1_takeToldOf_73 : XC := (73, .iconst 1) :: (74, .aload_n 0) :: (75, .getfield 29) :: (78, .iconst 1) :: (79, .invokestatic 156) :: (82, .ishl) :: (83, .goto 4) :: kX1_takeToldOf_86
def kX1_takeToldOf_60 : XC := (60, .ior) :: (61, .putfield 48) :: (64, .aload_n 0) :: (65, .dup) :: (66, .getfield 48) :: (69, .iload_n 3) :: (70, .ifCond .eq 16) :: kX1_takeToldOf_73
def kX1_takeToldOf_59 : XC := (59, .iconst 0) :: kX1_takeToldOf_60
def kX1_takeToldOf_46 : XC := (46, .iconst 1) :: (47, .aload_n 0) :: (48, .getfield 29) :: (51, .iconst 0) :: (52, .invokestatic 156) :: (55, .ishl) :: (56, .goto 4) :: kX1_takeToldOf_59
def kX1_takeToldOf_36 : XC := (36, .istore_n 3) :: (37, .aload_n 0) :: (38, .dup) :: (39, .getfield 48) :: (42, .iload_n 2) :: (43, .ifCond .eq 16) :: kX1_takeToldOf_46
def kX1_takeToldOf_35 : XC := (35, .iconst 0) :: kX1_takeToldOf_36
def kX1_takeToldOf_31 : XC := (31, .iconst 1) :: (32, .goto 4) :: kX1_takeToldOf_35
def kX1_takeToldOf_26 : XC := (26, .iload_n 1) :: (27, .iconst 4) :: (28, .if_icmp .ne 7) :: kX1_takeToldOf_31
def kX1_takeToldOf_20 : XC := (20, .istore_n 2) :: (21, .iload_n 1) :: (22, .iconst 3) :: (23, .if_icmp .eq 8) :: kX1_takeToldOf_26
def kX1_takeToldOf_19 : XC := (19, .iconst 0) :: kX1_takeToldOf_20
def kX1_takeToldOf_15 : XC := (15, .iconst 1) :: (16, .goto 4) :: kX1_takeToldOf_19
def kX1_takeToldOf_10 : XC := (10, .iload_n 1) :: (11, .iconst 3) :: (12, .if_icmp .ne 7) :: kX1_takeToldOf_15
def kX1_takeToldOf_5 : XC := (5, .iload_n 1) :: (6, .iconst 2) :: (7, .if_icmp .eq 8) :: kX1_takeToldOf_10
def kX1_takeToldOf_0 : XC := (0, .iload_n 1) :: (1, .iconst 1) :: (2, .if_icmp .eq 13) :: kX1_takeToldOf_5
def kX1_takeOrder_75 : XC := (75, .return_) :: []
def kX1_takeOrder_67 : XC := (67, .aload_n 0) :: (68, .getfield 29) :: (71, .iconst 0) :: (72, .invokevirtual 204) :: kX1_takeOrder_75
def kX1_takeOrder_66 : XC := (66, .iconst 3) :: kX1_takeOrder_67
def kX1_takeOrder_62 : XC := (62, .iconst 2) :: (63, .goto 4) :: kX1_takeOrder_66
def kX1_takeOrder_53 : XC := (53, .aload_n 0) :: (54, .getfield 21) :: (57, .iload_n 1) :: (58, .iconst 1) :: (59, .if_icmp .ne 7) :: kX1_takeOrder_62
def kX1_takeOrder_20 : XC := (20, .istore_n 2) :: (21, .aload_n 0) :: (22, .getfield 29) :: (25, .iconst 1) :: (26, .aload_n 0) :: (27, .getfield 29) :: (30, .iconst 0) :: (31, .invokestatic 156) :: (34, .invokestatic 175) :: (37, .aload_n 0) :: (38, .getfield 21) :: (41, .iload_n 2) :: (42, .aload_n 0) :: (43, .getfield 29) :: (46, .iconst 1) :: (47, .invokevirtual 204) :: (50, .goto 25) :: kX1_takeOrder_53
def kX1_takeOrder_19 : XC := (19, .iconst 1) :: kX1_takeOrder_20
def kX1_takeOrder_15 : XC := (15, .iconst 0) :: (16, .goto 4) :: kX1_takeOrder_19
def kX1_takeOrder_4 : XC := (4, .aload_n 0) :: (5, .getfield 29) :: (8, .iconst 1) :: (9, .invokestatic 156) :: (12, .ifCond .ne 7) :: kX1_takeOrder_15
def kX1_takeOrder_0 : XC := (0, .iload_n 1) :: (1, .ifCond .ne 52) :: kX1_takeOrder_4
def kX1_chosen_71 : XC := (71, .iconst (-1)) :: (72, .ireturn) :: []
def kX1_chosen_65 : XC := (65, .iinc 4 1) :: (68, .goto (-61)) :: kX1_chosen_71
def kX1_chosen_57 : XC := (57, .iinc 2 1) :: (60, .iload 4) :: (62, .iconst 1) :: (63, .iadd) :: (64, .istore_n 3) :: kX1_chosen_65
def kX1_chosen_55 : XC := (55, .iload_n 2) :: (56, .ireturn) :: kX1_chosen_57
def kX1_chosen_44 : XC := (44, .aload_n 0) :: (45, .aload_n 1) :: (46, .iload_n 3) :: (47, .iload 4) :: (49, .invokevirtual 212) :: (52, .ifCond .eq 5) :: kX1_chosen_55
def kX1_chosen_33 : XC := (33, .aload_n 1) :: (34, .iload 4) :: (36, .invokevirtual 142) :: (39, .bipush 32) :: (41, .if_icmp .ne 24) :: kX1_chosen_44
def kX1_chosen_24 : XC := (24, .iload 4) :: (26, .aload_n 1) :: (27, .invokevirtual 137) :: (30, .if_icmp .eq 14) :: kX1_chosen_33
def kX1_chosen_16 : XC := (16, .aload_n 0) :: (17, .getfield 40) :: (20, .iconst 1) :: (21, .if_icmp .ne 50) :: kX1_chosen_24
def kX1_chosen_7 : XC := (7, .iload 4) :: (9, .aload_n 1) :: (10, .invokevirtual 137) :: (13, .if_icmp .gt 58) :: kX1_chosen_16
def kX1_chosen_0 : XC := (0, .iconst 0) :: (1, .istore_n 2) :: (2, .iconst 0) :: (3, .istore_n 3) :: (4, .iconst 0) :: (5, .istore 4) :: kX1_chosen_7
def kX1_isToken_68 : XC := (68, .iconst 1) :: (69, .ireturn) :: []
def kX1_isToken_62 : XC := (62, .iinc 4 1) :: (65, .goto (-45)) :: kX1_isToken_68
def kX1_isToken_60 : XC := (60, .iconst 0) :: (61, .ireturn) :: kX1_isToken_62
def kX1_isToken_35 : XC := (35, .aload_n 1) :: (36, .iload 4) :: (38, .invokevirtual 142) :: (41, .aload_n 0) :: (42, .getfield 25) :: (45, .aload_n 0) :: (46, .getfield 80) :: (49, .iload 4) :: (51, .iadd) :: (52, .iload_n 2) :: (53, .isub) :: (54, .invokestatic 156) :: (57, .if_icmp .eq 5) :: kX1_isToken_60
def kX1_isToken_26 : XC := (26, .iload 4) :: (28, .aload_n 1) :: (29, .invokevirtual 137) :: (32, .if_icmp .ge 36) :: kX1_isToken_35
def kX1_isToken_20 : XC := (20, .iload 4) :: (22, .iload_n 3) :: (23, .if_icmp .ge 45) :: kX1_isToken_26
def kX1_isToken_17 : XC := (17, .iload_n 2) :: (18, .istore 4) :: kX1_isToken_20
def kX1_isToken_15 : XC := (15, .iconst 0) :: (16, .ireturn) :: kX1_isToken_17
def kX1_isToken_0 : XC := (0, .iload_n 3) :: (1, .iload_n 2) :: (2, .isub) :: (3, .aload_n 0) :: (4, .getfield 71) :: (7, .aload_n 0) :: (8, .getfield 80) :: (11, .isub) :: (12, .if_icmp .eq 5) :: kX1_isToken_15
def kX1_startOf_38 : XC := (38, .aload_n 0) :: (39, .invokevirtual 137) :: (42, .ireturn) :: []
def kX1_startOf_32 : XC := (32, .iinc 3 1) :: (35, .goto (-31)) :: kX1_startOf_38
def kX1_startOf_29 : XC := (29, .iinc 2 1) :: kX1_startOf_32
def kX1_startOf_19 : XC := (19, .aload_n 0) :: (20, .iload_n 3) :: (21, .invokevirtual 142) :: (24, .bipush 32) :: (26, .if_icmp .ne 6) :: kX1_startOf_29
def kX1_startOf_17 : XC := (17, .iload_n 3) :: (18, .ireturn) :: kX1_startOf_19
def kX1_startOf_12 : XC := (12, .iload_n 2) :: (13, .iload_n 1) :: (14, .if_icmp .ne 5) :: kX1_startOf_17
def kX1_startOf_4 : XC := (4, .iload_n 3) :: (5, .aload_n 0) :: (6, .invokevirtual 137) :: (9, .if_icmp .ge 29) :: kX1_startOf_12
def kX1_startOf_0 : XC := (0, .iconst 0) :: (1, .istore_n 2) :: (2, .iconst 0) :: (3, .istore_n 3) :: kX1_startOf_4
def kX1_advance_257 : XC := (257, .return_) :: []
def kX1_advance_244 : XC := (244, .putfield 40) :: (247, .aload_n 0) :: (248, .dup) :: (249, .getfield 71) :: (252, .iconst 1) :: (253, .iadd) :: (254, .putfield 71) :: kX1_advance_257
def kX1_advance_243 : XC := (243, .iconst 4) :: kX1_advance_244
def kX1_advance_239 : XC := (239, .iconst 3) :: (240, .goto 4) :: kX1_advance_243
def kX1_advance_222 : XC := (222, .aload_n 0) :: (223, .aload_n 0) :: (224, .getfield 25) :: (227, .aload_n 0) :: (228, .getfield 80) :: (231, .invokestatic 156) :: (234, .bipush 59) :: (236, .if_icmp .ne 7) :: kX1_advance_239
def kX1_advance_216 : XC := (216, .putfield 40) :: (219, .goto 38) :: kX1_advance_222
def kX1_advance_215 : XC := (215, .iconst 4) :: kX1_advance_216
def kX1_advance_211 : XC := (211, .iconst 2) :: (212, .goto 4) :: kX1_advance_215
def kX1_advance_197 : XC := (197, .aload_n 0) :: (198, .aload_n 0) :: (199, .getfield 71) :: (202, .aload_n 0) :: (203, .getfield 80) :: (206, .isub) :: (207, .iconst 2) :: (208, .if_icmp .gt 7) :: kX1_advance_211
def kX1_advance_184 : XC := (184, .aload_n 0) :: (185, .dup) :: (186, .getfield 71) :: (189, .iconst 1) :: (190, .iadd) :: (191, .putfield 71) :: (194, .goto (-38)) :: kX1_advance_197
def kX1_advance_167 : XC := (167, .aload_n 0) :: (168, .getfield 25) :: (171, .aload_n 0) :: (172, .getfield 71) :: (175, .invokestatic 156) :: (178, .invokestatic 222) :: (181, .ifCond .eq 16) :: kX1_advance_184
def kX1_advance_156 : XC := (156, .aload_n 0) :: (157, .getfield 71) :: (160, .aload_n 0) :: (161, .getfield 54) :: (164, .if_icmp .ge 33) :: kX1_advance_167
def kX1_advance_139 : XC := (139, .aload_n 0) :: (140, .getfield 25) :: (143, .aload_n 0) :: (144, .getfield 80) :: (147, .invokestatic 156) :: (150, .invokestatic 222) :: (153, .ifCond .eq 69) :: kX1_advance_156
def kX1_advance_126 : XC := (126, .aload_n 0) :: (127, .dup) :: (128, .getfield 71) :: (131, .iconst 1) :: (132, .iadd) :: (133, .putfield 71) :: (136, .goto (-38)) :: kX1_advance_139
def kX1_advance_109 : XC := (109, .aload_n 0) :: (110, .getfield 25) :: (113, .aload_n 0) :: (114, .getfield 71) :: (117, .invokestatic 156) :: (120, .invokestatic 219) :: (123, .ifCond .eq 134) :: kX1_advance_126
def kX1_advance_98 : XC := (98, .aload_n 0) :: (99, .getfield 71) :: (102, .aload_n 0) :: (103, .getfield 54) :: (106, .if_icmp .ge 151) :: kX1_advance_109
def kX1_advance_93 : XC := (93, .aload_n 0) :: (94, .iconst 1) :: (95, .putfield 40) :: kX1_advance_98
def kX1_advance_76 : XC := (76, .aload_n 0) :: (77, .getfield 25) :: (80, .aload_n 0) :: (81, .getfield 80) :: (84, .invokestatic 156) :: (87, .invokestatic 219) :: (90, .ifCond .eq 49) :: kX1_advance_93
def kX1_advance_68 : XC := (68, .aload_n 0) :: (69, .iconst 0) :: (70, .putfield 40) :: (73, .goto 184) :: kX1_advance_76
def kX1_advance_49 : XC := (49, .aload_n 0) :: (50, .aload_n 0) :: (51, .getfield 80) :: (54, .putfield 71) :: (57, .aload_n 0) :: (58, .getfield 80) :: (61, .aload_n 0) :: (62, .getfield 54) :: (65, .if_icmp .lt 11) :: kX1_advance_68
def kX1_advance_36 : XC := (36, .aload_n 0) :: (37, .dup) :: (38, .getfield 80) :: (41, .iconst 1) :: (42, .iadd) :: (43, .putfield 80) :: (46, .goto (-38)) :: kX1_advance_49
def kX1_advance_19 : XC := (19, .aload_n 0) :: (20, .getfield 25) :: (23, .aload_n 0) :: (24, .getfield 80) :: (27, .invokestatic 156) :: (30, .invokestatic 216) :: (33, .ifCond .eq 16) :: kX1_advance_36
def kX1_advance_8 : XC := (8, .aload_n 0) :: (9, .getfield 80) :: (12, .aload_n 0) :: (13, .getfield 54) :: (16, .if_icmp .ge 33) :: kX1_advance_19
def kX1_advance_0 : XC := (0, .aload_n 0) :: (1, .aload_n 0) :: (2, .getfield 71) :: (5, .putfield 80) :: kX1_advance_8
def kX1_isBlank_17 : XC := (17, .ireturn) :: []
def kX1_isBlank_16 : XC := (16, .iconst 0) :: kX1_isBlank_17
def kX1_isBlank_12 : XC := (12, .iconst 1) :: (13, .goto 4) :: kX1_isBlank_16
def kX1_isBlank_6 : XC := (6, .iload_n 0) :: (7, .bipush 32) :: (9, .if_icmp .ne 7) :: kX1_isBlank_12
def kX1_isBlank_0 : XC := (0, .iload_n 0) :: (1, .bipush 10) :: (3, .if_icmp .eq 9) :: kX1_isBlank_6
def kX1_isLetter_17 : XC := (17, .ireturn) :: []
def kX1_isLetter_16 : XC := (16, .iconst 0) :: kX1_isLetter_17
def kX1_isLetter_12 : XC := (12, .iconst 1) :: (13, .goto 4) :: kX1_isLetter_16
def kX1_isLetter_6 : XC := (6, .iload_n 0) :: (7, .bipush 122) :: (9, .if_icmp .gt 7) :: kX1_isLetter_12
def kX1_isLetter_0 : XC := (0, .iload_n 0) :: (1, .bipush 97) :: (3, .if_icmp .lt 13) :: kX1_isLetter_6
def kX1_isDigit_17 : XC := (17, .ireturn) :: []
def kX1_isDigit_16 : XC := (16, .iconst 0) :: kX1_isDigit_17
def kX1_isDigit_12 : XC := (12, .iconst 1) :: (13, .goto 4) :: kX1_isDigit_16
def kX1_isDigit_6 : XC := (6, .iload_n 0) :: (7, .bipush 57) :: (9, .if_icmp .gt 7) :: kX1_isDigit_12
def kX1_isDigit_0 : XC := (0, .iload_n 0) :: (1, .bipush 48) :: (3, .if_icmp .lt 13) :: kX1_isDigit_6
def kX2_init_0 : XC := (0, .aload_n 0) :: (1, .invokespecial 3) :: (4, .aload_n 0) :: (5, .bipush 6) :: (7, .newarray .int) :: (9, .putfield 9) :: (12, .aload_n 0) :: (13, .bipush 6) :: (15, .newarray .int) :: (17, .putfield 15) :: (20, .aload_n 0) :: (21, .bipush 6) :: (23, .newarray .int) :: (25, .putfield 18) :: (28, .aload_n 0) :: (29, .bipush 6) :: (31, .newarray .int) :: (33, .putfield 21) :: (36, .aload_n 0) :: (37, .bipush 72) :: (39, .newarray .int) :: (41, .putfield 24) :: (44, .aload_n 0) :: (45, .bipush 6) :: (47, .newarray .int) :: (49, .putfield 27) :: (52, .aload_n 0) :: (53, .iconst 3) :: (54, .newarray .int) :: (56, .putfield 30) :: (59, .return_) :: []
def kX2_clear_0 : XC := (0, .aload_n 0) :: (1, .iconst 0) :: (2, .putfield 33) :: (5, .aload_n 0) :: (6, .getfield 24) :: (9, .iconst 0) :: (10, .invokestatic 37) :: (13, .aload_n 0) :: (14, .getfield 27) :: (17, .iconst 0) :: (18, .invokestatic 37) :: (21, .aload_n 0) :: (22, .getfield 30) :: (25, .iconst 0) :: (26, .invokestatic 37) :: (29, .aload_n 0) :: (30, .iconst 0) :: (31, .putfield 43) :: (34, .aload_n 0) :: (35, .bipush 10) :: (37, .putfield 46) :: (40, .aload_n 0) :: (41, .iconst 2) :: (42, .putfield 49) :: (45, .aload_n 0) :: (46, .bipush 50) :: (48, .putfield 52) :: (51, .aload_n 0) :: (52, .bipush 50) :: (54, .putfield 55) :: (57, .aload_n 0) :: (58, .bipush 20) :: (60, .putfield 58) :: (63, .return_) :: []
def kX2_copyRepublic_0 : XC := (0, .aload_n 0) :: (1, .aload_n 1) :: (2, .getfield 33) :: (5, .putfield 33) :: (8, .aload_n 1) :: (9, .getfield 9) :: (12, .aload_n 0) :: (13, .getfield 9) :: (16, .invokestatic 61) :: (19, .aload_n 1) :: (20, .getfield 15) :: (23, .aload_n 0) :: (24, .getfield 15) :: (27, .invokestatic 61) :: (30, .aload_n 1) :: (31, .getfield 18) :: (34, .aload_n 0) :: (35, .getfield 18) :: (38, .invokestatic 61) :: (41, .aload_n 1) :: (42, .getfield 21) :: (45, .aload_n 0) :: (46, .getfield 21) :: (49, .invokestatic 61) :: (52, .aload_n 1) :: (53, .getfield 24) :: (56, .aload_n 0) :: (57, .getfield 24) :: (60, .invokestatic 61) :: (63, .aload_n 1) :: (64, .getfield 27) :: (67, .aload_n 0) :: (68, .getfield 27) :: (71, .invokestatic 61) :: (74, .aload_n 1) :: (75, .getfield 30) :: (78, .aload_n 0) :: (79, .getfield 30) :: (82, .invokestatic 61) :: (85, .aload_n 0) :: (86, .aload_n 1) :: (87, .getfield 43) :: (90, .putfield 43) :: (93, .aload_n 0) :: (94, .aload_n 1) :: (95, .getfield 46) :: (98, .putfield 46) :: (101, .aload_n 0) :: (102, .aload_n 1) :: (103, .getfield 49) :: (106, .putfield 49) :: (109, .aload_n 0) :: (110, .aload_n 1) :: (111, .getfield 52) :: (114, .putfield 52) :: (117, .aload_n 0) :: (118, .aload_n 1) :: (119, .getfield 55) :: (122, .putfield 55) :: (125, .aload_n 0) :: (126, .aload_n 1) :: (127, .getfield 58) :: (130, .putfield 58) :: (133, .return_) :: []
def kX2_takeLine_180 : XC := (180, .return_) :: []
def kX2_takeLine_174 : XC := (174, .aload_n 0) :: (175, .iload_n 1) :: (176, .iload_n 3) :: (177, .invokevirtual 77) :: kX2_takeLine_180
def kX2_takeLine_161 : XC := (161, .aload_n 0) :: (162, .getfield 30) :: (165, .iload_n 3) :: (166, .iload 4) :: (168, .invokestatic 73) :: (171, .goto 9) :: kX2_takeLine_174
def kX2_takeLine_115 : XC := (115, .aload_n 0) :: (116, .getfield 27) :: (119, .iload_n 3) :: (120, .aload_n 0) :: (121, .getfield 27) :: (124, .iload_n 3) :: (125, .invokestatic 65) :: (128, .iconst 1) :: (129, .iload 4) :: (131, .ishl) :: (132, .ior) :: (133, .invokestatic 73) :: (136, .aload_n 0) :: (137, .getfield 27) :: (140, .iload 4) :: (142, .aload_n 0) :: (143, .getfield 27) :: (146, .iload 4) :: (148, .invokestatic 65) :: (151, .iconst 1) :: (152, .iload_n 3) :: (153, .ishl) :: (154, .ior) :: (155, .invokestatic 73) :: (158, .goto 22) :: kX2_takeLine_161
def kX2_takeLine_100 : XC := (100, .aload_n 0) :: (101, .dup) :: (102, .getfield 43) :: (105, .iconst 1) :: (106, .iload_n 3) :: (107, .ishl) :: (108, .ior) :: (109, .putfield 43) :: (112, .goto 68) :: kX2_takeLine_115
def kX2_takeLine_97 : XC := (97, .goto 83) :: kX2_takeLine_100
def kX2_takeLine_65 : XC := (65, .aload_n 0) :: (66, .getfield 24) :: (69, .iload_n 3) :: (70, .iconst 4) :: (71, .imul) :: (72, .iload 4) :: (74, .iadd) :: (75, .iconst 3) :: (76, .imul) :: (77, .iload 5) :: (79, .iadd) :: (80, .aload_n 2) :: (81, .iconst 2) :: (82, .iload 5) :: (84, .iadd) :: (85, .invokestatic 65) :: (88, .invokestatic 73) :: (91, .iinc 5 1) :: (94, .goto (-35)) :: kX2_takeLine_97
def kX2_takeLine_59 : XC := (59, .iload 5) :: (61, .iconst 3) :: (62, .if_icmp .ge 35) :: kX2_takeLine_65
def kX2_takeLine_56 : XC := (56, .iconst 0) :: (57, .istore 5) :: kX2_takeLine_59
def kX2_takeLine_48 : XC := (48, .aload_n 0) :: (49, .aload_n 2) :: (50, .invokevirtual 69) :: (53, .goto 127) :: kX2_takeLine_56
def kX2_takeLine_14 : XC := (14, .tableswitch 160 0 4 #[34, 42, 86, 101, 147]) :: kX2_takeLine_48
def kX2_takeLine_0 : XC := (0, .aload_n 2) :: (1, .iconst 0) :: (2, .invokestatic 65) :: (5, .istore_n 3) :: (6, .aload_n 2) :: (7, .iconst 1) :: (8, .invokestatic 65) :: (11, .istore 4) :: (13, .iload_n 1) :: kX2_takeLine_14
def kX2_addMinister_83 : XC := (83, .return_) :: []
def kX2_addMinister_9 : XC := (9, .aload_n 0) :: (10, .getfield 9) :: (13, .aload_n 0) :: (14, .getfield 33) :: (17, .aload_n 1) :: (18, .iconst 0) :: (19, .invokestatic 65) :: (22, .invokestatic 73) :: (25, .aload_n 0) :: (26, .getfield 15) :: (29, .aload_n 0) :: (30, .getfield 33) :: (33, .aload_n 1) :: (34, .iconst 1) :: (35, .invokestatic 65) :: (38, .invokestatic 73) :: (41, .aload_n 0) :: (42, .getfield 18) :: (45, .aload_n 0) :: (46, .getfield 33) :: (49, .aload_n 1) :: (50, .iconst 2) :: (51, .invokestatic 65) :: (54, .invokestatic 73) :: (57, .aload_n 0) :: (58, .getfield 21) :: (61, .aload_n 0) :: (62, .getfield 33) :: (65, .aload_n 1) :: (66, .iconst 3) :: (67, .invokestatic 65) :: (70, .invokestatic 73) :: (73, .aload_n 0) :: (74, .dup) :: (75, .getfield 33) :: (78, .iconst 1) :: (79, .iadd) :: (80, .putfield 33) :: kX2_addMinister_83
def kX2_addMinister_0 : XC := (0, .aload_n 0) :: (1, .getfield 33) :: (4, .bipush 6) :: (6, .if_icmp .ge 77) :: kX2_addMinister_9
def kX2_setNumber_76 : XC := (76, .return_) :: []
def kX2_setNumber_68 : XC := (68, .aload_n 0) :: (69, .iload_n 2) :: (70, .putfield 58) :: (73, .goto 3) :: kX2_setNumber_76
def kX2_setNumber_60 : XC := (60, .aload_n 0) :: (61, .iload_n 2) :: (62, .putfield 55) :: (65, .goto 11) :: kX2_setNumber_68
def kX2_setNumber_52 : XC := (52, .aload_n 0) :: (53, .iload_n 2) :: (54, .putfield 52) :: (57, .goto 19) :: kX2_setNumber_60
def kX2_setNumber_44 : XC := (44, .aload_n 0) :: (45, .iload_n 2) :: (46, .putfield 49) :: (49, .goto 27) :: kX2_setNumber_52
def kX2_setNumber_36 : XC := (36, .aload_n 0) :: (37, .iload_n 2) :: (38, .putfield 46) :: (41, .goto 35) :: kX2_setNumber_44
def kX2_setNumber_1 : XC := (1, .tableswitch 75 5 9 #[35, 43, 51, 59, 67]) :: kX2_setNumber_36
def kX2_setNumber_0 : XC := (0, .iload_n 1) :: kX2_setNumber_1
def kX2_isMinister_17 : XC := (17, .ireturn) :: []
def kX2_isMinister_16 : XC := (16, .iconst 0) :: kX2_isMinister_17
def kX2_isMinister_12 : XC := (12, .iconst 1) :: (13, .goto 4) :: kX2_isMinister_16
def kX2_isMinister_4 : XC := (4, .iload_n 1) :: (5, .aload_n 0) :: (6, .getfield 33) :: (9, .if_icmp .ge 7) :: kX2_isMinister_12
def kX2_isMinister_0 : XC := (0, .iload_n 1) :: (1, .ifCond .lt 15) :: kX2_isMinister_4
def kX2_everybody_0 : XC := (0, .iconst 1) :: (1, .aload_n 0) :: (2, .getfield 33) :: (5, .ishl) :: (6, .iconst 1) :: (7, .isub) :: (8, .ireturn) :: []
def kX2_want_0 : XC := (0, .aload_n 0) :: (1, .getfield 24) :: (4, .iload_n 1) :: (5, .iconst 4) :: (6, .imul) :: (7, .iconst 3) :: (8, .imul) :: (9, .iload_n 2) :: (10, .iadd) :: (11, .invokestatic 65) :: (14, .ireturn) :: []
def kX2_distance_54 : XC := (54, .iload 5) :: (56, .ireturn) :: []
def kX2_distance_21 : XC := (21, .iload 5) :: (23, .iload_n 3) :: (24, .iload 6) :: (26, .invokestatic 81) :: (29, .aload_n 0) :: (30, .getfield 24) :: (33, .iload 4) :: (35, .iload 6) :: (37, .iadd) :: (38, .invokestatic 65) :: (41, .isub) :: (42, .invokestatic 85) :: (45, .iadd) :: (46, .istore 5) :: (48, .iinc 6 1) :: (51, .goto (-36)) :: kX2_distance_54
def kX2_distance_15 : XC := (15, .iload 6) :: (17, .iconst 3) :: (18, .if_icmp .ge 36) :: kX2_distance_21
def kX2_distance_0 : XC := (0, .iload_n 1) :: (1, .iconst 4) :: (2, .imul) :: (3, .iload_n 2) :: (4, .iadd) :: (5, .iconst 3) :: (6, .imul) :: (7, .istore 4) :: (9, .iconst 0) :: (10, .istore 5) :: (12, .iconst 0) :: (13, .istore 6) :: kX2_distance_15
def kX2_patience_31 : XC := (31, .isub) :: (32, .ireturn) :: []
def kX2_patience_30 : XC := (30, .iconst 0) :: kX2_patience_31
def kX2_patience_23 : XC := (23, .aload_n 0) :: (24, .getfield 49) :: (27, .goto 4) :: kX2_patience_30
def kX2_patience_0 : XC := (0, .aload_n 0) :: (1, .getfield 15) :: (4, .iload_n 1) :: (5, .invokestatic 65) :: (8, .aload_n 0) :: (9, .getfield 27) :: (12, .iload_n 1) :: (13, .invokestatic 65) :: (16, .iload_n 2) :: (17, .invokestatic 91) :: (20, .ifCond .eq 10) :: kX2_patience_23
def kX2_agreeing_54 : XC := (54, .iload 4) :: (56, .ireturn) :: []
def kX2_agreeing_48 : XC := (48, .iinc 5 1) :: (51, .goto (-45)) :: kX2_agreeing_54
def kX2_agreeing_39 : XC := (39, .iload 4) :: (41, .iconst 1) :: (42, .iload 5) :: (44, .ishl) :: (45, .ior) :: (46, .istore 4) :: kX2_agreeing_48
def kX2_agreeing_21 : XC := (21, .aload_n 0) :: (22, .iload 5) :: (24, .iload_n 2) :: (25, .iload_n 3) :: (26, .invokevirtual 95) :: (29, .aload_n 0) :: (30, .iload 5) :: (32, .iload_n 1) :: (33, .invokevirtual 99) :: (36, .if_icmp .gt 12) :: kX2_agreeing_39
def kX2_agreeing_15 : XC := (15, .iload 5) :: (17, .iload_n 1) :: (18, .if_icmp .eq 21) :: kX2_agreeing_21
def kX2_agreeing_6 : XC := (6, .iload 5) :: (8, .aload_n 0) :: (9, .getfield 33) :: (12, .if_icmp .ge 42) :: kX2_agreeing_15
def kX2_agreeing_0 : XC := (0, .iconst 0) :: (1, .istore 4) :: (3, .iconst 0) :: (4, .istore 5) :: kX2_agreeing_6
def kX2_votesOf_37 : XC := (37, .iload_n 2) :: (38, .ireturn) :: []
def kX2_votesOf_31 : XC := (31, .iinc 3 1) :: (34, .goto (-30)) :: kX2_votesOf_37
def kX2_votesOf_20 : XC := (20, .iload_n 2) :: (21, .aload_n 0) :: (22, .getfield 9) :: (25, .iload_n 3) :: (26, .invokestatic 65) :: (29, .iadd) :: (30, .istore_n 2) :: kX2_votesOf_31
def kX2_votesOf_12 : XC := (12, .iload_n 1) :: (13, .iload_n 3) :: (14, .invokestatic 91) :: (17, .ifCond .eq 14) :: kX2_votesOf_20
def kX2_votesOf_4 : XC := (4, .iload_n 3) :: (5, .aload_n 0) :: (6, .getfield 33) :: (9, .if_icmp .ge 28) :: kX2_votesOf_12
def kX2_votesOf_0 : XC := (0, .iconst 0) :: (1, .istore_n 2) :: (2, .iconst 0) :: (3, .istore_n 3) :: kX2_votesOf_4
def kX2_isPassed_32 : XC := (32, .ireturn) :: []
def kX2_isPassed_31 : XC := (31, .iconst 0) :: kX2_isPassed_32
def kX2_isPassed_27 : XC := (27, .iconst 1) :: (28, .goto 4) :: kX2_isPassed_31
def kX2_isPassed_14 : XC := (14, .iload_n 1) :: (15, .aload_n 0) :: (16, .getfield 43) :: (19, .iand) :: (20, .iload_n 2) :: (21, .iconst (-1)) :: (22, .ixor) :: (23, .iand) :: (24, .ifCond .ne 7) :: kX2_isPassed_27
def kX2_isPassed_0 : XC := (0, .aload_n 0) :: (1, .iload_n 1) :: (2, .iload_n 2) :: (3, .iand) :: (4, .invokevirtual 102) :: (7, .aload_n 0) :: (8, .getfield 46) :: (11, .if_icmp .lt 20) :: kX2_isPassed_14
def kX2_areSeats_66 : XC := (66, .ireturn) :: []
def kX2_areSeats_65 : XC := (65, .iconst 0) :: kX2_areSeats_66
def kX2_areSeats_61 : XC := (61, .iconst 1) :: (62, .goto 4) :: kX2_areSeats_65
def kX2_areSeats_55 : XC := (55, .iload_n 2) :: (56, .iload 4) :: (58, .if_icmp .eq 7) :: kX2_areSeats_61
def kX2_areSeats_49 : XC := (49, .iload_n 3) :: (50, .iload 4) :: (52, .if_icmp .eq 13) :: kX2_areSeats_55
def kX2_areSeats_44 : XC := (44, .iload_n 2) :: (45, .iload_n 3) :: (46, .if_icmp .eq 19) :: kX2_areSeats_49
def kX2_areSeats_35 : XC := (35, .aload_n 0) :: (36, .iload 4) :: (38, .invokevirtual 105) :: (41, .ifCond .eq 24) :: kX2_areSeats_44
def kX2_areSeats_27 : XC := (27, .aload_n 0) :: (28, .iload_n 3) :: (29, .invokevirtual 105) :: (32, .ifCond .eq 33) :: kX2_areSeats_35
def kX2_areSeats_0 : XC := (0, .iload_n 1) :: (1, .bipush 36) :: (3, .idiv) :: (4, .istore_n 2) :: (5, .iload_n 1) :: (6, .bipush 6) :: (8, .idiv) :: (9, .bipush 6) :: (11, .irem) :: (12, .istore_n 3) :: (13, .iload_n 1) :: (14, .bipush 6) :: (16, .irem) :: (17, .istore 4) :: (19, .aload_n 0) :: (20, .iload_n 2) :: (21, .invokevirtual 105) :: (24, .ifCond .eq 41) :: kX2_areSeats_27
def kX2_proposal_0 : XC := (0, .iload_n 2) :: (1, .iconst 3) :: (2, .imul) :: (3, .istore_n 3) :: (4, .aload_n 0) :: (5, .iload_n 1) :: (6, .bipush 36) :: (8, .idiv) :: (9, .iload_n 3) :: (10, .iconst 0) :: (11, .iadd) :: (12, .invokevirtual 109) :: (15, .aload_n 0) :: (16, .iload_n 1) :: (17, .bipush 6) :: (19, .idiv) :: (20, .bipush 6) :: (22, .irem) :: (23, .iload_n 3) :: (24, .iconst 1) :: (25, .iadd) :: (26, .invokevirtual 109) :: (29, .aload_n 0) :: (30, .iload_n 1) :: (31, .bipush 6) :: (33, .irem) :: (34, .iload_n 3) :: (35, .iconst 2) :: (36, .iadd) :: (37, .invokevirtual 109) :: (40, .invokestatic 112) :: (43, .ireturn) :: []
def kX3_init_0 : XC := (0, .aload_n 0) :: (1, .invokespecial 3) :: (4, .aload_n 0) :: (5, .sipush 200) :: (8, .newarray .int) :: (10, .putfield 9) :: (13, .return_) :: []
def kX3_clear_0 : XC := (0, .aload_n 0) :: (1, .iconst 0) :: (2, .putfield 15) :: (5, .aload_n 0) :: (6, .getfield 9) :: (9, .iconst 0) :: (10, .invokestatic 19) :: (13, .return_) :: []
def kX3_copyRows_0 : XC := (0, .aload_n 0) :: (1, .aload_n 1) :: (2, .getfield 15) :: (5, .putfield 15) :: (8, .aload_n 1) :: (9, .getfield 9) :: (12, .aload_n 0) :: (13, .getfield 9) :: (16, .invokestatic 25) :: (19, .return_) :: []
def kX3_part_0 : XC := (0, .aload_n 0) :: (1, .getfield 9) :: (4, .iload_n 1) :: (5, .iconst 5) :: (6, .imul) :: (7, .iload_n 2) :: (8, .iadd) :: (9, .invokestatic 29) :: (12, .ireturn) :: []
def kX3_set_0 : XC := (0, .aload_n 0) :: (1, .getfield 9) :: (4, .iload_n 1) :: (5, .iconst 5) :: (6, .imul) :: (7, .iload_n 2) :: (8, .iadd) :: (9, .iload_n 3) :: (10, .invokestatic 33) :: (13, .return_) :: []
def kX3_dayFrom_0 : XC := (0, .aload_n 0) :: (1, .iload_n 1) :: (2, .iload_n 2) :: (3, .invokevirtual 37) :: (6, .aload_n 0) :: (7, .iload_n 1) :: (8, .iload_n 2) :: (9, .iconst 1) :: (10, .iadd) :: (11, .invokevirtual 37) :: (14, .aload_n 0) :: (15, .iload_n 1) :: (16, .iload_n 2) :: (17, .iconst 2) :: (18, .iadd) :: (19, .invokevirtual 37) :: (22, .invokestatic 41) :: (25, .ireturn) :: []
def kX3_add_64 : XC := (64, .return_) :: []
def kX3_add_54 : XC := (54, .aload_n 0) :: (55, .dup) :: (56, .getfield 15) :: (59, .iconst 1) :: (60, .iadd) :: (61, .putfield 15) :: kX3_add_64
def kX3_add_28 : XC := (28, .aload_n 0) :: (29, .aload_n 0) :: (30, .getfield 15) :: (33, .iload 4) :: (35, .aload_n 2) :: (36, .iload_n 3) :: (37, .iload 4) :: (39, .iadd) :: (40, .iconst 1) :: (41, .isub) :: (42, .invokestatic 29) :: (45, .invokevirtual 45) :: (48, .iinc 4 1) :: (51, .goto (-29)) :: kX3_add_54
def kX3_add_22 : XC := (22, .iload 4) :: (24, .iconst 5) :: (25, .if_icmp .ge 29) :: kX3_add_28
def kX3_add_9 : XC := (9, .aload_n 0) :: (10, .aload_n 0) :: (11, .getfield 15) :: (14, .iconst 0) :: (15, .iload_n 1) :: (16, .invokevirtual 45) :: (19, .iconst 1) :: (20, .istore 4) :: kX3_add_22
def kX3_add_0 : XC := (0, .aload_n 0) :: (1, .getfield 15) :: (4, .bipush 40) :: (6, .if_icmp .ge 58) :: kX3_add_9
def kX4_init_0 : XC := (0, .aload_n 0) :: (1, .invokespecial 3) :: (4, .return_) :: []
def kX4_settle_0 : XC := (0, .aload_n 0) :: (1, .aload_n 1) :: (2, .getfield 9) :: (5, .putfield 15) :: (8, .aload_n 0) :: (9, .aload_n 1) :: (10, .getfield 18) :: (13, .putfield 21) :: (16, .aload_n 0) :: (17, .aload_n 1) :: (18, .getfield 22) :: (21, .putfield 25) :: (24, .return_) :: []
def kX4_can_44 : XC := (44, .ireturn) :: []
def kX4_can_43 : XC := (43, .iconst 0) :: kX4_can_44
def kX4_can_39 : XC := (39, .iconst 1) :: (40, .goto 4) :: kX4_can_43
def kX4_can_33 : XC := (33, .iload_n 2) :: (34, .bipush 99) :: (36, .if_icmp .gt 7) :: kX4_can_39
def kX4_can_29 : XC := (29, .iload_n 2) :: (30, .ifCond .lt 13) :: kX4_can_33
def kX4_can_0 : XC := (0, .aload_n 0) :: (1, .getfield 25) :: (4, .iload_n 1) :: (5, .iconst 2) :: (6, .invokestatic 26) :: (9, .iadd) :: (10, .iload_n 1) :: (11, .iconst 1) :: (12, .invokestatic 26) :: (15, .isub) :: (16, .istore_n 2) :: (17, .iload_n 1) :: (18, .iconst 0) :: (19, .invokestatic 26) :: (22, .aload_n 0) :: (23, .getfield 15) :: (26, .if_icmp .gt 17) :: kX4_can_29
def kX4_bring_0 : XC := (0, .aload_n 0) :: (1, .getfield 21) :: (4, .iload_n 1) :: (5, .iconst 0) :: (6, .invokestatic 26) :: (9, .iadd) :: (10, .istore_n 2) :: (11, .iload_n 1) :: (12, .iconst 2) :: (13, .invokestatic 26) :: (16, .iload_n 2) :: (17, .invokestatic 30) :: (20, .istore_n 3) :: (21, .aload_n 0) :: (22, .dup) :: (23, .getfield 15) :: (26, .iload_n 3) :: (27, .iload_n 1) :: (28, .iconst 0) :: (29, .invokestatic 26) :: (32, .isub) :: (33, .iadd) :: (34, .putfield 15) :: (37, .aload_n 0) :: (38, .iload_n 2) :: (39, .iload_n 3) :: (40, .isub) :: (41, .putfield 21) :: (44, .aload_n 0) :: (45, .dup) :: (46, .getfield 25) :: (49, .iload_n 1) :: (50, .iconst 2) :: (51, .invokestatic 26) :: (54, .iload_n 1) :: (55, .iconst 1) :: (56, .invokestatic 26) :: (59, .isub) :: (60, .iadd) :: (61, .putfield 25) :: (64, .return_) :: []
def kX5_init_103 : XC := (103, .return_) :: []
def kX5_init_84 : XC := (84, .aload_n 0) :: (85, .getfield 30) :: (88, .iload_n 1) :: (89, .new 28) :: (92, .dup) :: (93, .invokespecial 35) :: (96, .aastore) :: (97, .iinc 1 1) :: (100, .goto (-25)) :: kX5_init_103
def kX5_init_75 : XC := (75, .iload_n 1) :: (76, .aload_n 0) :: (77, .getfield 30) :: (80, .arraylength) :: (81, .if_icmp .ge 22) :: kX5_init_84
def kX5_init_73 : XC := (73, .iconst 0) :: (74, .istore_n 1) :: kX5_init_75
def kX5_init_54 : XC := (54, .aload_n 0) :: (55, .getfield 24) :: (58, .iload_n 1) :: (59, .new 22) :: (62, .dup) :: (63, .invokespecial 34) :: (66, .aastore) :: (67, .iinc 1 1) :: (70, .goto (-25)) :: kX5_init_73
def kX5_init_45 : XC := (45, .iload_n 1) :: (46, .aload_n 0) :: (47, .getfield 24) :: (50, .arraylength) :: (51, .if_icmp .ge 22) :: kX5_init_54
def kX5_init_0 : XC := (0, .aload_n 0) :: (1, .invokespecial 3) :: (4, .aload_n 0) :: (5, .sipush 600) :: (8, .newarray .int) :: (10, .putfield 9) :: (13, .aload_n 0) :: (14, .iconst (-1)) :: (15, .putfield 15) :: (18, .aload_n 0) :: (19, .bipush 6) :: (21, .newarray .int) :: (23, .putfield 19) :: (26, .aload_n 0) :: (27, .iconst 2) :: (28, .anewarray 22) :: (31, .putfield 24) :: (34, .aload_n 0) :: (35, .bipush 10) :: (37, .anewarray 28) :: (40, .putfield 30) :: (43, .iconst 0) :: (44, .istore_n 1) :: kX5_init_45
def kX5_republicKept_23 : XC := (23, .areturn) :: []
def kX5_republicKept_22 : XC := (22, .aconst_null) :: kX5_republicKept_23
def kX5_republicKept_13 : XC := (13, .aload_n 0) :: (14, .getfield 24) :: (17, .iload_n 1) :: (18, .aaload) :: (19, .goto 4) :: kX5_republicKept_22
def kX5_republicKept_4 : XC := (4, .iload_n 1) :: (5, .aload_n 0) :: (6, .getfield 24) :: (9, .arraylength) :: (10, .if_icmp .ge 12) :: kX5_republicKept_13
def kX5_republicKept_0 : XC := (0, .iload_n 1) :: (1, .ifCond .lt 21) :: kX5_republicKept_4
def kX5_rowsKept_31 : XC := (31, .areturn) :: []
def kX5_rowsKept_30 : XC := (30, .aconst_null) :: kX5_rowsKept_31
def kX5_rowsKept_21 : XC := (21, .aload_n 0) :: (22, .getfield 30) :: (25, .iload_n 3) :: (26, .aaload) :: (27, .goto 4) :: kX5_rowsKept_30
def kX5_rowsKept_12 : XC := (12, .iload_n 3) :: (13, .aload_n 0) :: (14, .getfield 30) :: (17, .arraylength) :: (18, .if_icmp .ge 12) :: kX5_rowsKept_21
def kX5_rowsKept_0 : XC := (0, .iload_n 1) :: (1, .iconst 1) :: (2, .isub) :: (3, .iconst 2) :: (4, .imul) :: (5, .iload_n 2) :: (6, .iadd) :: (7, .istore_n 3) :: (8, .iload_n 3) :: (9, .ifCond .lt 21) :: kX5_rowsKept_12
def kX5_copyTold_164 : XC := (164, .return_) :: []
def kX5_copyTold_158 : XC := (158, .iinc 2 1) :: (161, .goto (-54)) :: kX5_copyTold_164
def kX5_copyTold_143 : XC := (143, .aload_n 0) :: (144, .getfield 30) :: (147, .iload_n 2) :: (148, .aaload) :: (149, .aload_n 1) :: (150, .getfield 30) :: (153, .iload_n 2) :: (154, .aaload) :: (155, .invokevirtual 50) :: kX5_copyTold_158
def kX5_copyTold_134 : XC := (134, .aload_n 1) :: (135, .getfield 30) :: (138, .iload_n 2) :: (139, .aaload) :: (140, .ifnull 18) :: kX5_copyTold_143
def kX5_copyTold_125 : XC := (125, .aload_n 0) :: (126, .getfield 30) :: (129, .iload_n 2) :: (130, .aaload) :: (131, .ifnull 27) :: kX5_copyTold_134
def kX5_copyTold_116 : XC := (116, .iload_n 2) :: (117, .aload_n 1) :: (118, .getfield 30) :: (121, .arraylength) :: (122, .if_icmp .ge 42) :: kX5_copyTold_125
def kX5_copyTold_107 : XC := (107, .iload_n 2) :: (108, .aload_n 0) :: (109, .getfield 30) :: (112, .arraylength) :: (113, .if_icmp .ge 51) :: kX5_copyTold_116
def kX5_copyTold_105 : XC := (105, .iconst 0) :: (106, .istore_n 2) :: kX5_copyTold_107
def kX5_copyTold_99 : XC := (99, .iinc 2 1) :: (102, .goto (-54)) :: kX5_copyTold_105
def kX5_copyTold_84 : XC := (84, .aload_n 0) :: (85, .getfield 24) :: (88, .iload_n 2) :: (89, .aaload) :: (90, .aload_n 1) :: (91, .getfield 24) :: (94, .iload_n 2) :: (95, .aaload) :: (96, .invokevirtual 46) :: kX5_copyTold_99
def kX5_copyTold_75 : XC := (75, .aload_n 1) :: (76, .getfield 24) :: (79, .iload_n 2) :: (80, .aaload) :: (81, .ifnull 18) :: kX5_copyTold_84
def kX5_copyTold_66 : XC := (66, .aload_n 0) :: (67, .getfield 24) :: (70, .iload_n 2) :: (71, .aaload) :: (72, .ifnull 27) :: kX5_copyTold_75
def kX5_copyTold_57 : XC := (57, .iload_n 2) :: (58, .aload_n 1) :: (59, .getfield 24) :: (62, .arraylength) :: (63, .if_icmp .ge 42) :: kX5_copyTold_66
def kX5_copyTold_48 : XC := (48, .iload_n 2) :: (49, .aload_n 0) :: (50, .getfield 24) :: (53, .arraylength) :: (54, .if_icmp .ge 51) :: kX5_copyTold_57
def kX5_copyTold_0 : XC := (0, .aload_n 1) :: (1, .getfield 9) :: (4, .aload_n 0) :: (5, .getfield 9) :: (8, .invokestatic 36) :: (11, .aload_n 0) :: (12, .aload_n 1) :: (13, .getfield 40) :: (16, .putfield 40) :: (19, .aload_n 0) :: (20, .aload_n 1) :: (21, .getfield 43) :: (24, .putfield 43) :: (27, .aload_n 0) :: (28, .aload_n 1) :: (29, .getfield 15) :: (32, .putfield 15) :: (35, .aload_n 1) :: (36, .getfield 19) :: (39, .aload_n 0) :: (40, .getfield 19) :: (43, .invokestatic 36) :: (46, .iconst 0) :: (47, .istore_n 2) :: kX5_copyTold_48
def kX6_init_0 : XC := (0, .aload_n 0) :: (1, .invokespecial 1) :: (4, .aload_n 0) :: (5, .new 7) :: (8, .dup) :: (9, .invokespecial 9) :: (12, .putfield 10) :: (15, .aload_n 0) :: (16, .iconst 3) :: (17, .anewarray 7) :: (20, .putfield 16) :: (23, .aload_n 0) :: (24, .new 20) :: (27, .dup) :: (28, .invokespecial 22) :: (31, .putfield 23) :: (34, .aload_n 0) :: (35, .new 27) :: (38, .dup) :: (39, .invokespecial 29) :: (42, .putfield 30) :: (45, .aload_n 0) :: (46, .new 34) :: (49, .dup) :: (50, .invokespecial 36) :: (53, .putfield 37) :: (56, .aload_n 0) :: (57, .bipush 40) :: (59, .newarray .int) :: (61, .putfield 41) :: (64, .aload_n 0) :: (65, .sipush 216) :: (68, .newarray .int) :: (70, .putfield 45) :: (73, .aload_n 0) :: (74, .sipush 1000) :: (77, .newarray .int) :: (79, .putfield 48) :: (82, .return_) :: []
def kX6_feed_18 : XC := (18, .aload_n 0) :: (19, .iload_n 1) :: (20, .invokevirtual 55) :: (23, .aload_n 0) :: (24, .iload_n 2) :: (25, .invokevirtual 55) :: (28, .aload_n 0) :: (29, .iload_n 3) :: (30, .invokevirtual 55) :: (33, .aload_n 0) :: (34, .iload 4) :: (36, .invokevirtual 55) :: (39, .aload_n 0) :: (40, .iload 5) :: (42, .invokevirtual 55) :: (45, .aload_n 0) :: (46, .getfield 10) :: (49, .getfield 51) :: (52, .ireturn) :: []
def kX6_feed_16 : XC := (16, .iconst (-1)) :: (17, .ireturn) :: kX6_feed_18
def kX6_feed_0 : XC := (0, .aload_n 0) :: (1, .getfield 10) :: (4, .getfield 51) :: (7, .bipush 20) :: (9, .iadd) :: (10, .sipush 600) :: (13, .if_icmp .le 5) :: kX6_feed_16
def kX6_feedNumber_50 : XC := (50, .return_) :: []
def kX6_feedNumber_7 : XC := (7, .aload_n 0) :: (8, .getfield 10) :: (11, .getfield 59) :: (14, .aload_n 0) :: (15, .getfield 10) :: (18, .getfield 51) :: (21, .iload_n 1) :: (22, .iload_n 2) :: (23, .iushr) :: (24, .sipush 255) :: (27, .iand) :: (28, .invokestatic 62) :: (31, .aload_n 0) :: (32, .getfield 10) :: (35, .dup) :: (36, .getfield 51) :: (39, .iconst 1) :: (40, .iadd) :: (41, .putfield 51) :: (44, .iinc 2 (-8)) :: (47, .goto (-44)) :: kX6_feedNumber_50
def kX6_feedNumber_3 : XC := (3, .iload_n 2) :: (4, .ifCond .lt 46) :: kX6_feedNumber_7
def kX6_feedNumber_0 : XC := (0, .bipush 24) :: (2, .istore_n 2) :: kX6_feedNumber_3
def kX6_end_17 : XC := (17, .aload_n 0) :: (18, .getfield 10) :: (21, .iload_n 1) :: (22, .putfield 51) :: (25, .iload_n 1) :: (26, .ireturn) :: []
def kX6_end_15 : XC := (15, .iconst (-1)) :: (16, .ireturn) :: kX6_end_17
def kX6_end_4 : XC := (4, .iload_n 1) :: (5, .aload_n 0) :: (6, .getfield 10) :: (9, .getfield 51) :: (12, .if_icmp .le 5) :: kX6_end_15
def kX6_end_0 : XC := (0, .iload_n 1) :: (1, .ifCond .lt 14) :: kX6_end_4
def kX6_text_105 : XC := (105, .aload_n 0) :: (106, .iload_n 1) :: (107, .iload_n 3) :: (108, .invokevirtual 81) :: (111, .iload_n 3) :: (112, .ireturn) :: []
def kX6_text_103 : XC := (103, .iconst (-1)) :: (104, .ireturn) :: kX6_text_105
def kX6_text_48 : XC := (48, .aload_n 0) :: (49, .getfield 23) :: (52, .aload_n 0) :: (53, .getfield 10) :: (56, .getfield 59) :: (59, .iload 4) :: (61, .iload_n 1) :: (62, .invokevirtual 76) :: (65, .aload_n 0) :: (66, .getfield 10) :: (69, .aload_n 0) :: (70, .getfield 23) :: (73, .getfield 79) :: (76, .putfield 70) :: (79, .aload_n 0) :: (80, .getfield 10) :: (83, .aload_n 0) :: (84, .getfield 23) :: (87, .getfield 80) :: (90, .putfield 73) :: (93, .aload_n 0) :: (94, .getfield 23) :: (97, .getfield 79) :: (100, .ifCond .eq 5) :: kX6_text_103
def kX6_text_45 : XC := (45, .bipush (-2)) :: (47, .ireturn) :: kX6_text_48
def kX6_text_0 : XC := (0, .aload_n 0) :: (1, .iload_n 1) :: (2, .iload_n 2) :: (3, .invokevirtual 66) :: (6, .istore_n 3) :: (7, .aload_n 0) :: (8, .getfield 10) :: (11, .getfield 51) :: (14, .istore 4) :: (16, .aload_n 0) :: (17, .getfield 10) :: (20, .iconst 0) :: (21, .putfield 51) :: (24, .aload_n 0) :: (25, .getfield 10) :: (28, .iconst 0) :: (29, .putfield 70) :: (32, .aload_n 0) :: (33, .getfield 10) :: (36, .iconst (-1)) :: (37, .putfield 73) :: (40, .iload_n 3) :: (41, .iconst (-1)) :: (42, .if_icmp .ne 6) :: kX6_text_45
def kX6_placeFor_54 : XC := (54, .ireturn) :: []
def kX6_placeFor_53 : XC := (53, .iconst (-1)) :: kX6_placeFor_54
def kX6_placeFor_49 : XC := (49, .iload_n 2) :: (50, .goto 4) :: kX6_placeFor_53
def kX6_placeFor_44 : XC := (44, .iload_n 2) :: (45, .iload_n 3) :: (46, .if_icmp .ge 7) :: kX6_placeFor_49
def kX6_placeFor_40 : XC := (40, .iload_n 2) :: (41, .ifCond .lt 12) :: kX6_placeFor_44
def kX6_placeFor_39 : XC := (39, .ireturn) :: kX6_placeFor_40
def kX6_placeFor_38 : XC := (38, .iconst (-1)) :: kX6_placeFor_39
def kX6_placeFor_34 : XC := (34, .iload_n 3) :: (35, .goto 4) :: kX6_placeFor_38
def kX6_placeFor_29 : XC := (29, .iload_n 3) :: (30, .iconst 2) :: (31, .if_icmp .ge 7) :: kX6_placeFor_34
def kX6_placeFor_12 : XC := (12, .aload_n 0) :: (13, .getfield 10) :: (16, .getfield 85) :: (19, .iload_n 1) :: (20, .invokestatic 88) :: (23, .istore_n 3) :: (24, .iload_n 2) :: (25, .iconst (-1)) :: (26, .if_icmp .ne 14) :: kX6_placeFor_29
def kX6_placeFor_10 : XC := (10, .iconst (-1)) :: (11, .ireturn) :: kX6_placeFor_12
def kX6_placeFor_4 : XC := (4, .iload_n 1) :: (5, .bipush 6) :: (7, .if_icmp .lt 5) :: kX6_placeFor_10
def kX6_placeFor_0 : XC := (0, .iload_n 1) :: (1, .ifCond .lt 9) :: kX6_placeFor_4
def kX6_keep_56 : XC := (56, .aload_n 0) :: (57, .getfield 10) :: (60, .getfield 85) :: (63, .iload_n 1) :: (64, .aload_n 0) :: (65, .getfield 10) :: (68, .getfield 85) :: (71, .iload_n 1) :: (72, .invokestatic 88) :: (75, .iload_n 2) :: (76, .iconst 1) :: (77, .iadd) :: (78, .invokestatic 120) :: (81, .invokestatic 62) :: (84, .return_) :: []
def kX6_keep_45 : XC := (45, .aload_n 3) :: (46, .aload_n 0) :: (47, .getfield 23) :: (50, .getfield 110) :: (53, .invokevirtual 114) :: kX6_keep_56
def kX6_keep_31 : XC := (31, .aload_n 0) :: (32, .getfield 10) :: (35, .iload_n 1) :: (36, .iload_n 2) :: (37, .invokevirtual 106) :: (40, .astore_n 3) :: (41, .aload_n 3) :: (42, .ifnull 14) :: kX6_keep_45
def kX6_keep_28 : XC := (28, .goto 28) :: kX6_keep_31
def kX6_keep_17 : XC := (17, .aload_n 3) :: (18, .aload_n 0) :: (19, .getfield 23) :: (22, .getfield 96) :: (25, .invokevirtual 100) :: kX6_keep_28
def kX6_keep_4 : XC := (4, .aload_n 0) :: (5, .getfield 10) :: (8, .iload_n 2) :: (9, .invokevirtual 92) :: (12, .astore_n 3) :: (13, .aload_n 3) :: (14, .ifnull 14) :: kX6_keep_17
def kX6_keep_0 : XC := (0, .iload_n 1) :: (1, .ifCond .ne 30) :: kX6_keep_4
def kX6_fault_28 : XC := (28, .ireturn) :: []
def kX6_fault_27 : XC := (27, .iconst (-1)) :: kX6_fault_28
def kX6_fault_17 : XC := (17, .aload_n 0) :: (18, .getfield 10) :: (21, .getfield 73) :: (24, .goto 4) :: kX6_fault_27
def kX6_fault_12 : XC := (12, .iload_n 1) :: (13, .iconst 1) :: (14, .if_icmp .ne 13) :: kX6_fault_17
def kX6_fault_4 : XC := (4, .aload_n 0) :: (5, .getfield 10) :: (8, .getfield 70) :: (11, .ireturn) :: kX6_fault_12
def kX6_fault_0 : XC := (0, .iload_n 1) :: (1, .ifCond .ne 11) :: kX6_fault_4
def kX6_count_26 : XC := (26, .ireturn) :: []
def kX6_count_24 : XC := (24, .bipush (-2)) :: kX6_count_26
def kX6_count_10 : XC := (10, .aload_n 0) :: (11, .getfield 10) :: (14, .getfield 85) :: (17, .iload_n 1) :: (18, .invokestatic 88) :: (21, .goto 5) :: kX6_count_24
def kX6_count_4 : XC := (4, .iload_n 1) :: (5, .bipush 6) :: (7, .if_icmp .ge 17) :: kX6_count_10
def kX6_count_0 : XC := (0, .iload_n 1) :: (1, .ifCond .lt 23) :: kX6_count_4
def kX6_image_40 : XC := (40, .astore_n 2) :: (41, .aload_n 2) :: (42, .aload_n 0) :: (43, .getfield 10) :: (46, .invokevirtual 125) :: (49, .aload_n 0) :: (50, .getfield 16) :: (53, .iload_n 1) :: (54, .aload_n 2) :: (55, .aastore) :: (56, .iconst 1) :: (57, .ireturn) :: []
def kX6_image_34 : XC := (34, .aload_n 0) :: (35, .getfield 16) :: (38, .iload_n 1) :: (39, .aaload) :: kX6_image_40
def kX6_image_24 : XC := (24, .new 7) :: (27, .dup) :: (28, .invokespecial 9) :: (31, .goto 9) :: kX6_image_34
def kX6_image_15 : XC := (15, .aload_n 0) :: (16, .getfield 16) :: (19, .iload_n 1) :: (20, .aaload) :: (21, .ifnonnull 13) :: kX6_image_24
def kX6_image_13 : XC := (13, .iconst 0) :: (14, .ireturn) :: kX6_image_15
def kX6_image_4 : XC := (4, .iload_n 1) :: (5, .aload_n 0) :: (6, .getfield 16) :: (9, .arraylength) :: (10, .if_icmp .lt 5) :: kX6_image_13
def kX6_image_0 : XC := (0, .iload_n 1) :: (1, .ifCond .lt 12) :: kX6_image_4
def kX6_again_24 : XC := (24, .aload_n 0) :: (25, .getfield 10) :: (28, .aload_n 0) :: (29, .getfield 16) :: (32, .iload_n 1) :: (33, .aaload) :: (34, .invokevirtual 125) :: (37, .iconst 1) :: (38, .ireturn) :: []
def kX6_again_22 : XC := (22, .iconst 0) :: (23, .ireturn) :: kX6_again_24
def kX6_again_13 : XC := (13, .aload_n 0) :: (14, .getfield 16) :: (17, .iload_n 1) :: (18, .aaload) :: (19, .ifnonnull 5) :: kX6_again_22
def kX6_again_4 : XC := (4, .iload_n 1) :: (5, .aload_n 0) :: (6, .getfield 16) :: (9, .arraylength) :: (10, .if_icmp .ge 12) :: kX6_again_13
def kX6_again_0 : XC := (0, .iload_n 1) :: (1, .ifCond .lt 21) :: kX6_again_4
def kX6_republicAt_31 : XC := (31, .areturn) :: []
def kX6_republicAt_30 : XC := (30, .aconst_null) :: kX6_republicAt_31
def kX6_republicAt_19 : XC := (19, .aload_n 0) :: (20, .getfield 10) :: (23, .iload_n 1) :: (24, .invokevirtual 92) :: (27, .goto 4) :: kX6_republicAt_30
def kX6_republicAt_4 : XC := (4, .iload_n 1) :: (5, .aload_n 0) :: (6, .getfield 10) :: (9, .getfield 85) :: (12, .iconst 0) :: (13, .invokestatic 88) :: (16, .if_icmp .ge 14) :: kX6_republicAt_19
def kX6_republicAt_0 : XC := (0, .iload_n 1) :: (1, .ifCond .lt 29) :: kX6_republicAt_4
def kX6_rowsAt_32 : XC := (32, .areturn) :: []
def kX6_rowsAt_31 : XC := (31, .aconst_null) :: kX6_rowsAt_32
def kX6_rowsAt_19 : XC := (19, .aload_n 0) :: (20, .getfield 10) :: (23, .iload_n 1) :: (24, .iload_n 2) :: (25, .invokevirtual 106) :: (28, .goto 4) :: kX6_rowsAt_31
def kX6_rowsAt_4 : XC := (4, .iload_n 2) :: (5, .aload_n 0) :: (6, .getfield 10) :: (9, .getfield 85) :: (12, .iload_n 1) :: (13, .invokestatic 88) :: (16, .if_icmp .ge 15) :: kX6_rowsAt_19
def kX6_rowsAt_0 : XC := (0, .iload_n 2) :: (1, .ifCond .lt 30) :: kX6_rowsAt_4
def kX6_republic_122 : XC := (122, .iconst (-1)) :: (123, .ireturn) :: []
def kX6_republic_110 : XC := (110, .aload_n 3) :: (111, .getfield 150) :: (114, .iload_n 2) :: (115, .bipush 10) :: (117, .isub) :: (118, .invokestatic 88) :: (121, .ireturn) :: kX6_republic_122
def kX6_republic_105 : XC := (105, .aload_n 3) :: (106, .getfield 147) :: (109, .ireturn) :: kX6_republic_110
def kX6_republic_100 : XC := (100, .aload_n 3) :: (101, .getfield 144) :: (104, .ireturn) :: kX6_republic_105
def kX6_republic_95 : XC := (95, .aload_n 3) :: (96, .getfield 141) :: (99, .ireturn) :: kX6_republic_100
def kX6_republic_90 : XC := (90, .aload_n 3) :: (91, .getfield 138) :: (94, .ireturn) :: kX6_republic_95
def kX6_republic_85 : XC := (85, .aload_n 3) :: (86, .getfield 135) :: (89, .ireturn) :: kX6_republic_90
def kX6_republic_80 : XC := (80, .aload_n 3) :: (81, .getfield 132) :: (84, .ireturn) :: kX6_republic_85
def kX6_republic_13 : XC := (13, .tableswitch 109 0 12 #[67, 72, 77, 82, 87, 92, 109, 109, 109, 109, 97, 97, 97]) :: kX6_republic_80
def kX6_republic_12 : XC := (12, .iload_n 2) :: kX6_republic_13
def kX6_republic_10 : XC := (10, .iconst (-1)) :: (11, .ireturn) :: kX6_republic_12
def kX6_republic_0 : XC := (0, .aload_n 0) :: (1, .iload_n 1) :: (2, .invokevirtual 129) :: (5, .astore_n 3) :: (6, .aload_n 3) :: (7, .ifnonnull 5) :: kX6_republic_10
def kX6_minister_158 : XC := (158, .ireturn) :: []
def kX6_minister_157 : XC := (157, .iconst (-1)) :: kX6_minister_158
def kX6_minister_144 : XC := (144, .aload 4) :: (146, .iload_n 2) :: (147, .iload_n 3) :: (148, .bipush 10) :: (150, .isub) :: (151, .invokevirtual 179) :: (154, .goto 4) :: kX6_minister_157
def kX6_minister_138 : XC := (138, .iload_n 3) :: (139, .bipush 22) :: (141, .if_icmp .ge 16) :: kX6_minister_144
def kX6_minister_132 : XC := (132, .iload_n 3) :: (133, .bipush 10) :: (135, .if_icmp .lt 22) :: kX6_minister_138
def kX6_minister_122 : XC := (122, .aload 4) :: (124, .getfield 176) :: (127, .iload_n 2) :: (128, .invokestatic 88) :: (131, .ireturn) :: kX6_minister_132
def kX6_minister_121 : XC := (121, .ireturn) :: kX6_minister_122
def kX6_minister_120 : XC := (120, .iconst 0) :: kX6_minister_121
def kX6_minister_116 : XC := (116, .iconst 1) :: (117, .goto 4) :: kX6_minister_120
def kX6_minister_104 : XC := (104, .aload 4) :: (106, .getfield 169) :: (109, .iload_n 2) :: (110, .invokestatic 172) :: (113, .ifCond .eq 7) :: kX6_minister_116
def kX6_minister_94 : XC := (94, .aload 4) :: (96, .getfield 166) :: (99, .iload_n 2) :: (100, .invokestatic 88) :: (103, .ireturn) :: kX6_minister_104
def kX6_minister_84 : XC := (84, .aload 4) :: (86, .getfield 163) :: (89, .iload_n 2) :: (90, .invokestatic 88) :: (93, .ireturn) :: kX6_minister_94
def kX6_minister_74 : XC := (74, .aload 4) :: (76, .getfield 160) :: (79, .iload_n 2) :: (80, .invokestatic 88) :: (83, .ireturn) :: kX6_minister_84
def kX6_minister_64 : XC := (64, .aload 4) :: (66, .getfield 157) :: (69, .iload_n 2) :: (70, .invokestatic 88) :: (73, .ireturn) :: kX6_minister_74
def kX6_minister_24 : XC := (24, .tableswitch 108 0 5 #[40, 50, 60, 70, 80, 98]) :: kX6_minister_64
def kX6_minister_23 : XC := (23, .iload_n 3) :: kX6_minister_24
def kX6_minister_21 : XC := (21, .iconst (-1)) :: (22, .ireturn) :: kX6_minister_23
def kX6_minister_12 : XC := (12, .aload 4) :: (14, .iload_n 2) :: (15, .invokevirtual 153) :: (18, .ifCond .ne 5) :: kX6_minister_21
def kX6_minister_0 : XC := (0, .aload_n 0) :: (1, .iload_n 1) :: (2, .invokevirtual 129) :: (5, .astore 4) :: (7, .aload 4) :: (9, .ifnull 12) :: kX6_minister_12
def kX6_order_0 : XC := (0, .aload_n 0) :: (1, .iconst 1) :: (2, .iload_n 1) :: (3, .invokevirtual 182) :: (6, .iload_n 2) :: (7, .iload_n 3) :: (8, .iconst 5) :: (9, .invokestatic 185) :: (12, .ireturn) :: []
def kX6_deed_0 : XC := (0, .aload_n 0) :: (1, .iconst 2) :: (2, .iload_n 1) :: (3, .invokevirtual 182) :: (6, .iload_n 2) :: (7, .iload_n 3) :: (8, .iconst 5) :: (9, .invokestatic 185) :: (12, .ireturn) :: []
def kX6_leak_0 : XC := (0, .aload_n 0) :: (1, .iconst 3) :: (2, .iload_n 1) :: (3, .invokevirtual 182) :: (6, .iload_n 2) :: (7, .iload_n 3) :: (8, .iconst 2) :: (9, .invokestatic 185) :: (12, .ireturn) :: []
def kX6_was_0 : XC := (0, .aload_n 0) :: (1, .iconst 4) :: (2, .iload_n 1) :: (3, .invokevirtual 182) :: (6, .iload_n 2) :: (7, .iload_n 3) :: (8, .iconst 4) :: (9, .invokestatic 185) :: (12, .ireturn) :: []
def kX6_rowTold_58 : XC := (58, .ireturn) :: []
def kX6_rowTold_56 : XC := (56, .bipush (-2)) :: kX6_rowTold_58
def kX6_rowTold_47 : XC := (47, .aload_n 0) :: (48, .iload_n 1) :: (49, .iload_n 2) :: (50, .invokevirtual 190) :: (53, .goto 5) :: kX6_rowTold_56
def kX6_rowTold_39 : XC := (39, .iload_n 1) :: (40, .aload_n 0) :: (41, .getfield 189) :: (44, .if_icmp .ge 12) :: kX6_rowTold_47
def kX6_rowTold_35 : XC := (35, .iload_n 1) :: (36, .ifCond .lt 20) :: kX6_rowTold_39
def kX6_rowTold_34 : XC := (34, .ireturn) :: kX6_rowTold_35
def kX6_rowTold_32 : XC := (32, .bipush (-2)) :: kX6_rowTold_34
def kX6_rowTold_25 : XC := (25, .aload_n 0) :: (26, .getfield 189) :: (29, .goto 5) :: kX6_rowTold_32
def kX6_rowTold_21 : XC := (21, .iload_n 2) :: (22, .ifCond .ne 10) :: kX6_rowTold_25
def kX6_rowTold_16 : XC := (16, .iload_n 1) :: (17, .iconst (-1)) :: (18, .if_icmp .ne 17) :: kX6_rowTold_21
def kX6_rowTold_13 : XC := (13, .bipush (-2)) :: (15, .ireturn) :: kX6_rowTold_16
def kX6_rowTold_8 : XC := (8, .iload_n 2) :: (9, .iload_n 3) :: (10, .if_icmp .lt 6) :: kX6_rowTold_13
def kX6_rowTold_4 : XC := (4, .iload_n 2) :: (5, .ifCond .lt 8) :: kX6_rowTold_8
def kX6_rowTold_0 : XC := (0, .aload_n 0) :: (1, .ifnull 12) :: kX6_rowTold_4
def kX6_movedIn_40 : XC := (40, .areturn) :: []
def kX6_movedIn_39 : XC := (39, .aconst_null) :: kX6_movedIn_40
def kX6_movedIn_34 : XC := (34, .aload 5) :: (36, .goto 4) :: kX6_movedIn_39
def kX6_movedIn_28 : XC := (28, .iload 4) :: (30, .iconst (-1)) :: (31, .if_icmp .eq 8) :: kX6_movedIn_34
def kX6_movedIn_21 : XC := (21, .iload_n 3) :: (22, .invokestatic 193) :: (25, .ifCond .eq 14) :: kX6_movedIn_28
def kX6_movedIn_12 : XC := (12, .aload 5) :: (14, .iload_n 2) :: (15, .invokevirtual 153) :: (18, .ifCond .eq 21) :: kX6_movedIn_21
def kX6_movedIn_0 : XC := (0, .aload_n 0) :: (1, .iload_n 1) :: (2, .invokevirtual 129) :: (5, .astore 5) :: (7, .aload 5) :: (9, .ifnull 30) :: kX6_movedIn_12
def kX6_off_40 : XC := (40, .ireturn) :: []
def kX6_off_31 : XC := (31, .aload 8) :: (33, .iload_n 2) :: (34, .iload_n 3) :: (35, .iload 7) :: (37, .invokevirtual 204) :: kX6_off_40
def kX6_off_27 : XC := (27, .iconst (-1)) :: (28, .goto 12) :: kX6_off_31
def kX6_off_0 : XC := (0, .iload 4) :: (2, .iload 5) :: (4, .iload 6) :: (6, .invokestatic 196) :: (9, .istore 7) :: (11, .aload_n 0) :: (12, .iload_n 1) :: (13, .iload_n 2) :: (14, .iload_n 3) :: (15, .iload 7) :: (17, .invokevirtual 200) :: (20, .astore 8) :: (22, .aload 8) :: (24, .ifnonnull 7) :: kX6_off_27
def kX6_vote_68 : XC := (68, .ireturn) :: []
def kX6_vote_67 : XC := (67, .iconst 0) :: kX6_vote_68
def kX6_vote_63 : XC := (63, .iconst 1) :: (64, .goto 4) :: kX6_vote_67
def kX6_vote_48 : XC := (48, .aload 9) :: (50, .aload 9) :: (52, .invokevirtual 210) :: (55, .iload 10) :: (57, .invokevirtual 214) :: (60, .ifCond .eq 7) :: kX6_vote_63
def kX6_vote_45 : XC := (45, .iload 10) :: (47, .ireturn) :: kX6_vote_48
def kX6_vote_29 : XC := (29, .aload 9) :: (31, .iload_n 2) :: (32, .iload_n 3) :: (33, .iload 8) :: (35, .invokevirtual 207) :: (38, .istore 10) :: (40, .iload 7) :: (42, .ifCond .ne 6) :: kX6_vote_45
def kX6_vote_27 : XC := (27, .iconst (-1)) :: (28, .ireturn) :: kX6_vote_29
def kX6_vote_0 : XC := (0, .iload 4) :: (2, .iload 5) :: (4, .iload 6) :: (6, .invokestatic 196) :: (9, .istore 8) :: (11, .aload_n 0) :: (12, .iload_n 1) :: (13, .iload_n 2) :: (14, .iload_n 3) :: (15, .iload 8) :: (17, .invokevirtual 200) :: (20, .astore 9) :: (22, .aload 9) :: (24, .ifnonnull 5) :: kX6_vote_27
def kX6_broken_52 : XC := (52, .aload 7) :: (54, .iload_n 2) :: (55, .iload 8) :: (57, .iload 6) :: (59, .invokestatic 217) :: (62, .ireturn) :: []
def kX6_broken_50 : XC := (50, .iconst (-1)) :: (51, .ireturn) :: kX6_broken_52
def kX6_broken_42 : XC := (42, .iload 6) :: (44, .sipush 1000) :: (47, .if_icmp .lt 5) :: kX6_broken_50
def kX6_broken_36 : XC := (36, .iload 6) :: (38, .iconst (-1)) :: (39, .if_icmp .lt 11) :: kX6_broken_42
def kX6_broken_30 : XC := (30, .iload 8) :: (32, .iconst (-1)) :: (33, .if_icmp .eq 17) :: kX6_broken_36
def kX6_broken_23 : XC := (23, .iload_n 2) :: (24, .invokestatic 193) :: (27, .ifCond .eq 23) :: kX6_broken_30
def kX6_broken_0 : XC := (0, .aload_n 0) :: (1, .iconst 1) :: (2, .iload_n 1) :: (3, .invokevirtual 182) :: (6, .astore 7) :: (8, .iload_n 3) :: (9, .iload 4) :: (11, .iload 5) :: (13, .invokestatic 196) :: (16, .istore 8) :: (18, .aload 7) :: (20, .ifnull 30) :: kX6_broken_23
def kX6_firstBroken_39 : XC := (39, .iconst (-1)) :: (40, .ireturn) :: []
def kX6_firstBroken_33 : XC := (33, .iinc 4 1) :: (36, .goto (-27)) :: kX6_firstBroken_39
def kX6_firstBroken_30 : XC := (30, .iload 4) :: (32, .ireturn) :: kX6_firstBroken_33
def kX6_firstBroken_18 : XC := (18, .aload_n 0) :: (19, .iload 4) :: (21, .iload_n 1) :: (22, .iload_n 2) :: (23, .iload_n 3) :: (24, .invokestatic 220) :: (27, .ifCond .eq 6) :: kX6_firstBroken_30
def kX6_firstBroken_9 : XC := (9, .iload 4) :: (11, .aload_n 0) :: (12, .getfield 189) :: (15, .if_icmp .ge 24) :: kX6_firstBroken_18
def kX6_firstBroken_6 : XC := (6, .iconst 0) :: (7, .istore 4) :: kX6_firstBroken_9
def kX6_firstBroken_4 : XC := (4, .iconst (-1)) :: (5, .ireturn) :: kX6_firstBroken_6
def kX6_firstBroken_0 : XC := (0, .aload_n 0) :: (1, .ifnonnull 5) :: kX6_firstBroken_4
def kX6_isBroken_191 : XC := (191, .iconst 0) :: (192, .ireturn) :: []
def kX6_isBroken_190 : XC := (190, .ireturn) :: kX6_isBroken_191
def kX6_isBroken_189 : XC := (189, .iconst 0) :: kX6_isBroken_190
def kX6_isBroken_185 : XC := (185, .iconst 1) :: (186, .goto 4) :: kX6_isBroken_189
def kX6_isBroken_170 : XC := (170, .iload_n 3) :: (171, .iload 7) :: (173, .invokestatic 224) :: (176, .aload_n 0) :: (177, .iload_n 1) :: (178, .iconst 4) :: (179, .invokevirtual 190) :: (182, .if_icmp .le 7) :: kX6_isBroken_185
def kX6_isBroken_158 : XC := (158, .iload 4) :: (160, .iload 5) :: (162, .invokestatic 224) :: (165, .iload 6) :: (167, .if_icmp .lt 22) :: kX6_isBroken_170
def kX6_isBroken_152 : XC := (152, .iload 4) :: (154, .iconst (-1)) :: (155, .if_icmp .eq 34) :: kX6_isBroken_158
def kX6_isBroken_151 : XC := (151, .ireturn) :: kX6_isBroken_152
def kX6_isBroken_150 : XC := (150, .iconst 0) :: kX6_isBroken_151
def kX6_isBroken_146 : XC := (146, .iconst 1) :: (147, .goto 4) :: kX6_isBroken_150
def kX6_isBroken_124 : XC := (124, .iload_n 3) :: (125, .iconst 0) :: (126, .invokestatic 224) :: (129, .iload_n 3) :: (130, .iconst 1) :: (131, .invokestatic 224) :: (134, .iadd) :: (135, .iload_n 3) :: (136, .iconst 2) :: (137, .invokestatic 224) :: (140, .iadd) :: (141, .iload 5) :: (143, .if_icmp .le 7) :: kX6_isBroken_146
def kX6_isBroken_123 : XC := (123, .ireturn) :: kX6_isBroken_124
def kX6_isBroken_122 : XC := (122, .iconst 0) :: kX6_isBroken_123
def kX6_isBroken_118 : XC := (118, .iconst 1) :: (119, .goto 4) :: kX6_isBroken_122
def kX6_isBroken_107 : XC := (107, .iload_n 3) :: (108, .iload 5) :: (110, .invokestatic 224) :: (113, .iload 6) :: (115, .if_icmp .ge 7) :: kX6_isBroken_118
def kX6_isBroken_102 : XC := (102, .iload 8) :: (104, .ifCond .eq 18) :: kX6_isBroken_107
def kX6_isBroken_101 : XC := (101, .ireturn) :: kX6_isBroken_102
def kX6_isBroken_100 : XC := (100, .iconst 0) :: kX6_isBroken_101
def kX6_isBroken_96 : XC := (96, .iconst 1) :: (97, .goto 4) :: kX6_isBroken_100
def kX6_isBroken_85 : XC := (85, .iload_n 3) :: (86, .iload 5) :: (88, .invokestatic 224) :: (91, .iload 6) :: (93, .if_icmp .le 7) :: kX6_isBroken_96
def kX6_isBroken_80 : XC := (80, .iload 8) :: (82, .ifCond .eq 18) :: kX6_isBroken_85
def kX6_isBroken_49 : XC := (49, .tableswitch 142 0 3 #[31, 53, 75, 103]) :: kX6_isBroken_80
def kX6_isBroken_41 : XC := (41, .istore 8) :: (43, .aload_n 0) :: (44, .iload_n 1) :: (45, .iconst 0) :: (46, .invokevirtual 190) :: kX6_isBroken_49
def kX6_isBroken_40 : XC := (40, .iconst 0) :: kX6_isBroken_41
def kX6_isBroken_36 : XC := (36, .iconst 1) :: (37, .goto 4) :: kX6_isBroken_40
def kX6_isBroken_30 : XC := (30, .iload 7) :: (32, .iload_n 2) :: (33, .if_icmp .ne 7) :: kX6_isBroken_36
def kX6_isBroken_0 : XC := (0, .aload_n 0) :: (1, .iload_n 1) :: (2, .iconst 1) :: (3, .invokevirtual 190) :: (6, .istore 5) :: (8, .aload_n 0) :: (9, .iload_n 1) :: (10, .iconst 2) :: (11, .invokevirtual 190) :: (14, .istore 6) :: (16, .aload_n 0) :: (17, .iload_n 1) :: (18, .iconst 3) :: (19, .invokevirtual 190) :: (22, .istore 7) :: (24, .iload 7) :: (26, .iconst (-1)) :: (27, .if_icmp .eq 9) :: kX6_isBroken_30
def kX6_stop_40 : XC := (40, .aload_n 0) :: (41, .getfield 30) :: (44, .aload 4) :: (46, .aload 5) :: (48, .aload 6) :: (50, .aload 6) :: (52, .getfield 189) :: (55, .invokevirtual 227) :: (58, .ireturn) :: []
def kX6_stop_38 : XC := (38, .iconst (-1)) :: (39, .ireturn) :: kX6_stop_40
def kX6_stop_33 : XC := (33, .aload 6) :: (35, .ifnonnull 5) :: kX6_stop_38
def kX6_stop_28 : XC := (28, .aload 5) :: (30, .ifnull 8) :: kX6_stop_33
def kX6_stop_0 : XC := (0, .aload_n 0) :: (1, .iload_n 1) :: (2, .invokevirtual 129) :: (5, .astore 4) :: (7, .aload_n 0) :: (8, .iconst 1) :: (9, .iload_n 2) :: (10, .invokevirtual 182) :: (13, .astore 5) :: (15, .aload_n 0) :: (16, .iconst 2) :: (17, .iload_n 3) :: (18, .invokevirtual 182) :: (21, .astore 6) :: (23, .aload 4) :: (25, .ifnull 13) :: kX6_stop_28
def kX6_state_89 : XC := (89, .ireturn) :: []
def kX6_state_87 : XC := (87, .bipush (-2)) :: kX6_state_89
def kX6_state_76 : XC := (76, .aload_n 0) :: (77, .aload 6) :: (79, .iload 5) :: (81, .invokevirtual 231) :: (84, .goto 5) :: kX6_state_87
def kX6_state_56 : XC := (56, .aload_n 0) :: (57, .getfield 30) :: (60, .aload 6) :: (62, .aload 7) :: (64, .aload 8) :: (66, .iload 4) :: (68, .invokevirtual 227) :: (71, .iload 4) :: (73, .if_icmp .ne 14) :: kX6_state_76
def kX6_state_53 : XC := (53, .bipush (-2)) :: (55, .ireturn) :: kX6_state_56
def kX6_state_43 : XC := (43, .iload 4) :: (45, .aload 8) :: (47, .getfield 189) :: (50, .if_icmp .le 6) :: kX6_state_53
def kX6_state_38 : XC := (38, .iload 4) :: (40, .ifCond .lt 13) :: kX6_state_43
def kX6_state_33 : XC := (33, .aload 8) :: (35, .ifnull 18) :: kX6_state_38
def kX6_state_28 : XC := (28, .aload 7) :: (30, .ifnull 23) :: kX6_state_33
def kX6_state_0 : XC := (0, .aload_n 0) :: (1, .iload_n 1) :: (2, .invokevirtual 129) :: (5, .astore 6) :: (7, .aload_n 0) :: (8, .iconst 1) :: (9, .iload_n 2) :: (10, .invokevirtual 182) :: (13, .astore 7) :: (15, .aload_n 0) :: (16, .iconst 2) :: (17, .iload_n 3) :: (18, .invokevirtual 182) :: (21, .astore 8) :: (23, .aload 6) :: (25, .ifnull 28) :: kX6_state_28
def kX6_stateTold_224 : XC := (224, .ireturn) :: []
def kX6_stateTold_222 : XC := (222, .bipush (-2)) :: kX6_stateTold_224
def kX6_stateTold_205 : XC := (205, .aload_n 0) :: (206, .getfield 30) :: (209, .getfield 262) :: (212, .iload_n 2) :: (213, .bipush 20) :: (215, .isub) :: (216, .invokestatic 88) :: (219, .goto 5) :: kX6_stateTold_222
def kX6_stateTold_194 : XC := (194, .aload_n 1) :: (195, .iload_n 2) :: (196, .bipush 20) :: (198, .isub) :: (199, .invokevirtual 153) :: (202, .ifCond .eq 20) :: kX6_stateTold_205
def kX6_stateTold_188 : XC := (188, .iload_n 2) :: (189, .bipush 20) :: (191, .if_icmp .lt 31) :: kX6_stateTold_194
def kX6_stateTold_173 : XC := (173, .aload_n 0) :: (174, .getfield 30) :: (177, .getfield 261) :: (180, .iload_n 2) :: (181, .bipush 10) :: (183, .isub) :: (184, .invokestatic 88) :: (187, .ireturn) :: kX6_stateTold_188
def kX6_stateTold_165 : XC := (165, .aload_n 0) :: (166, .getfield 30) :: (169, .getfield 258) :: (172, .ireturn) :: kX6_stateTold_173
def kX6_stateTold_164 : XC := (164, .ireturn) :: kX6_stateTold_165
def kX6_stateTold_163 : XC := (163, .iconst 0) :: kX6_stateTold_164
def kX6_stateTold_159 : XC := (159, .iconst 1) :: (160, .goto 4) :: kX6_stateTold_163
def kX6_stateTold_141 : XC := (141, .aload_n 1) :: (142, .aload_n 0) :: (143, .getfield 30) :: (146, .getfield 241) :: (149, .invokevirtual 254) :: (152, .aload_n 1) :: (153, .getfield 135) :: (156, .if_icmp .ge 7) :: kX6_stateTold_159
def kX6_stateTold_133 : XC := (133, .aload_n 0) :: (134, .getfield 30) :: (137, .getfield 251) :: (140, .ireturn) :: kX6_stateTold_141
def kX6_stateTold_122 : XC := (122, .aload_n 0) :: (123, .getfield 30) :: (126, .getfield 247) :: (129, .getfield 250) :: (132, .ireturn) :: kX6_stateTold_133
def kX6_stateTold_111 : XC := (111, .aload_n 0) :: (112, .getfield 30) :: (115, .getfield 247) :: (118, .getfield 249) :: (121, .ireturn) :: kX6_stateTold_122
def kX6_stateTold_100 : XC := (100, .aload_n 0) :: (101, .getfield 30) :: (104, .getfield 247) :: (107, .getfield 248) :: (110, .ireturn) :: kX6_stateTold_111
def kX6_stateTold_92 : XC := (92, .aload_n 0) :: (93, .getfield 30) :: (96, .getfield 244) :: (99, .ireturn) :: kX6_stateTold_100
def kX6_stateTold_84 : XC := (84, .aload_n 0) :: (85, .getfield 30) :: (88, .getfield 241) :: (91, .ireturn) :: kX6_stateTold_92
def kX6_stateTold_76 : XC := (76, .aload_n 0) :: (77, .getfield 30) :: (80, .getfield 238) :: (83, .ireturn) :: kX6_stateTold_84
def kX6_stateTold_68 : XC := (68, .aload_n 0) :: (69, .getfield 30) :: (72, .getfield 235) :: (75, .ireturn) :: kX6_stateTold_76
def kX6_stateTold_1 : XC := (1, .tableswitch 187 0 12 #[67, 75, 83, 91, 99, 110, 121, 132, 140, 164, 172, 172, 172]) :: kX6_stateTold_68
def kX6_stateTold_0 : XC := (0, .iload_n 2) :: kX6_stateTold_1
def kX6_drawn_145 : XC := (145, .bipush (-2)) :: (147, .ireturn) :: []
def kX6_drawn_137 : XC := (137, .aload_n 0) :: (138, .getfield 30) :: (141, .getfield 272) :: (144, .ireturn) :: kX6_drawn_145
def kX6_drawn_129 : XC := (129, .aload_n 0) :: (130, .getfield 30) :: (133, .getfield 269) :: (136, .ireturn) :: kX6_drawn_137
def kX6_drawn_121 : XC := (121, .aload_n 0) :: (122, .getfield 30) :: (125, .getfield 251) :: (128, .ireturn) :: kX6_drawn_129
def kX6_drawn_113 : XC := (113, .aload_n 0) :: (114, .getfield 30) :: (117, .getfield 241) :: (120, .ireturn) :: kX6_drawn_121
def kX6_drawn_102 : XC := (102, .aload_n 0) :: (103, .getfield 30) :: (106, .getfield 247) :: (109, .getfield 250) :: (112, .ireturn) :: kX6_drawn_113
def kX6_drawn_91 : XC := (91, .aload_n 0) :: (92, .getfield 30) :: (95, .getfield 247) :: (98, .getfield 249) :: (101, .ireturn) :: kX6_drawn_102
def kX6_drawn_80 : XC := (80, .aload_n 0) :: (81, .getfield 30) :: (84, .getfield 247) :: (87, .getfield 248) :: (90, .ireturn) :: kX6_drawn_91
def kX6_drawn_38 : XC := (38, .tableswitch 107 0 6 #[42, 53, 64, 75, 83, 91, 99]) :: kX6_drawn_80
def kX6_drawn_25 : XC := (25, .aload_n 0) :: (26, .getfield 30) :: (29, .aload 5) :: (31, .iload_n 2) :: (32, .iload_n 3) :: (33, .invokevirtual 265) :: (36, .iload 4) :: kX6_drawn_38
def kX6_drawn_22 : XC := (22, .bipush (-2)) :: (24, .ireturn) :: kX6_drawn_25
def kX6_drawn_16 : XC := (16, .iload_n 3) :: (17, .bipush 60) :: (19, .if_icmp .le 6) :: kX6_drawn_22
def kX6_drawn_12 : XC := (12, .iload_n 3) :: (13, .ifCond .lt 9) :: kX6_drawn_16
def kX6_drawn_0 : XC := (0, .aload_n 0) :: (1, .iload_n 1) :: (2, .invokevirtual 129) :: (5, .astore 5) :: (7, .aload 5) :: (9, .ifnull 13) :: kX6_drawn_12
def kX6_agreed_102 : XC := (102, .bipush (-2)) :: (104, .ireturn) :: []
def kX6_agreed_89 : XC := (89, .aload_n 0) :: (90, .aload 6) :: (92, .aload 7) :: (94, .iload_n 3) :: (95, .iload 4) :: (97, .iconst 0) :: (98, .invokevirtual 279) :: (101, .ireturn) :: kX6_agreed_102
def kX6_agreed_76 : XC := (76, .aload_n 0) :: (77, .aload 6) :: (79, .aload 7) :: (81, .iload_n 3) :: (82, .iload 4) :: (84, .iconst 1) :: (85, .invokevirtual 279) :: (88, .ireturn) :: kX6_agreed_89
def kX6_agreed_64 : XC := (64, .aload_n 0) :: (65, .aload 6) :: (67, .aload 7) :: (69, .iload_n 3) :: (70, .iload 4) :: (72, .invokevirtual 275) :: (75, .ireturn) :: kX6_agreed_76
def kX6_agreed_39 : XC := (39, .tableswitch 63 0 2 #[25, 37, 50]) :: kX6_agreed_64
def kX6_agreed_37 : XC := (37, .iload 5) :: kX6_agreed_39
def kX6_agreed_34 : XC := (34, .bipush (-2)) :: (36, .ireturn) :: kX6_agreed_37
def kX6_agreed_29 : XC := (29, .iload_n 2) :: (30, .iconst (-1)) :: (31, .if_icmp .eq 6) :: kX6_agreed_34
def kX6_agreed_24 : XC := (24, .aload 7) :: (26, .ifnonnull 11) :: kX6_agreed_29
def kX6_agreed_0 : XC := (0, .aload_n 0) :: (1, .iload_n 1) :: (2, .iload_n 3) :: (3, .iload 4) :: (5, .iconst 0) :: (6, .invokevirtual 200) :: (9, .astore 6) :: (11, .aload_n 0) :: (12, .iconst 1) :: (13, .iload_n 2) :: (14, .invokevirtual 182) :: (17, .astore 7) :: (19, .aload 6) :: (21, .ifnull 13) :: kX6_agreed_24
def kX6_isAgreed_58 : XC := (58, .ireturn) :: []
def kX6_isAgreed_57 : XC := (57, .iconst 0) :: kX6_isAgreed_58
def kX6_isAgreed_53 : XC := (53, .iconst 1) :: (54, .goto 4) :: kX6_isAgreed_57
def kX6_isAgreed_33 : XC := (33, .aload_n 1) :: (34, .aload_n 1) :: (35, .invokevirtual 210) :: (38, .aload_n 1) :: (39, .iload_n 3) :: (40, .iload 4) :: (42, .iload 5) :: (44, .invokevirtual 207) :: (47, .invokevirtual 214) :: (50, .ifCond .eq 7) :: kX6_isAgreed_53
def kX6_isAgreed_20 : XC := (20, .aload_n 2) :: (21, .iload 4) :: (23, .iload 5) :: (25, .iconst (-1)) :: (26, .invokestatic 217) :: (29, .iconst (-1)) :: (30, .if_icmp .ne 27) :: kX6_isAgreed_33
def kX6_isAgreed_0 : XC := (0, .aload_n 0) :: (1, .getfield 37) :: (4, .aload_n 1) :: (5, .invokevirtual 283) :: (8, .aload_n 0) :: (9, .getfield 37) :: (12, .iload 5) :: (14, .invokevirtual 286) :: (17, .ifCond .eq 40) :: kX6_isAgreed_20
def kX6_manyAgreed_37 : XC := (37, .iload 5) :: (39, .ireturn) :: []
def kX6_manyAgreed_31 : XC := (31, .iinc 6 1) :: (34, .goto (-28)) :: kX6_manyAgreed_37
def kX6_manyAgreed_28 : XC := (28, .iinc 5 1) :: kX6_manyAgreed_31
def kX6_manyAgreed_14 : XC := (14, .aload_n 0) :: (15, .aload_n 1) :: (16, .aload_n 2) :: (17, .iload_n 3) :: (18, .iload 4) :: (20, .iload 6) :: (22, .invokevirtual 289) :: (25, .ifCond .eq 6) :: kX6_manyAgreed_28
def kX6_manyAgreed_6 : XC := (6, .iload 6) :: (8, .sipush 1000) :: (11, .if_icmp .ge 26) :: kX6_manyAgreed_14
def kX6_manyAgreed_0 : XC := (0, .iconst 0) :: (1, .istore 5) :: (3, .iconst 0) :: (4, .istore 6) :: kX6_manyAgreed_6
def kX6_bestAgreed_73 : XC := (73, .iload 6) :: (75, .ireturn) :: []
def kX6_bestAgreed_67 : XC := (67, .iinc 7 1) :: (70, .goto (-64)) :: kX6_bestAgreed_73
def kX6_bestAgreed_63 : XC := (63, .iload 7) :: (65, .istore 6) :: kX6_bestAgreed_67
def kX6_bestAgreed_49 : XC := (49, .aload_n 0) :: (50, .aload_n 1) :: (51, .aload_n 2) :: (52, .iload_n 3) :: (53, .iload 4) :: (55, .iload 7) :: (57, .invokevirtual 289) :: (60, .ifCond .eq 7) :: kX6_bestAgreed_63
def kX6_bestAgreed_42 : XC := (42, .istore 8) :: (44, .iload 8) :: (46, .ifCond .eq 21) :: kX6_bestAgreed_49
def kX6_bestAgreed_41 : XC := (41, .iconst 0) :: kX6_bestAgreed_42
def kX6_bestAgreed_37 : XC := (37, .iconst 1) :: (38, .goto 4) :: kX6_bestAgreed_41
def kX6_bestAgreed_20 : XC := (20, .iload 7) :: (22, .iload 5) :: (24, .invokestatic 293) :: (27, .iload 6) :: (29, .iload 5) :: (31, .invokestatic 293) :: (34, .if_icmp .le 7) :: kX6_bestAgreed_37
def kX6_bestAgreed_14 : XC := (14, .iload 6) :: (16, .iconst (-1)) :: (17, .if_icmp .eq 20) :: kX6_bestAgreed_20
def kX6_bestAgreed_6 : XC := (6, .iload 7) :: (8, .sipush 1000) :: (11, .if_icmp .ge 62) :: kX6_bestAgreed_14
def kX6_bestAgreed_0 : XC := (0, .iconst (-1)) :: (1, .istore 6) :: (3, .iconst 0) :: (4, .istore 7) :: kX6_bestAgreed_6
def kX6_rank_37 : XC := (37, .iload 4) :: (39, .bipush 9) :: (41, .iload_n 2) :: (42, .isub) :: (43, .iload_n 3) :: (44, .invokestatic 297) :: (47, .ireturn) :: []
def kX6_rank_26 : XC := (26, .iload_n 2) :: (27, .iload_n 3) :: (28, .bipush 9) :: (30, .iload 4) :: (32, .isub) :: (33, .invokestatic 297) :: (36, .ireturn) :: kX6_rank_37
def kX6_rank_0 : XC := (0, .iload_n 0) :: (1, .iconst 0) :: (2, .invokestatic 224) :: (5, .istore_n 2) :: (6, .bipush 9) :: (8, .iload_n 0) :: (9, .iconst 1) :: (10, .invokestatic 224) :: (13, .isub) :: (14, .istore_n 3) :: (15, .iload_n 0) :: (16, .iconst 2) :: (17, .invokestatic 224) :: (20, .istore 4) :: (22, .iload_n 1) :: (23, .ifCond .eq 14) :: kX6_rank_26
def kX6_power_23 : XC := (23, .aload 4) :: (25, .iload_n 2) :: (26, .invokestatic 300) :: (29, .getstatic 303) :: (32, .aload 4) :: (34, .getfield 132) :: (37, .invokestatic 88) :: (40, .iload_n 3) :: (41, .invokestatic 306) :: (44, .ireturn) :: []
def kX6_power_21 : XC := (21, .iconst (-1)) :: (22, .ireturn) :: kX6_power_23
def kX6_power_12 : XC := (12, .aload 4) :: (14, .iload_n 2) :: (15, .invokevirtual 153) :: (18, .ifCond .ne 5) :: kX6_power_21
def kX6_power_0 : XC := (0, .aload_n 0) :: (1, .iload_n 1) :: (2, .invokevirtual 129) :: (5, .astore 4) :: (7, .aload 4) :: (9, .ifnull 12) :: kX6_power_12
def kX6_rowsDecided_99 : XC := (99, .iload_n 2) :: (100, .ireturn) :: []
def kX6_rowsDecided_93 : XC := (93, .iinc 3 1) :: (96, .goto (-92)) :: kX6_rowsDecided_99
def kX6_rowsDecided_60 : XC := (60, .iload_n 3) :: (61, .invokestatic 310) :: (64, .istore 5) :: (66, .iload_n 2) :: (67, .getstatic 303) :: (70, .iload 5) :: (72, .invokestatic 88) :: (75, .getstatic 303) :: (78, .aload_n 0) :: (79, .getfield 132) :: (82, .iload 5) :: (84, .isub) :: (85, .iconst 1) :: (86, .isub) :: (87, .invokestatic 88) :: (90, .imul) :: (91, .iadd) :: (92, .istore_n 2) :: kX6_rowsDecided_93
def kX6_rowsDecided_53 : XC := (53, .istore 4) :: (55, .iload 4) :: (57, .ifCond .eq 36) :: kX6_rowsDecided_60
def kX6_rowsDecided_52 : XC := (52, .iconst 0) :: kX6_rowsDecided_53
def kX6_rowsDecided_48 : XC := (48, .iconst 1) :: (49, .goto 4) :: kX6_rowsDecided_52
def kX6_rowsDecided_32 : XC := (32, .aload_n 0) :: (33, .iload_n 3) :: (34, .iconst 1) :: (35, .iload_n 1) :: (36, .ishl) :: (37, .ior) :: (38, .invokevirtual 254) :: (41, .aload_n 0) :: (42, .getfield 135) :: (45, .if_icmp .lt 7) :: kX6_rowsDecided_48
def kX6_rowsDecided_20 : XC := (20, .aload_n 0) :: (21, .iload_n 3) :: (22, .invokevirtual 254) :: (25, .aload_n 0) :: (26, .getfield 135) :: (29, .if_icmp .ge 23) :: kX6_rowsDecided_32
def kX6_rowsDecided_12 : XC := (12, .iload_n 3) :: (13, .iload_n 1) :: (14, .invokestatic 172) :: (17, .ifCond .ne 35) :: kX6_rowsDecided_20
def kX6_rowsDecided_4 : XC := (4, .iload_n 3) :: (5, .aload_n 0) :: (6, .invokevirtual 210) :: (9, .if_icmp .gt 90) :: kX6_rowsDecided_12
def kX6_rowsDecided_0 : XC := (0, .iconst 0) :: (1, .istore_n 2) :: (2, .iconst 0) :: (3, .istore_n 3) :: kX6_rowsDecided_4
def kX6_coalition_37 : XC := (37, .ireturn) :: []
def kX6_coalition_32 : XC := (32, .aload_n 3) :: (33, .iload_n 2) :: (34, .invokestatic 319) :: kX6_coalition_37
def kX6_coalition_25 : XC := (25, .aload_n 3) :: (26, .invokestatic 315) :: (29, .goto 8) :: kX6_coalition_32
def kX6_coalition_19 : XC := (19, .iload_n 2) :: (20, .bipush (-2)) :: (22, .if_icmp .ne 10) :: kX6_coalition_25
def kX6_coalition_16 : XC := (16, .bipush (-3)) :: (18, .ireturn) :: kX6_coalition_19
def kX6_coalition_10 : XC := (10, .iload_n 2) :: (11, .bipush (-2)) :: (13, .if_icmp .ge 6) :: kX6_coalition_16
def kX6_coalition_0 : XC := (0, .aload_n 0) :: (1, .iload_n 1) :: (2, .invokevirtual 129) :: (5, .astore_n 3) :: (6, .aload_n 3) :: (7, .ifnull 9) :: kX6_coalition_10
def kX6_keyMinisters_45 : XC := (45, .iload_n 1) :: (46, .ireturn) :: []
def kX6_keyMinisters_39 : XC := (39, .iinc 2 1) :: (42, .goto (-38)) :: kX6_keyMinisters_45
def kX6_keyMinisters_33 : XC := (33, .iload_n 1) :: (34, .iconst 1) :: (35, .iload_n 2) :: (36, .ishl) :: (37, .ior) :: (38, .istore_n 1) :: kX6_keyMinisters_39
def kX6_keyMinisters_12 : XC := (12, .aload_n 0) :: (13, .aload_n 0) :: (14, .invokevirtual 210) :: (17, .iconst 1) :: (18, .iload_n 2) :: (19, .ishl) :: (20, .iconst (-1)) :: (21, .ixor) :: (22, .iand) :: (23, .invokevirtual 254) :: (26, .aload_n 0) :: (27, .getfield 135) :: (30, .if_icmp .ge 9) :: kX6_keyMinisters_33
def kX6_keyMinisters_4 : XC := (4, .iload_n 2) :: (5, .aload_n 0) :: (6, .getfield 132) :: (9, .if_icmp .ge 36) :: kX6_keyMinisters_12
def kX6_keyMinisters_0 : XC := (0, .iconst 0) :: (1, .istore_n 1) :: (2, .iconst 0) :: (3, .istore_n 2) :: kX6_keyMinisters_4
def kX6_leastCoalition_47 : XC := (47, .ireturn) :: []
def kX6_leastCoalition_45 : XC := (45, .bipush (-3)) :: kX6_leastCoalition_47
def kX6_leastCoalition_41 : XC := (41, .iload_n 2) :: (42, .goto 5) :: kX6_leastCoalition_45
def kX6_leastCoalition_36 : XC := (36, .iload_n 1) :: (37, .iconst (-1)) :: (38, .if_icmp .ne 7) :: kX6_leastCoalition_41
def kX6_leastCoalition_30 : XC := (30, .iinc 3 1) :: (33, .goto (-29)) :: kX6_leastCoalition_36
def kX6_leastCoalition_27 : XC := (27, .iinc 2 1) :: kX6_leastCoalition_30
def kX6_leastCoalition_25 : XC := (25, .iload_n 3) :: (26, .ireturn) :: kX6_leastCoalition_27
def kX6_leastCoalition_20 : XC := (20, .iload_n 2) :: (21, .iload_n 1) :: (22, .if_icmp .ne 5) :: kX6_leastCoalition_25
def kX6_leastCoalition_12 : XC := (12, .aload_n 0) :: (13, .iload_n 3) :: (14, .invokestatic 322) :: (17, .ifCond .eq 13) :: kX6_leastCoalition_20
def kX6_leastCoalition_4 : XC := (4, .iload_n 3) :: (5, .aload_n 0) :: (6, .invokevirtual 210) :: (9, .if_icmp .gt 27) :: kX6_leastCoalition_12
def kX6_leastCoalition_0 : XC := (0, .iconst 0) :: (1, .istore_n 2) :: (2, .iconst 0) :: (3, .istore_n 3) :: kX6_leastCoalition_4
def kX6_isLeastCoalition_58 : XC := (58, .iconst 1) :: (59, .ireturn) :: []
def kX6_isLeastCoalition_52 : XC := (52, .iinc 2 1) :: (55, .goto (-39)) :: kX6_isLeastCoalition_58
def kX6_isLeastCoalition_50 : XC := (50, .iconst 0) :: (51, .ireturn) :: kX6_isLeastCoalition_52
def kX6_isLeastCoalition_32 : XC := (32, .aload_n 0) :: (33, .iload_n 1) :: (34, .iconst 1) :: (35, .iload_n 2) :: (36, .ishl) :: (37, .iconst (-1)) :: (38, .ixor) :: (39, .iand) :: (40, .invokevirtual 254) :: (43, .aload_n 0) :: (44, .getfield 135) :: (47, .if_icmp .lt 5) :: kX6_isLeastCoalition_50
def kX6_isLeastCoalition_24 : XC := (24, .iload_n 1) :: (25, .iload_n 2) :: (26, .invokestatic 172) :: (29, .ifCond .eq 23) :: kX6_isLeastCoalition_32
def kX6_isLeastCoalition_16 : XC := (16, .iload_n 2) :: (17, .aload_n 0) :: (18, .getfield 132) :: (21, .if_icmp .ge 37) :: kX6_isLeastCoalition_24
def kX6_isLeastCoalition_14 : XC := (14, .iconst 0) :: (15, .istore_n 2) :: kX6_isLeastCoalition_16
def kX6_isLeastCoalition_12 : XC := (12, .iconst 0) :: (13, .ireturn) :: kX6_isLeastCoalition_14
def kX6_isLeastCoalition_0 : XC := (0, .aload_n 0) :: (1, .iload_n 1) :: (2, .invokevirtual 254) :: (5, .aload_n 0) :: (6, .getfield 135) :: (9, .if_icmp .ge 5) :: kX6_isLeastCoalition_12
def kX6_bribe_137 : XC := (137, .ireturn) :: []
def kX6_bribe_135 : XC := (135, .iload 11) :: kX6_bribe_137
def kX6_bribe_130 : XC := (130, .iload 12) :: (132, .goto 5) :: kX6_bribe_135
def kX6_bribe_125 : XC := (125, .iload 7) :: (127, .ifCond .eq 8) :: kX6_bribe_130
def kX6_bribe_119 : XC := (119, .iinc 13 1) :: (122, .goto (-73)) :: kX6_bribe_125
def kX6_bribe_111 : XC := (111, .iload 14) :: (113, .istore 11) :: (115, .iload 13) :: (117, .istore 12) :: kX6_bribe_119
def kX6_bribe_104 : XC := (104, .iload 14) :: (106, .iload 11) :: (108, .if_icmp .ge 11) :: kX6_bribe_111
def kX6_bribe_85 : XC := (85, .aload 9) :: (87, .iload 13) :: (89, .iload_n 2) :: (90, .iload_n 3) :: (91, .iload 8) :: (93, .invokestatic 326) :: (96, .istore 14) :: (98, .iload 11) :: (100, .iconst (-1)) :: (101, .if_icmp .eq 10) :: kX6_bribe_104
def kX6_bribe_67 : XC := (67, .aload 9) :: (69, .aload 9) :: (71, .invokevirtual 210) :: (74, .iload 10) :: (76, .iload 13) :: (78, .ior) :: (79, .invokevirtual 214) :: (82, .ifCond .eq 37) :: kX6_bribe_85
def kX6_bribe_59 : XC := (59, .iload 13) :: (61, .iload 10) :: (63, .iand) :: (64, .ifCond .ne 55) :: kX6_bribe_67
def kX6_bribe_49 : XC := (49, .iload 13) :: (51, .aload 9) :: (53, .invokevirtual 210) :: (56, .if_icmp .gt 69) :: kX6_bribe_59
def kX6_bribe_29 : XC := (29, .aload 9) :: (31, .iload_n 2) :: (32, .iload_n 3) :: (33, .iload 8) :: (35, .invokevirtual 207) :: (38, .istore 10) :: (40, .iconst (-1)) :: (41, .istore 11) :: (43, .iconst (-1)) :: (44, .istore 12) :: (46, .iconst 0) :: (47, .istore 13) :: kX6_bribe_49
def kX6_bribe_27 : XC := (27, .iconst (-1)) :: (28, .ireturn) :: kX6_bribe_29
def kX6_bribe_0 : XC := (0, .iload 4) :: (2, .iload 5) :: (4, .iload 6) :: (6, .invokestatic 196) :: (9, .istore 8) :: (11, .aload_n 0) :: (12, .iload_n 1) :: (13, .iload_n 2) :: (14, .iload_n 3) :: (15, .iload 8) :: (17, .invokevirtual 200) :: (20, .astore 9) :: (22, .aload 9) :: (24, .ifnonnull 5) :: kX6_bribe_27
def kX6_bribeOf_62 : XC := (62, .iload 5) :: (64, .ireturn) :: []
def kX6_bribeOf_56 : XC := (56, .iinc 6 1) :: (59, .goto (-53)) :: kX6_bribeOf_62
def kX6_bribeOf_24 : XC := (24, .iload 5) :: (26, .aload_n 0) :: (27, .getfield 166) :: (30, .iload 6) :: (32, .invokestatic 88) :: (35, .aload_n 0) :: (36, .iload 6) :: (38, .iload_n 3) :: (39, .iload 4) :: (41, .invokevirtual 204) :: (44, .aload_n 0) :: (45, .iload 6) :: (47, .iload_n 2) :: (48, .invokevirtual 330) :: (51, .isub) :: (52, .imul) :: (53, .iadd) :: (54, .istore 5) :: kX6_bribeOf_56
def kX6_bribeOf_15 : XC := (15, .iload_n 1) :: (16, .iload 6) :: (18, .invokestatic 172) :: (21, .ifCond .eq 35) :: kX6_bribeOf_24
def kX6_bribeOf_6 : XC := (6, .iload 6) :: (8, .aload_n 0) :: (9, .getfield 132) :: (12, .if_icmp .ge 50) :: kX6_bribeOf_15
def kX6_bribeOf_0 : XC := (0, .iconst 0) :: (1, .istore 5) :: (3, .iconst 0) :: (4, .istore 6) :: kX6_bribeOf_6
def kX6_lobby_126 : XC := (126, .ireturn) :: []
def kX6_lobby_125 : XC := (125, .iconst (-1)) :: kX6_lobby_126
def kX6_lobby_120 : XC := (120, .iload 11) :: (122, .goto 4) :: kX6_lobby_125
def kX6_lobby_114 : XC := (114, .iload 7) :: (116, .iconst (-1)) :: (117, .if_icmp .ne 8) :: kX6_lobby_120
def kX6_lobby_108 : XC := (108, .iinc 12 1) :: (111, .goto (-65)) :: kX6_lobby_114
def kX6_lobby_102 : XC := (102, .iinc 13 1) :: (105, .goto (-46)) :: kX6_lobby_108
def kX6_lobby_99 : XC := (99, .iinc 11 1) :: kX6_lobby_102
def kX6_lobby_90 : XC := (90, .bipush 7) :: (92, .iload 12) :: (94, .imul) :: (95, .iload 13) :: (97, .iadd) :: (98, .ireturn) :: kX6_lobby_99
def kX6_lobby_83 : XC := (83, .iload 11) :: (85, .iload 7) :: (87, .if_icmp .ne 12) :: kX6_lobby_90
def kX6_lobby_69 : XC := (69, .aload 9) :: (71, .iload 10) :: (73, .iload 12) :: (75, .iload 13) :: (77, .invokestatic 333) :: (80, .ifCond .eq 22) :: kX6_lobby_83
def kX6_lobby_59 : XC := (59, .iload 13) :: (61, .aload 9) :: (63, .getfield 132) :: (66, .if_icmp .gt 42) :: kX6_lobby_69
def kX6_lobby_56 : XC := (56, .iconst 0) :: (57, .istore 13) :: kX6_lobby_59
def kX6_lobby_46 : XC := (46, .iload 12) :: (48, .aload 9) :: (50, .getfield 132) :: (53, .if_icmp .gt 61) :: kX6_lobby_56
def kX6_lobby_29 : XC := (29, .aload 9) :: (31, .iload_n 2) :: (32, .iload_n 3) :: (33, .iload 8) :: (35, .invokevirtual 207) :: (38, .istore 10) :: (40, .iconst 0) :: (41, .istore 11) :: (43, .iconst 0) :: (44, .istore 12) :: kX6_lobby_46
def kX6_lobby_27 : XC := (27, .iconst (-1)) :: (28, .ireturn) :: kX6_lobby_29
def kX6_lobby_0 : XC := (0, .iload 4) :: (2, .iload 5) :: (4, .iload 6) :: (6, .invokestatic 196) :: (9, .istore 8) :: (11, .aload_n 0) :: (12, .iload_n 1) :: (13, .iload_n 2) :: (14, .iload_n 3) :: (15, .iload 8) :: (17, .invokevirtual 200) :: (20, .astore 9) :: (22, .aload 9) :: (24, .ifnonnull 5) :: kX6_lobby_27
def kX6_isRest_68 : XC := (68, .iconst 1) :: (69, .ireturn) :: []
def kX6_isRest_62 : XC := (62, .iinc 6 1) :: (65, .goto (-42)) :: kX6_isRest_68
def kX6_isRest_60 : XC := (60, .iconst 0) :: (61, .ireturn) :: kX6_isRest_62
def kX6_isRest_46 : XC := (46, .aload_n 0) :: (47, .iload_n 1) :: (48, .iload_n 2) :: (49, .iload 6) :: (51, .iconst 0) :: (52, .invokestatic 337) :: (55, .iload 5) :: (57, .if_icmp .le 5) :: kX6_isRest_60
def kX6_isRest_32 : XC := (32, .aload_n 0) :: (33, .iload_n 1) :: (34, .iload 6) :: (36, .iload_n 3) :: (37, .iconst 1) :: (38, .invokestatic 337) :: (41, .iload 4) :: (43, .if_icmp .gt 17) :: kX6_isRest_46
def kX6_isRest_23 : XC := (23, .iload 6) :: (25, .aload_n 0) :: (26, .getfield 132) :: (29, .if_icmp .gt 39) :: kX6_isRest_32
def kX6_isRest_0 : XC := (0, .aload_n 0) :: (1, .iload_n 1) :: (2, .iload_n 2) :: (3, .iload_n 3) :: (4, .iconst 1) :: (5, .invokestatic 337) :: (8, .istore 4) :: (10, .aload_n 0) :: (11, .iload_n 1) :: (12, .iload_n 2) :: (13, .iload_n 3) :: (14, .iconst 0) :: (15, .invokestatic 337) :: (18, .istore 5) :: (20, .iconst 0) :: (21, .istore 6) :: kX6_isRest_23
def kX6_gain_66 : XC := (66, .iload 7) :: (68, .isub) :: (69, .ireturn) :: []
def kX6_gain_65 : XC := (65, .iconst 0) :: kX6_gain_66
def kX6_gain_60 : XC := (60, .bipush 20) :: (62, .goto 4) :: kX6_gain_65
def kX6_gain_51 : XC := (51, .istore 7) :: (53, .iload 5) :: (55, .iload 4) :: (57, .if_icmp .ne 8) :: kX6_gain_60
def kX6_gain_50 : XC := (50, .iconst 0) :: kX6_gain_51
def kX6_gain_38 : XC := (38, .aload_n 0) :: (39, .getfield 166) :: (42, .iload 6) :: (44, .invokestatic 88) :: (47, .goto 4) :: kX6_gain_50
def kX6_gain_27 : XC := (27, .istore 6) :: (29, .aload_n 0) :: (30, .iload 6) :: (32, .invokevirtual 153) :: (35, .ifCond .eq 15) :: kX6_gain_38
def kX6_gain_26 : XC := (26, .iload_n 3) :: kX6_gain_27
def kX6_gain_22 : XC := (22, .iload_n 2) :: (23, .goto 4) :: kX6_gain_26
def kX6_gain_0 : XC := (0, .aload_n 0) :: (1, .aload_n 0) :: (2, .invokevirtual 210) :: (5, .aload_n 0) :: (6, .iload_n 1) :: (7, .iload_n 2) :: (8, .iload_n 3) :: (9, .invokestatic 341) :: (12, .invokevirtual 214) :: (15, .istore 5) :: (17, .iload 4) :: (19, .ifCond .eq 7) :: kX6_gain_22
def kX6_boughtBy_39 : XC := (39, .istore 5) :: (41, .iload_n 1) :: (42, .iload 4) :: (44, .ior) :: (45, .iload 5) :: (47, .iconst (-1)) :: (48, .ixor) :: (49, .iand) :: (50, .ireturn) :: []
def kX6_boughtBy_38 : XC := (38, .iconst 0) :: kX6_boughtBy_39
def kX6_boughtBy_32 : XC := (32, .iconst 1) :: (33, .iload_n 3) :: (34, .ishl) :: (35, .goto 4) :: kX6_boughtBy_38
def kX6_boughtBy_22 : XC := (22, .istore 4) :: (24, .aload_n 0) :: (25, .iload_n 3) :: (26, .invokevirtual 153) :: (29, .ifCond .eq 9) :: kX6_boughtBy_32
def kX6_boughtBy_21 : XC := (21, .iconst 0) :: kX6_boughtBy_22
def kX6_boughtBy_15 : XC := (15, .iconst 1) :: (16, .iload_n 2) :: (17, .ishl) :: (18, .goto 4) :: kX6_boughtBy_21
def kX6_boughtBy_7 : XC := (7, .aload_n 0) :: (8, .iload_n 2) :: (9, .invokevirtual 153) :: (12, .ifCond .eq 9) :: kX6_boughtBy_15
def kX6_boughtBy_5 : XC := (5, .iload_n 1) :: (6, .ireturn) :: kX6_boughtBy_7
def kX6_boughtBy_0 : XC := (0, .iload_n 2) :: (1, .iload_n 3) :: (2, .if_icmp .ne 5) :: kX6_boughtBy_5
def kX6_bargain_90 : XC := (90, .bipush (-2)) :: (92, .ireturn) :: []
def kX6_bargain_81 : XC := (81, .aload 4) :: (83, .aload 5) :: (85, .iconst 1) :: (86, .invokestatic 345) :: (89, .ireturn) :: kX6_bargain_90
def kX6_bargain_72 : XC := (72, .aload 4) :: (74, .aload 5) :: (76, .iconst 0) :: (77, .invokestatic 345) :: (80, .ireturn) :: kX6_bargain_81
def kX6_bargain_47 : XC := (47, .lookupswitch 43 #[(10, 25), (11, 34)]) :: kX6_bargain_72
def kX6_bargain_46 : XC := (46, .iload_n 3) :: kX6_bargain_47
def kX6_bargain_38 : XC := (38, .aload 5) :: (40, .iload_n 3) :: (41, .iconst 0) :: (42, .invokevirtual 190) :: (45, .ireturn) :: kX6_bargain_46
def kX6_bargain_32 : XC := (32, .iload_n 3) :: (33, .bipush 6) :: (35, .if_icmp .ge 11) :: kX6_bargain_38
def kX6_bargain_28 : XC := (28, .iload_n 3) :: (29, .ifCond .lt 17) :: kX6_bargain_32
def kX6_bargain_25 : XC := (25, .bipush (-2)) :: (27, .ireturn) :: kX6_bargain_28
def kX6_bargain_20 : XC := (20, .aload 5) :: (22, .ifnonnull 6) :: kX6_bargain_25
def kX6_bargain_0 : XC := (0, .aload_n 0) :: (1, .iload_n 1) :: (2, .invokevirtual 129) :: (5, .astore 4) :: (7, .aload_n 0) :: (8, .iconst 5) :: (9, .iload_n 2) :: (10, .invokevirtual 182) :: (13, .astore 5) :: (15, .aload 4) :: (17, .ifnull 8) :: kX6_bargain_20
def kX6_leavers_64 : XC := (64, .ireturn) :: []
def kX6_leavers_63 : XC := (63, .iconst (-1)) :: kX6_leavers_64
def kX6_leavers_59 : XC := (59, .iload_n 3) :: (60, .goto 4) :: kX6_leavers_63
def kX6_leavers_55 : XC := (55, .iload_n 2) :: (56, .ifCond .eq 7) :: kX6_leavers_59
def kX6_leavers_49 : XC := (49, .iinc 4 1) :: (52, .goto (-47)) :: kX6_leavers_55
def kX6_leavers_46 : XC := (46, .iinc 3 1) :: kX6_leavers_49
def kX6_leavers_43 : XC := (43, .iload 4) :: (45, .ireturn) :: kX6_leavers_46
def kX6_leavers_39 : XC := (39, .iload_n 2) :: (40, .ifCond .ne 6) :: kX6_leavers_43
def kX6_leavers_27 : XC := (27, .aload_n 0) :: (28, .aload_n 1) :: (29, .iload 4) :: (31, .invokestatic 349) :: (34, .bipush 100) :: (36, .if_icmp .ge 13) :: kX6_leavers_39
def kX6_leavers_14 : XC := (14, .aload_n 0) :: (15, .iload 4) :: (17, .invokevirtual 254) :: (20, .aload_n 0) :: (21, .getfield 135) :: (24, .if_icmp .lt 25) :: kX6_leavers_27
def kX6_leavers_5 : XC := (5, .iload 4) :: (7, .aload_n 0) :: (8, .invokevirtual 210) :: (11, .if_icmp .gt 44) :: kX6_leavers_14
def kX6_leavers_0 : XC := (0, .iconst 0) :: (1, .istore_n 3) :: (2, .iconst 0) :: (3, .istore 4) :: kX6_leavers_5
def kX6_sharesOf_39 : XC := (39, .iload_n 3) :: (40, .ireturn) :: []
def kX6_sharesOf_33 : XC := (33, .iinc 4 1) :: (36, .goto (-31)) :: kX6_sharesOf_39
def kX6_sharesOf_23 : XC := (23, .iload_n 3) :: (24, .aload_n 1) :: (25, .iload 4) :: (27, .iconst 0) :: (28, .invokevirtual 190) :: (31, .iadd) :: (32, .istore_n 3) :: kX6_sharesOf_33
def kX6_sharesOf_14 : XC := (14, .iload_n 2) :: (15, .iload 4) :: (17, .invokestatic 172) :: (20, .ifCond .eq 13) :: kX6_sharesOf_23
def kX6_sharesOf_5 : XC := (5, .iload 4) :: (7, .aload_n 0) :: (8, .getfield 132) :: (11, .if_icmp .ge 28) :: kX6_sharesOf_14
def kX6_sharesOf_0 : XC := (0, .iconst 0) :: (1, .istore_n 3) :: (2, .iconst 0) :: (3, .istore 4) :: kX6_sharesOf_5
def kX6_nature_111 : XC := (111, .ireturn) :: []
def kX6_nature_109 : XC := (109, .bipush (-2)) :: kX6_nature_111
def kX6_nature_95 : XC := (95, .aload_n 0) :: (96, .getfield 41) :: (99, .iload_n 3) :: (100, .bipush 10) :: (102, .isub) :: (103, .invokestatic 88) :: (106, .goto 5) :: kX6_nature_109
def kX6_nature_89 : XC := (89, .iload 6) :: (91, .iconst (-1)) :: (92, .if_icmp .eq 17) :: kX6_nature_95
def kX6_nature_82 : XC := (82, .istore 7) :: (84, .iload 7) :: (86, .ifCond .eq 23) :: kX6_nature_89
def kX6_nature_81 : XC := (81, .iconst 0) :: kX6_nature_82
def kX6_nature_77 : XC := (77, .iconst 1) :: (78, .goto 4) :: kX6_nature_81
def kX6_nature_65 : XC := (65, .iload_n 3) :: (66, .bipush 10) :: (68, .isub) :: (69, .aload 5) :: (71, .getfield 189) :: (74, .if_icmp .ge 7) :: kX6_nature_77
def kX6_nature_59 : XC := (59, .iload_n 3) :: (60, .bipush 10) :: (62, .if_icmp .lt 19) :: kX6_nature_65
def kX6_nature_56 : XC := (56, .iload 6) :: (58, .ireturn) :: kX6_nature_59
def kX6_nature_41 : XC := (41, .aload_n 0) :: (42, .aload 4) :: (44, .aload 5) :: (46, .invokevirtual 357) :: (49, .istore 6) :: (51, .iload_n 3) :: (52, .iconst 1) :: (53, .if_icmp .ne 6) :: kX6_nature_56
def kX6_nature_32 : XC := (32, .aload_n 0) :: (33, .aload 4) :: (35, .aload 5) :: (37, .invokevirtual 353) :: (40, .ireturn) :: kX6_nature_41
def kX6_nature_28 : XC := (28, .iload_n 3) :: (29, .ifCond .ne 12) :: kX6_nature_32
def kX6_nature_25 : XC := (25, .bipush (-2)) :: (27, .ireturn) :: kX6_nature_28
def kX6_nature_20 : XC := (20, .aload 5) :: (22, .ifnonnull 6) :: kX6_nature_25
def kX6_nature_0 : XC := (0, .aload_n 0) :: (1, .iload_n 1) :: (2, .invokevirtual 129) :: (5, .astore 4) :: (7, .aload_n 0) :: (8, .iconst 4) :: (9, .iload_n 2) :: (10, .invokevirtual 182) :: (13, .astore 5) :: (15, .aload 4) :: (17, .ifnull 8) :: kX6_nature_20
def kX6_firstWrong_55 : XC := (55, .iconst (-1)) :: (56, .ireturn) :: []
def kX6_firstWrong_40 : XC := (40, .aload_n 0) :: (41, .getfield 37) :: (44, .iload 4) :: (46, .invokevirtual 363) :: (49, .iinc 3 1) :: (52, .goto (-42)) :: kX6_firstWrong_55
def kX6_firstWrong_38 : XC := (38, .iload_n 3) :: (39, .ireturn) :: kX6_firstWrong_40
def kX6_firstWrong_18 : XC := (18, .aload_n 2) :: (19, .iload_n 3) :: (20, .iconst 1) :: (21, .invokevirtual 360) :: (24, .istore 4) :: (26, .aload_n 0) :: (27, .getfield 37) :: (30, .iload 4) :: (32, .invokevirtual 286) :: (35, .ifCond .ne 5) :: kX6_firstWrong_38
def kX6_firstWrong_10 : XC := (10, .iload_n 3) :: (11, .aload_n 2) :: (12, .getfield 189) :: (15, .if_icmp .ge 40) :: kX6_firstWrong_18
def kX6_firstWrong_0 : XC := (0, .aload_n 0) :: (1, .getfield 37) :: (4, .aload_n 1) :: (5, .invokevirtual 283) :: (8, .iconst 0) :: (9, .istore_n 3) :: kX6_firstWrong_10
def kX6_mend_120 : XC := (120, .iload_n 3) :: (121, .ireturn) :: []
def kX6_mend_82 : XC := (82, .aload_n 0) :: (83, .getfield 37) :: (86, .iload 7) :: (88, .invokevirtual 363) :: (91, .aload_n 0) :: (92, .getfield 41) :: (95, .iload 4) :: (97, .iload 6) :: (99, .invokestatic 62) :: (102, .iload_n 3) :: (103, .iload 5) :: (105, .iconst 0) :: (106, .invokestatic 224) :: (109, .iload 6) :: (111, .isub) :: (112, .iadd) :: (113, .istore_n 3) :: (114, .iinc 4 1) :: (117, .goto (-104)) :: kX6_mend_120
def kX6_mend_80 : XC := (80, .iconst (-1)) :: (81, .ireturn) :: kX6_mend_82
def kX6_mend_22 : XC := (22, .aload_n 2) :: (23, .iload 4) :: (25, .iconst 1) :: (26, .invokevirtual 360) :: (29, .istore 5) :: (31, .iload 5) :: (33, .iconst 0) :: (34, .invokestatic 224) :: (37, .aload_n 0) :: (38, .getfield 37) :: (41, .getfield 248) :: (44, .invokestatic 366) :: (47, .istore 6) :: (49, .iload 6) :: (51, .iload 5) :: (53, .iconst 1) :: (54, .invokestatic 224) :: (57, .iload 5) :: (59, .iconst 2) :: (60, .invokestatic 224) :: (63, .invokestatic 297) :: (66, .istore 7) :: (68, .aload_n 0) :: (69, .getfield 37) :: (72, .iload 7) :: (74, .invokevirtual 286) :: (77, .ifCond .ne 5) :: kX6_mend_80
def kX6_mend_13 : XC := (13, .iload 4) :: (15, .aload_n 2) :: (16, .getfield 189) :: (19, .if_icmp .ge 101) :: kX6_mend_22
def kX6_mend_0 : XC := (0, .iconst 0) :: (1, .istore_n 3) :: (2, .aload_n 0) :: (3, .getfield 37) :: (6, .aload_n 1) :: (7, .invokevirtual 283) :: (10, .iconst 0) :: (11, .istore 4) :: kX6_mend_13
def kX6_seats_126 : XC := (126, .bipush (-4)) :: (128, .ireturn) :: []
def kX6_seats_109 : XC := (109, .aload_n 0) :: (110, .aload 4) :: (112, .aload_n 0) :: (113, .aload 4) :: (115, .iload 6) :: (117, .invokevirtual 372) :: (120, .iload 6) :: (122, .invokevirtual 375) :: (125, .ireturn) :: kX6_seats_126
def kX6_seats_108 : XC := (108, .ireturn) :: kX6_seats_109
def kX6_seats_100 : XC := (100, .aload_n 0) :: (101, .aload 4) :: (103, .iload 6) :: (105, .invokevirtual 372) :: kX6_seats_108
def kX6_seats_96 : XC := (96, .iconst (-1)) :: (97, .goto 11) :: kX6_seats_100
def kX6_seats_91 : XC := (91, .iload 6) :: (93, .ifCond .ne 7) :: kX6_seats_96
def kX6_seats_88 : XC := (88, .iload 6) :: (90, .ireturn) :: kX6_seats_91
def kX6_seats_63 : XC := (63, .tableswitch 63 (-3) (-1) #[46, 28, 25]) :: kX6_seats_88
def kX6_seats_62 : XC := (62, .iload_n 3) :: kX6_seats_63
def kX6_seats_61 : XC := (61, .ireturn) :: kX6_seats_62
def kX6_seats_59 : XC := (59, .bipush (-4)) :: kX6_seats_61
def kX6_seats_48 : XC := (48, .aload_n 0) :: (49, .getfield 45) :: (52, .iload_n 3) :: (53, .invokestatic 88) :: (56, .goto 5) :: kX6_seats_59
def kX6_seats_42 : XC := (42, .iload_n 3) :: (43, .iload 6) :: (45, .if_icmp .ge 14) :: kX6_seats_48
def kX6_seats_28 : XC := (28, .aload_n 0) :: (29, .aload 4) :: (31, .aload 5) :: (33, .invokevirtual 369) :: (36, .istore 6) :: (38, .iload_n 3) :: (39, .ifCond .lt 23) :: kX6_seats_42
def kX6_seats_25 : XC := (25, .bipush (-4)) :: (27, .ireturn) :: kX6_seats_28
def kX6_seats_20 : XC := (20, .aload 5) :: (22, .ifnonnull 6) :: kX6_seats_25
def kX6_seats_0 : XC := (0, .aload_n 0) :: (1, .iload_n 1) :: (2, .invokevirtual 129) :: (5, .astore 4) :: (7, .aload_n 0) :: (8, .iconst 4) :: (9, .iload_n 2) :: (10, .invokevirtual 182) :: (13, .astore 5) :: (15, .aload 4) :: (17, .ifnull 8) :: kX6_seats_20
def kX6_findFitting_51 : XC := (51, .iload_n 3) :: (52, .ireturn) :: []
def kX6_findFitting_45 : XC := (45, .iinc 4 1) :: (48, .goto (-43)) :: kX6_findFitting_51
def kX6_findFitting_32 : XC := (32, .aload_n 0) :: (33, .getfield 45) :: (36, .iload_n 3) :: (37, .iload 4) :: (39, .invokestatic 62) :: (42, .iinc 3 1) :: kX6_findFitting_45
def kX6_findFitting_22 : XC := (22, .aload_n 1) :: (23, .aload_n 2) :: (24, .iload 4) :: (26, .invokestatic 382) :: (29, .ifCond .eq 16) :: kX6_findFitting_32
def kX6_findFitting_13 : XC := (13, .aload_n 1) :: (14, .iload 4) :: (16, .invokevirtual 379) :: (19, .ifCond .eq 26) :: kX6_findFitting_22
def kX6_findFitting_5 : XC := (5, .iload 4) :: (7, .sipush 216) :: (10, .if_icmp .ge 41) :: kX6_findFitting_13
def kX6_findFitting_0 : XC := (0, .iconst 0) :: (1, .istore_n 3) :: (2, .iconst 0) :: (3, .istore 4) :: kX6_findFitting_5
def kX6_isFit_38 : XC := (38, .iconst 1) :: (39, .ireturn) :: []
def kX6_isFit_32 : XC := (32, .iinc 3 1) :: (35, .goto (-33)) :: kX6_isFit_38
def kX6_isFit_30 : XC := (30, .iconst 0) :: (31, .ireturn) :: kX6_isFit_32
def kX6_isFit_10 : XC := (10, .aload_n 0) :: (11, .iload_n 2) :: (12, .aload_n 1) :: (13, .iload_n 3) :: (14, .iconst 0) :: (15, .invokevirtual 190) :: (18, .invokevirtual 386) :: (21, .aload_n 1) :: (22, .iload_n 3) :: (23, .iconst 1) :: (24, .invokevirtual 360) :: (27, .if_icmp .eq 5) :: kX6_isFit_30
def kX6_isFit_2 : XC := (2, .iload_n 3) :: (3, .aload_n 1) :: (4, .getfield 189) :: (7, .if_icmp .ge 31) :: kX6_isFit_10
def kX6_isFit_0 : XC := (0, .iconst 0) :: (1, .istore_n 3) :: kX6_isFit_2
def kX6_tellingSeason_38 : XC := (38, .iload_n 3) :: (39, .ireturn) :: []
def kX6_tellingSeason_32 : XC := (32, .iinc 4 1) :: (35, .goto (-30)) :: kX6_tellingSeason_38
def kX6_tellingSeason_29 : XC := (29, .iload 4) :: (31, .istore_n 3) :: kX6_tellingSeason_32
def kX6_tellingSeason_11 : XC := (11, .aload_n 0) :: (12, .aload_n 1) :: (13, .iload 4) :: (15, .iload_n 2) :: (16, .invokevirtual 375) :: (19, .aload_n 0) :: (20, .aload_n 1) :: (21, .iload_n 3) :: (22, .iload_n 2) :: (23, .invokevirtual 375) :: (26, .if_icmp .le 6) :: kX6_tellingSeason_29
def kX6_tellingSeason_5 : XC := (5, .iload 4) :: (7, .iconst 4) :: (8, .if_icmp .ge 30) :: kX6_tellingSeason_11
def kX6_tellingSeason_0 : XC := (0, .iconst 0) :: (1, .istore_n 3) :: (2, .iconst 1) :: (3, .istore 4) :: kX6_tellingSeason_5
def kX6_unlikeProposals_67 : XC := (67, .iload 4) :: (69, .ireturn) :: []
def kX6_unlikeProposals_61 : XC := (61, .iinc 5 1) :: (64, .goto (-50)) :: kX6_unlikeProposals_67
def kX6_unlikeProposals_48 : XC := (48, .aload_n 0) :: (49, .getfield 48) :: (52, .iload 6) :: (54, .iconst 1) :: (55, .invokestatic 62) :: (58, .iinc 4 1) :: kX6_unlikeProposals_61
def kX6_unlikeProposals_20 : XC := (20, .aload_n 1) :: (21, .aload_n 0) :: (22, .getfield 45) :: (25, .iload 5) :: (27, .invokestatic 88) :: (30, .iload_n 2) :: (31, .invokevirtual 386) :: (34, .istore 6) :: (36, .aload_n 0) :: (37, .getfield 48) :: (40, .iload 6) :: (42, .invokestatic 88) :: (45, .ifCond .ne 16) :: kX6_unlikeProposals_48
def kX6_unlikeProposals_14 : XC := (14, .iload 5) :: (16, .iload_n 3) :: (17, .if_icmp .ge 50) :: kX6_unlikeProposals_20
def kX6_unlikeProposals_0 : XC := (0, .iconst 0) :: (1, .istore 4) :: (3, .aload_n 0) :: (4, .getfield 48) :: (7, .iconst 0) :: (8, .invokestatic 389) :: (11, .iconst 0) :: (12, .istore 5) :: kX6_unlikeProposals_14
def kX6_reshuffle_78 : XC := (78, .ireturn) :: []
def kX6_reshuffle_76 : XC := (76, .iload 4) :: kX6_reshuffle_78
def kX6_reshuffle_71 : XC := (71, .iload 5) :: (73, .goto 5) :: kX6_reshuffle_76
def kX6_reshuffle_67 : XC := (67, .iload_n 2) :: (68, .ifCond .eq 8) :: kX6_reshuffle_71
def kX6_reshuffle_61 : XC := (61, .iinc 6 1) :: (64, .goto (-43)) :: kX6_reshuffle_67
def kX6_reshuffle_53 : XC := (53, .iload 7) :: (55, .istore 5) :: (57, .iload 6) :: (59, .istore 4) :: kX6_reshuffle_61
def kX6_reshuffle_38 : XC := (38, .aload_n 3) :: (39, .iload 6) :: (41, .invokestatic 395) :: (44, .istore 7) :: (46, .iload 7) :: (48, .iload 5) :: (50, .if_icmp .le 11) :: kX6_reshuffle_53
def kX6_reshuffle_29 : XC := (29, .aload_n 3) :: (30, .iload 6) :: (32, .invokevirtual 379) :: (35, .ifCond .eq 26) :: kX6_reshuffle_38
def kX6_reshuffle_21 : XC := (21, .iload 6) :: (23, .sipush 216) :: (26, .if_icmp .ge 41) :: kX6_reshuffle_29
def kX6_reshuffle_12 : XC := (12, .iconst (-1)) :: (13, .istore 4) :: (15, .iconst (-1)) :: (16, .istore 5) :: (18, .iconst 0) :: (19, .istore 6) :: kX6_reshuffle_21
def kX6_reshuffle_10 : XC := (10, .iconst (-1)) :: (11, .ireturn) :: kX6_reshuffle_12
def kX6_reshuffle_0 : XC := (0, .aload_n 0) :: (1, .iload_n 1) :: (2, .invokevirtual 129) :: (5, .astore_n 3) :: (6, .aload_n 3) :: (7, .ifnonnull 5) :: kX6_reshuffle_10
def kX6_wetSeasons_63 : XC := (63, .iload_n 3) :: (64, .ireturn) :: []
def kX6_wetSeasons_57 : XC := (57, .iinc 4 1) :: (60, .goto (-50)) :: kX6_wetSeasons_63
def kX6_wetSeasons_54 : XC := (54, .iinc 3 1) :: kX6_wetSeasons_57
def kX6_wetSeasons_34 : XC := (34, .aload_n 0) :: (35, .aload_n 0) :: (36, .invokevirtual 210) :: (39, .aload_n 0) :: (40, .iload_n 2) :: (41, .iload 4) :: (43, .iload 5) :: (45, .invokevirtual 207) :: (48, .invokevirtual 214) :: (51, .ifCond .eq 6) :: kX6_wetSeasons_54
def kX6_wetSeasons_16 : XC := (16, .aload_n 0) :: (17, .iload_n 1) :: (18, .iload 4) :: (20, .invokevirtual 386) :: (23, .istore 5) :: (25, .iload 5) :: (27, .iconst 0) :: (28, .invokestatic 224) :: (31, .ifCond .le 26) :: kX6_wetSeasons_34
def kX6_wetSeasons_10 : XC := (10, .iload 4) :: (12, .iconst 4) :: (13, .if_icmp .ge 50) :: kX6_wetSeasons_16
def kX6_wetSeasons_0 : XC := (0, .iload_n 1) :: (1, .bipush 36) :: (3, .idiv) :: (4, .istore_n 2) :: (5, .iconst 0) :: (6, .istore_n 3) :: (7, .iconst 0) :: (8, .istore 4) :: kX6_wetSeasons_10
def kX6_fits_231 : XC := (231, .bipush (-2)) :: (233, .ireturn) :: []
def kX6_fits_214 : XC := (214, .aload 6) :: (216, .aload 7) :: (218, .iload_n 3) :: (219, .iload 4) :: (221, .iload 5) :: (223, .bipush 20) :: (225, .isub) :: (226, .iconst 1) :: (227, .invokestatic 411) :: (230, .ireturn) :: kX6_fits_231
def kX6_fits_197 : XC := (197, .aload 6) :: (199, .aload 7) :: (201, .iload_n 3) :: (202, .iload 4) :: (204, .iload 5) :: (206, .bipush 10) :: (208, .isub) :: (209, .iconst 0) :: (210, .invokestatic 411) :: (213, .ireturn) :: kX6_fits_214
def kX6_fits_186 : XC := (186, .aload 6) :: (188, .aload 7) :: (190, .iload_n 3) :: (191, .iload 4) :: (193, .invokestatic 408) :: (196, .ireturn) :: kX6_fits_197
def kX6_fits_182 : XC := (182, .invokestatic 405) :: (185, .ireturn) :: kX6_fits_186
def kX6_fits_181 : XC := (181, .iconst 0) :: kX6_fits_182
def kX6_fits_177 : XC := (177, .iconst 1) :: (178, .goto 4) :: kX6_fits_181
def kX6_fits_164 : XC := (164, .aload 6) :: (166, .aload 7) :: (168, .iload_n 3) :: (169, .iload 4) :: (171, .iload 5) :: (173, .iconst 2) :: (174, .if_icmp .ne 7) :: kX6_fits_177
def kX6_fits_152 : XC := (152, .aload 6) :: (154, .aload 7) :: (156, .iload_n 3) :: (157, .iload 4) :: (159, .iconst 0) :: (160, .invokestatic 402) :: (163, .ireturn) :: kX6_fits_164
def kX6_fits_44 : XC := (44, .tableswitch 187 0 22 #[108, 120, 120, 142, 187, 187, 187, 187, 187, 187, 153, 153, 153, 187, 187, 187, 187, 187, 187, 187, 170, 170, 170]) :: kX6_fits_152
def kX6_fits_42 : XC := (42, .iload 5) :: kX6_fits_44
def kX6_fits_39 : XC := (39, .bipush (-2)) :: (41, .ireturn) :: kX6_fits_42
def kX6_fits_29 : XC := (29, .aload 6) :: (31, .aload 7) :: (33, .invokestatic 398) :: (36, .ifCond .ne 6) :: kX6_fits_39
def kX6_fits_24 : XC := (24, .aload 7) :: (26, .ifnull 13) :: kX6_fits_29
def kX6_fits_0 : XC := (0, .aload_n 0) :: (1, .iload_n 1) :: (2, .iload_n 3) :: (3, .iload 4) :: (5, .iconst 0) :: (6, .invokevirtual 200) :: (9, .astore 6) :: (11, .aload_n 0) :: (12, .iconst 3) :: (13, .iload_n 2) :: (14, .invokevirtual 182) :: (17, .astore 7) :: (19, .aload 6) :: (21, .ifnull 18) :: kX6_fits_24
def kX6_areThere_31 : XC := (31, .iconst 1) :: (32, .ireturn) :: []
def kX6_areThere_25 : XC := (25, .iinc 2 1) :: (28, .goto (-26)) :: kX6_areThere_31
def kX6_areThere_23 : XC := (23, .iconst 0) :: (24, .ireturn) :: kX6_areThere_25
def kX6_areThere_10 : XC := (10, .aload_n 0) :: (11, .aload_n 1) :: (12, .iload_n 2) :: (13, .iconst 0) :: (14, .invokevirtual 190) :: (17, .invokevirtual 153) :: (20, .ifCond .ne 5) :: kX6_areThere_23
def kX6_areThere_2 : XC := (2, .iload_n 2) :: (3, .aload_n 1) :: (4, .getfield 189) :: (7, .if_icmp .ge 24) :: kX6_areThere_10
def kX6_areThere_0 : XC := (0, .iconst 0) :: (1, .istore_n 2) :: kX6_areThere_2
def kX6_unfit_71 : XC := (71, .iload 6) :: (73, .ireturn) :: []
def kX6_unfit_65 : XC := (65, .iinc 7 1) :: (68, .goto (-52)) :: kX6_unfit_71
def kX6_unfit_56 : XC := (56, .iload 6) :: (58, .iconst 1) :: (59, .iload 7) :: (61, .ishl) :: (62, .ior) :: (63, .istore 6) :: kX6_unfit_65
def kX6_unfit_53 : XC := (53, .if_icmp .eq 12) :: kX6_unfit_56
def kX6_unfit_52 : XC := (52, .iconst 0) :: kX6_unfit_53
def kX6_unfit_48 : XC := (48, .iconst 1) :: (49, .goto 4) :: kX6_unfit_52
def kX6_unfit_25 : XC := (25, .iload 5) :: (27, .aload_n 1) :: (28, .iload 7) :: (30, .iconst 0) :: (31, .invokevirtual 190) :: (34, .invokestatic 172) :: (37, .aload_n 1) :: (38, .iload 7) :: (40, .iconst 1) :: (41, .invokevirtual 190) :: (44, .iconst 1) :: (45, .if_icmp .ne 7) :: kX6_unfit_48
def kX6_unfit_16 : XC := (16, .iload 7) :: (18, .aload_n 1) :: (19, .getfield 189) :: (22, .if_icmp .ge 49) :: kX6_unfit_25
def kX6_unfit_0 : XC := (0, .aload_n 0) :: (1, .iload_n 2) :: (2, .iload_n 3) :: (3, .iload 4) :: (5, .invokevirtual 207) :: (8, .istore 5) :: (10, .iconst 0) :: (11, .istore 6) :: (13, .iconst 0) :: (14, .istore 7) :: kX6_unfit_16
def kX6_manyFitting_49 : XC := (49, .iload 5) :: (51, .ireturn) :: []
def kX6_manyFitting_43 : XC := (43, .iinc 6 1) :: (46, .goto (-40)) :: kX6_manyFitting_49
def kX6_manyFitting_40 : XC := (40, .iinc 5 1) :: kX6_manyFitting_43
def kX6_manyFitting_31 : XC := (31, .iload 6) :: (33, .iconst 0) :: (34, .invokestatic 224) :: (37, .ifCond .le 6) :: kX6_manyFitting_40
def kX6_manyFitting_26 : XC := (26, .iload 4) :: (28, .ifCond .eq 12) :: kX6_manyFitting_31
def kX6_manyFitting_14 : XC := (14, .aload_n 0) :: (15, .aload_n 1) :: (16, .iload_n 2) :: (17, .iload_n 3) :: (18, .iload 6) :: (20, .invokestatic 415) :: (23, .ifCond .ne 20) :: kX6_manyFitting_26
def kX6_manyFitting_6 : XC := (6, .iload 6) :: (8, .sipush 1000) :: (11, .if_icmp .ge 38) :: kX6_manyFitting_14
def kX6_manyFitting_0 : XC := (0, .iconst 0) :: (1, .istore 5) :: (3, .iconst 0) :: (4, .istore 6) :: kX6_manyFitting_6
def kX6_likelyRain_34 : XC := (34, .ireturn) :: []
def kX6_likelyRain_19 : XC := (19, .aload_n 0) :: (20, .aload_n 1) :: (21, .iload_n 2) :: (22, .iload_n 3) :: (23, .iconst 1) :: (24, .invokestatic 402) :: (27, .iload 5) :: (29, .iload 4) :: (31, .invokestatic 306) :: kX6_likelyRain_34
def kX6_likelyRain_15 : XC := (15, .iconst (-1)) :: (16, .goto 18) :: kX6_likelyRain_19
def kX6_likelyRain_0 : XC := (0, .aload_n 0) :: (1, .aload_n 1) :: (2, .iload_n 2) :: (3, .iload_n 3) :: (4, .iconst 0) :: (5, .invokestatic 402) :: (8, .istore 5) :: (10, .iload 5) :: (12, .ifCond .ne 7) :: kX6_likelyRain_15
def kX6_extreme_73 : XC := (73, .iload 6) :: (75, .ireturn) :: []
def kX6_extreme_67 : XC := (67, .iinc 7 1) :: (70, .goto (-64)) :: kX6_extreme_73
def kX6_extreme_63 : XC := (63, .iload 8) :: (65, .istore 6) :: kX6_extreme_67
def kX6_extreme_56 : XC := (56, .iload 8) :: (58, .iload 6) :: (60, .if_icmp .ge 7) :: kX6_extreme_63
def kX6_extreme_53 : XC := (53, .goto 10) :: kX6_extreme_56
def kX6_extreme_46 : XC := (46, .iload 8) :: (48, .iload 6) :: (50, .if_icmp .le 17) :: kX6_extreme_53
def kX6_extreme_41 : XC := (41, .iload 5) :: (43, .ifCond .eq 13) :: kX6_extreme_46
def kX6_extreme_26 : XC := (26, .iload 7) :: (28, .iload 4) :: (30, .invokestatic 224) :: (33, .istore 8) :: (35, .iload 6) :: (37, .iconst (-1)) :: (38, .if_icmp .eq 25) :: kX6_extreme_41
def kX6_extreme_14 : XC := (14, .aload_n 0) :: (15, .aload_n 1) :: (16, .iload_n 2) :: (17, .iload_n 3) :: (18, .iload 7) :: (20, .invokestatic 415) :: (23, .ifCond .ne 44) :: kX6_extreme_26
def kX6_extreme_6 : XC := (6, .iload 7) :: (8, .sipush 1000) :: (11, .if_icmp .ge 62) :: kX6_extreme_14
def kX6_extreme_0 : XC := (0, .iconst (-1)) :: (1, .istore 6) :: (3, .iconst 0) :: (4, .istore 7) :: kX6_extreme_6
def kX6_lies_54 : XC := (54, .iload 4) :: (56, .ireturn) :: []
def kX6_lies_48 : XC := (48, .iinc 5 1) :: (51, .goto (-45)) :: kX6_lies_54
def kX6_lies_41 : XC := (41, .iload 4) :: (43, .iload 6) :: (45, .ior) :: (46, .istore 4) :: kX6_lies_48
def kX6_lies_32 : XC := (32, .iload 6) :: (34, .invokestatic 310) :: (37, .iconst 1) :: (38, .if_icmp .ne 10) :: kX6_lies_41
def kX6_lies_30 : XC := (30, .iconst 0) :: (31, .ireturn) :: kX6_lies_32
def kX6_lies_14 : XC := (14, .aload_n 0) :: (15, .aload_n 1) :: (16, .iload_n 2) :: (17, .iload_n 3) :: (18, .iload 5) :: (20, .invokestatic 415) :: (23, .istore 6) :: (25, .iload 6) :: (27, .ifCond .ne 5) :: kX6_lies_30
def kX6_lies_6 : XC := (6, .iload 5) :: (8, .sipush 1000) :: (11, .if_icmp .ge 43) :: kX6_lies_14
def kX6_lies_0 : XC := (0, .iconst 0) :: (1, .istore 4) :: (3, .iconst 0) :: (4, .istore 5) :: kX6_lies_6
def kX6_isSeason_14 : XC := (14, .ireturn) :: []
def kX6_isSeason_13 : XC := (13, .iconst 0) :: kX6_isSeason_14
def kX6_isSeason_9 : XC := (9, .iconst 1) :: (10, .goto 4) :: kX6_isSeason_13
def kX6_isSeason_4 : XC := (4, .iload_n 0) :: (5, .iconst 4) :: (6, .if_icmp .ge 7) :: kX6_isSeason_9
def kX6_isSeason_0 : XC := (0, .iload_n 0) :: (1, .ifCond .lt 12) :: kX6_isSeason_4
def kX6_isAmount_15 : XC := (15, .ireturn) :: []
def kX6_isAmount_14 : XC := (14, .iconst 0) :: kX6_isAmount_15
def kX6_isAmount_10 : XC := (10, .iconst 1) :: (11, .goto 4) :: kX6_isAmount_14
def kX6_isAmount_4 : XC := (4, .iload_n 0) :: (5, .bipush 10) :: (7, .if_icmp .ge 7) :: kX6_isAmount_10
def kX6_isAmount_0 : XC := (0, .iload_n 0) :: (1, .ifCond .lt 13) :: kX6_isAmount_4
def kX6_dayOf_31 : XC := (31, .ireturn) :: []
def kX6_dayOf_30 : XC := (30, .iconst (-1)) :: kX6_dayOf_31
def kX6_dayOf_21 : XC := (21, .iload_n 0) :: (22, .iload_n 1) :: (23, .iload_n 2) :: (24, .invokestatic 297) :: (27, .goto 4) :: kX6_dayOf_30
def kX6_dayOf_14 : XC := (14, .iload_n 2) :: (15, .invokestatic 419) :: (18, .ifCond .eq 12) :: kX6_dayOf_21
def kX6_dayOf_7 : XC := (7, .iload_n 1) :: (8, .invokestatic 419) :: (11, .ifCond .eq 19) :: kX6_dayOf_14
def kX6_dayOf_0 : XC := (0, .iload_n 0) :: (1, .invokestatic 419) :: (4, .ifCond .eq 26) :: kX6_dayOf_7
def kX6_numberOf_0 : XC := (0, .iload_n 0) :: (1, .bipush 10) :: (3, .imul) :: (4, .iload_n 1) :: (5, .iadd) :: (6, .bipush 10) :: (8, .imul) :: (9, .iload_n 2) :: (10, .iadd) :: (11, .ireturn) :: []
def kX6_amount_28 : XC := (28, .ireturn) :: []
def kX6_amount_24 : XC := (24, .iload_n 0) :: (25, .bipush 10) :: (27, .irem) :: kX6_amount_28
def kX6_amount_14 : XC := (14, .iload_n 0) :: (15, .bipush 10) :: (17, .idiv) :: (18, .bipush 10) :: (20, .irem) :: (21, .goto 7) :: kX6_amount_24
def kX6_amount_9 : XC := (9, .iload_n 1) :: (10, .iconst 1) :: (11, .if_icmp .ne 13) :: kX6_amount_14
def kX6_amount_4 : XC := (4, .iload_n 0) :: (5, .bipush 100) :: (7, .idiv) :: (8, .ireturn) :: kX6_amount_9
def kX6_amount_0 : XC := (0, .iload_n 1) :: (1, .ifCond .ne 8) :: kX6_amount_4
def kX6_has_24 : XC := (24, .ireturn) :: []
def kX6_has_23 : XC := (23, .iconst 0) :: kX6_has_24
def kX6_has_19 : XC := (19, .iconst 1) :: (20, .goto 4) :: kX6_has_23
def kX6_has_10 : XC := (10, .iload_n 0) :: (11, .iload_n 1) :: (12, .ishr) :: (13, .iconst 1) :: (14, .iand) :: (15, .iconst 1) :: (16, .if_icmp .ne 7) :: kX6_has_19
def kX6_has_4 : XC := (4, .iload_n 1) :: (5, .bipush 6) :: (7, .if_icmp .ge 16) :: kX6_has_10
def kX6_has_0 : XC := (0, .iload_n 1) :: (1, .ifCond .lt 22) :: kX6_has_4
def kX6_cell_17 : XC := (17, .ireturn) :: []
def kX6_cell_16 : XC := (16, .iconst 0) :: kX6_cell_17
def kX6_cell_10 : XC := (10, .aload_n 0) :: (11, .iload_n 1) :: (12, .iaload) :: (13, .goto 4) :: kX6_cell_16
def kX6_cell_4 : XC := (4, .iload_n 1) :: (5, .aload_n 0) :: (6, .arraylength) :: (7, .if_icmp .ge 9) :: kX6_cell_10
def kX6_cell_0 : XC := (0, .iload_n 1) :: (1, .ifCond .lt 15) :: kX6_cell_4
def kX6_put_14 : XC := (14, .return_) :: []
def kX6_put_10 : XC := (10, .aload_n 0) :: (11, .iload_n 1) :: (12, .iload_n 2) :: (13, .iastore) :: kX6_put_14
def kX6_put_4 : XC := (4, .iload_n 1) :: (5, .aload_n 0) :: (6, .arraylength) :: (7, .if_icmp .ge 7) :: kX6_put_10
def kX6_put_0 : XC := (0, .iload_n 1) :: (1, .ifCond .lt 13) :: kX6_put_4
def kX6_copy_14 : XC := (14, .return_) :: []
def kX6_copy_11 : XC := (11, .invokestatic 422) :: kX6_copy_14
def kX6_copy_0 : XC := (0, .aload_n 0) :: (1, .iconst 0) :: (2, .aload_n 1) :: (3, .iconst 0) :: (4, .aload_n 0) :: (5, .arraylength) :: (6, .aload_n 1) :: (7, .arraylength) :: (8, .invokestatic 366) :: kX6_copy_11
def kX6_fraction_21 : XC := (21, .iload_n 3) :: (22, .idiv) :: (23, .ireturn) :: []
def kX6_fraction_20 : XC := (20, .iload_n 0) :: kX6_fraction_21
def kX6_fraction_16 : XC := (16, .iload_n 1) :: (17, .goto 4) :: kX6_fraction_20
def kX6_fraction_12 : XC := (12, .iload_n 2) :: (13, .ifCond .eq 7) :: kX6_fraction_16
def kX6_fraction_10 : XC := (10, .iconst (-1)) :: (11, .ireturn) :: kX6_fraction_12
def kX6_fraction_0 : XC := (0, .iload_n 0) :: (1, .iload_n 1) :: (2, .invokestatic 428) :: (5, .istore_n 3) :: (6, .iload_n 3) :: (7, .ifCond .ne 5) :: kX6_fraction_10
def kX6_commonDivisor_34 : XC := (34, .iload_n 2) :: (35, .ireturn) :: []
def kX6_commonDivisor_18 : XC := (18, .iload_n 2) :: (19, .iload_n 3) :: (20, .irem) :: (21, .istore 5) :: (23, .iload_n 3) :: (24, .istore_n 2) :: (25, .iload 5) :: (27, .istore_n 3) :: (28, .iinc 4 1) :: (31, .goto (-24)) :: kX6_commonDivisor_34
def kX6_commonDivisor_14 : XC := (14, .iload_n 3) :: (15, .ifCond .eq 19) :: kX6_commonDivisor_18
def kX6_commonDivisor_7 : XC := (7, .iload 4) :: (9, .bipush 64) :: (11, .if_icmp .ge 23) :: kX6_commonDivisor_14
def kX6_commonDivisor_0 : XC := (0, .iload_n 0) :: (1, .istore_n 2) :: (2, .iload_n 1) :: (3, .istore_n 3) :: (4, .iconst 0) :: (5, .istore 4) :: kX6_commonDivisor_7
def kX7_init_0 : XC := (0, .aload_n 0) :: (1, .invokespecial 1) :: (4, .aload_n 0) :: (5, .sipush 5768) :: (8, .newarray .int) :: (10, .putfield 7) :: (13, .aload_n 0) :: (14, .iconst 3) :: (15, .newarray .boolean) :: (17, .putfield 13) :: (20, .aload_n 0) :: (21, .sipush 201) :: (24, .newarray .int) :: (26, .putfield 17) :: (29, .aload_n 0) :: (30, .iconst 3) :: (31, .newarray .int) :: (33, .putfield 20) :: (36, .aload_n 0) :: (37, .bipush 6) :: (39, .newarray .int) :: (41, .putfield 23) :: (44, .aload_n 0) :: (45, .sipush 1791) :: (48, .newarray .int) :: (50, .putfield 26) :: (53, .aload_n 0) :: (54, .sipush 1000) :: (57, .newarray .boolean) :: (59, .putfield 29) :: (62, .aload_n 0) :: (63, .getfield 7) :: (66, .bipush 8) :: (68, .iconst (-1)) :: (69, .iastore) :: (70, .return_) :: []
def kX7_isIn_15 : XC := (15, .ireturn) :: []
def kX7_isIn_14 : XC := (14, .iconst 0) :: kX7_isIn_15
def kX7_isIn_10 : XC := (10, .iconst 1) :: (11, .goto 4) :: kX7_isIn_14
def kX7_isIn_5 : XC := (5, .iload_n 0) :: (6, .iload_n 2) :: (7, .if_icmp .gt 7) :: kX7_isIn_10
def kX7_isIn_0 : XC := (0, .iload_n 0) :: (1, .iload_n 1) :: (2, .if_icmp .lt 12) :: kX7_isIn_5
def kX7_feed_125 : XC := (125, .aload_n 0) :: (126, .getfield 7) :: (129, .bipush 6) :: (131, .iaload) :: (132, .ireturn) :: []
def kX7_feed_74 : XC := (74, .istore 7) :: (76, .aload_n 0) :: (77, .getfield 7) :: (80, .bipush 10) :: (82, .aload_n 0) :: (83, .getfield 7) :: (86, .bipush 6) :: (88, .iaload) :: (89, .iadd) :: (90, .iload 7) :: (92, .bipush 24) :: (94, .bipush 8) :: (96, .iload 6) :: (98, .iconst 4) :: (99, .irem) :: (100, .imul) :: (101, .isub) :: (102, .ishr) :: (103, .sipush 255) :: (106, .iand) :: (107, .iastore) :: (108, .aload_n 0) :: (109, .getfield 7) :: (112, .bipush 6) :: (114, .dup2) :: (115, .iaload) :: (116, .iconst 1) :: (117, .iadd) :: (118, .iastore) :: (119, .iinc 6 1) :: (122, .goto (-101)) :: kX7_feed_125
def kX7_feed_72 : XC := (72, .iload 5) :: kX7_feed_74
def kX7_feed_67 : XC := (67, .iload 4) :: (69, .goto 5) :: kX7_feed_72
def kX7_feed_60 : XC := (60, .iload 6) :: (62, .bipush 16) :: (64, .if_icmp .ge 8) :: kX7_feed_67
def kX7_feed_56 : XC := (56, .iload_n 3) :: (57, .goto 17) :: kX7_feed_60
def kX7_feed_49 : XC := (49, .iload 6) :: (51, .bipush 12) :: (53, .if_icmp .ge 7) :: kX7_feed_56
def kX7_feed_45 : XC := (45, .iload_n 2) :: (46, .goto 28) :: kX7_feed_49
def kX7_feed_38 : XC := (38, .iload 6) :: (40, .bipush 8) :: (42, .if_icmp .ge 7) :: kX7_feed_45
def kX7_feed_34 : XC := (34, .iload_n 1) :: (35, .goto 39) :: kX7_feed_38
def kX7_feed_28 : XC := (28, .iload 6) :: (30, .iconst 4) :: (31, .if_icmp .ge 7) :: kX7_feed_34
def kX7_feed_21 : XC := (21, .iload 6) :: (23, .bipush 20) :: (25, .if_icmp .ge 100) :: kX7_feed_28
def kX7_feed_18 : XC := (18, .iconst 0) :: (19, .istore 6) :: kX7_feed_21
def kX7_feed_16 : XC := (16, .iconst (-1)) :: (17, .ireturn) :: kX7_feed_18
def kX7_feed_0 : XC := (0, .aload_n 0) :: (1, .getfield 7) :: (4, .bipush 6) :: (6, .iaload) :: (7, .bipush 20) :: (9, .iadd) :: (10, .sipush 600) :: (13, .if_icmp .le 5) :: kX7_feed_16
def kX7_end_17 : XC := (17, .aload_n 0) :: (18, .getfield 7) :: (21, .bipush 6) :: (23, .iload_n 1) :: (24, .iastore) :: (25, .iload_n 1) :: (26, .ireturn) :: []
def kX7_end_15 : XC := (15, .iconst (-1)) :: (16, .ireturn) :: kX7_end_17
def kX7_end_4 : XC := (4, .iload_n 1) :: (5, .aload_n 0) :: (6, .getfield 7) :: (9, .bipush 6) :: (11, .iaload) :: (12, .if_icmp .le 5) :: kX7_end_15
def kX7_end_0 : XC := (0, .iload_n 1) :: (1, .ifCond .lt 14) :: kX7_end_4
def kX7_byteAt_21 : XC := (21, .ireturn) :: []
def kX7_byteAt_20 : XC := (20, .iconst (-1)) :: kX7_byteAt_21
def kX7_byteAt_8 : XC := (8, .aload_n 0) :: (9, .getfield 7) :: (12, .bipush 10) :: (14, .iload_n 1) :: (15, .iadd) :: (16, .iaload) :: (17, .goto 4) :: kX7_byteAt_20
def kX7_byteAt_0 : XC := (0, .iload_n 1) :: (1, .aload_n 0) :: (2, .getfield 32) :: (5, .if_icmp .ge 15) :: kX7_byteAt_8
def kX7_isLetter_17 : XC := (17, .ireturn) :: []
def kX7_isLetter_16 : XC := (16, .iconst 0) :: kX7_isLetter_17
def kX7_isLetter_12 : XC := (12, .iconst 1) :: (13, .goto 4) :: kX7_isLetter_16
def kX7_isLetter_6 : XC := (6, .iload_n 0) :: (7, .bipush 122) :: (9, .if_icmp .gt 7) :: kX7_isLetter_12
def kX7_isLetter_0 : XC := (0, .iload_n 0) :: (1, .bipush 97) :: (3, .if_icmp .lt 13) :: kX7_isLetter_6
def kX7_isDigit_17 : XC := (17, .ireturn) :: []
def kX7_isDigit_16 : XC := (16, .iconst 0) :: kX7_isDigit_17
def kX7_isDigit_12 : XC := (12, .iconst 1) :: (13, .goto 4) :: kX7_isDigit_16
def kX7_isDigit_6 : XC := (6, .iload_n 0) :: (7, .bipush 57) :: (9, .if_icmp .gt 7) :: kX7_isDigit_12
def kX7_isDigit_0 : XC := (0, .iload_n 0) :: (1, .bipush 48) :: (3, .if_icmp .lt 13) :: kX7_isDigit_6
def kX7_four_0 : XC := (0, .iload_n 0) :: (1, .bipush 32) :: (3, .imul) :: (4, .iload_n 1) :: (5, .iadd) :: (6, .bipush 32) :: (8, .imul) :: (9, .iload_n 2) :: (10, .iadd) :: (11, .bipush 32) :: (13, .imul) :: (14, .iload_n 3) :: (15, .iadd) :: (16, .i2l) :: (17, .lreturn) :: []
def kX7_eight_0 : XC := (0, .iload_n 0) :: (1, .iload_n 1) :: (2, .iload_n 2) :: (3, .iload_n 3) :: (4, .invokestatic 36) :: (7, .ldc2_w 40) :: (10, .lmul) :: (11, .iload 4) :: (13, .iload 5) :: (15, .iload 6) :: (17, .iload 7) :: (19, .invokestatic 36) :: (22, .ladd) :: (23, .lreturn) :: []
def kX7_wordOf_206 : XC := (206, .lload_n 0) :: (207, .invokestatic 46) :: (210, .ireturn) :: []
def kX7_wordOf_203 : XC := (203, .bipush 10) :: (205, .ireturn) :: kX7_wordOf_206
def kX7_wordOf_189 : XC := (189, .lload_n 0) :: (190, .bipush 8) :: (192, .iconst 5) :: (193, .iconst 1) :: (194, .bipush 20) :: (196, .invokestatic 36) :: (199, .lcmp) :: (200, .ifCond .ne 6) :: kX7_wordOf_203
def kX7_wordOf_186 : XC := (186, .bipush 9) :: (188, .ireturn) :: kX7_wordOf_189
def kX7_wordOf_165 : XC := (165, .lload_n 0) :: (166, .iconst 0) :: (167, .iconst 0) :: (168, .bipush 7) :: (170, .bipush 18) :: (172, .bipush 15) :: (174, .bipush 21) :: (176, .bipush 14) :: (178, .iconst 4) :: (179, .invokestatic 42) :: (182, .lcmp) :: (183, .ifCond .ne 6) :: kX7_wordOf_186
def kX7_wordOf_162 : XC := (162, .bipush 8) :: (164, .ireturn) :: kX7_wordOf_165
def kX7_wordOf_143 : XC := (143, .lload_n 0) :: (144, .iconst 0) :: (145, .iconst 0) :: (146, .iconst 0) :: (147, .iconst 3) :: (148, .bipush 12) :: (150, .bipush 15) :: (152, .bipush 21) :: (154, .iconst 4) :: (155, .invokestatic 42) :: (158, .lcmp) :: (159, .ifCond .ne 6) :: kX7_wordOf_162
def kX7_wordOf_140 : XC := (140, .bipush 7) :: (142, .ireturn) :: kX7_wordOf_143
def kX7_wordOf_120 : XC := (120, .lload_n 0) :: (121, .iconst 0) :: (122, .iconst 0) :: (123, .iconst 0) :: (124, .bipush 19) :: (126, .bipush 16) :: (128, .bipush 9) :: (130, .bipush 20) :: (132, .iconst 5) :: (133, .invokestatic 42) :: (136, .lcmp) :: (137, .ifCond .ne 6) :: kX7_wordOf_140
def kX7_wordOf_117 : XC := (117, .bipush 6) :: (119, .ireturn) :: kX7_wordOf_120
def kX7_wordOf_97 : XC := (97, .lload_n 0) :: (98, .iconst 0) :: (99, .iconst 0) :: (100, .iconst 0) :: (101, .bipush 17) :: (103, .bipush 21) :: (105, .bipush 15) :: (107, .bipush 20) :: (109, .iconst 1) :: (110, .invokestatic 42) :: (113, .lcmp) :: (114, .ifCond .ne 6) :: kX7_wordOf_117
def kX7_wordOf_95 : XC := (95, .iconst 5) :: (96, .ireturn) :: kX7_wordOf_97
def kX7_wordOf_75 : XC := (75, .lload_n 0) :: (76, .iconst 0) :: (77, .iconst 0) :: (78, .bipush 15) :: (80, .bipush 6) :: (82, .bipush 6) :: (84, .bipush 9) :: (86, .iconst 3) :: (87, .iconst 5) :: (88, .invokestatic 42) :: (91, .lcmp) :: (92, .ifCond .ne 5) :: kX7_wordOf_95
def kX7_wordOf_73 : XC := (73, .iconst 4) :: (74, .ireturn) :: kX7_wordOf_75
def kX7_wordOf_59 : XC := (59, .lload_n 0) :: (60, .bipush 6) :: (62, .iconst 5) :: (63, .bipush 21) :: (65, .iconst 4) :: (66, .invokestatic 36) :: (69, .lcmp) :: (70, .ifCond .ne 5) :: kX7_wordOf_73
def kX7_wordOf_57 : XC := (57, .iconst 3) :: (58, .ireturn) :: kX7_wordOf_59
def kX7_wordOf_42 : XC := (42, .lload_n 0) :: (43, .bipush 22) :: (45, .iconst 5) :: (46, .bipush 20) :: (48, .bipush 15) :: (50, .invokestatic 36) :: (53, .lcmp) :: (54, .ifCond .ne 5) :: kX7_wordOf_57
def kX7_wordOf_40 : XC := (40, .iconst 2) :: (41, .ireturn) :: kX7_wordOf_42
def kX7_wordOf_25 : XC := (25, .lload_n 0) :: (26, .bipush 23) :: (28, .iconst 1) :: (29, .bipush 14) :: (31, .bipush 20) :: (33, .invokestatic 36) :: (36, .lcmp) :: (37, .ifCond .ne 5) :: kX7_wordOf_40
def kX7_wordOf_23 : XC := (23, .iconst 1) :: (24, .ireturn) :: kX7_wordOf_25
def kX7_wordOf_0 : XC := (0, .lload_n 0) :: (1, .bipush 13) :: (3, .bipush 9) :: (5, .bipush 14) :: (7, .bipush 9) :: (9, .bipush 19) :: (11, .bipush 20) :: (13, .iconst 5) :: (14, .bipush 18) :: (16, .invokestatic 42) :: (19, .lcmp) :: (20, .ifCond .ne 5) :: kX7_wordOf_23
def kX7_kindOrSeason_151 : XC := (151, .lload_n 0) :: (152, .invokestatic 50) :: (155, .ireturn) :: []
def kX7_kindOrSeason_148 : XC := (148, .bipush 17) :: (150, .ireturn) :: kX7_kindOrSeason_151
def kX7_kindOrSeason_127 : XC := (127, .lload_n 0) :: (128, .iconst 0) :: (129, .iconst 0) :: (130, .bipush 23) :: (132, .bipush 9) :: (134, .bipush 14) :: (136, .bipush 20) :: (138, .iconst 5) :: (139, .bipush 18) :: (141, .invokestatic 42) :: (144, .lcmp) :: (145, .ifCond .ne 6) :: kX7_kindOrSeason_148
def kX7_kindOrSeason_124 : XC := (124, .bipush 16) :: (126, .ireturn) :: kX7_kindOrSeason_127
def kX7_kindOrSeason_103 : XC := (103, .lload_n 0) :: (104, .iconst 0) :: (105, .iconst 0) :: (106, .iconst 1) :: (107, .bipush 21) :: (109, .bipush 20) :: (111, .bipush 21) :: (113, .bipush 13) :: (115, .bipush 14) :: (117, .invokestatic 42) :: (120, .lcmp) :: (121, .ifCond .ne 6) :: kX7_kindOrSeason_124
def kX7_kindOrSeason_100 : XC := (100, .bipush 15) :: (102, .ireturn) :: kX7_kindOrSeason_103
def kX7_kindOrSeason_79 : XC := (79, .lload_n 0) :: (80, .iconst 0) :: (81, .iconst 0) :: (82, .bipush 19) :: (84, .bipush 21) :: (86, .bipush 13) :: (88, .bipush 13) :: (90, .iconst 5) :: (91, .bipush 18) :: (93, .invokestatic 42) :: (96, .lcmp) :: (97, .ifCond .ne 6) :: kX7_kindOrSeason_100
def kX7_kindOrSeason_76 : XC := (76, .bipush 14) :: (78, .ireturn) :: kX7_kindOrSeason_79
def kX7_kindOrSeason_54 : XC := (54, .lload_n 0) :: (55, .iconst 0) :: (56, .iconst 0) :: (57, .bipush 19) :: (59, .bipush 16) :: (61, .bipush 18) :: (63, .bipush 9) :: (65, .bipush 14) :: (67, .bipush 7) :: (69, .invokestatic 42) :: (72, .lcmp) :: (73, .ifCond .ne 6) :: kX7_kindOrSeason_76
def kX7_kindOrSeason_51 : XC := (51, .bipush 13) :: (53, .ireturn) :: kX7_kindOrSeason_54
def kX7_kindOrSeason_36 : XC := (36, .lload_n 0) :: (37, .iconst 0) :: (38, .bipush 19) :: (40, .bipush 21) :: (42, .bipush 14) :: (44, .invokestatic 36) :: (47, .lcmp) :: (48, .ifCond .ne 6) :: kX7_kindOrSeason_51
def kX7_kindOrSeason_33 : XC := (33, .bipush 12) :: (35, .ireturn) :: kX7_kindOrSeason_36
def kX7_kindOrSeason_18 : XC := (18, .lload_n 0) :: (19, .bipush 23) :: (21, .bipush 9) :: (23, .bipush 14) :: (25, .iconst 4) :: (26, .invokestatic 36) :: (29, .lcmp) :: (30, .ifCond .ne 6) :: kX7_kindOrSeason_33
def kX7_kindOrSeason_15 : XC := (15, .bipush 11) :: (17, .ireturn) :: kX7_kindOrSeason_18
def kX7_kindOrSeason_0 : XC := (0, .lload_n 0) :: (1, .bipush 18) :: (3, .iconst 1) :: (4, .bipush 9) :: (6, .bipush 14) :: (8, .invokestatic 36) :: (11, .lcmp) :: (12, .ifCond .ne 6) :: kX7_kindOrSeason_15
def kX7_otherWord_300 : XC := (300, .ireturn) :: []
def kX7_otherWord_298 : XC := (298, .bipush 99) :: kX7_otherWord_300
def kX7_otherWord_293 : XC := (293, .bipush 32) :: (295, .goto 5) :: kX7_otherWord_298
def kX7_otherWord_274 : XC := (274, .lload_n 0) :: (275, .iconst 0) :: (276, .iconst 0) :: (277, .iconst 0) :: (278, .bipush 19) :: (280, .bipush 8) :: (282, .iconst 1) :: (283, .bipush 18) :: (285, .iconst 5) :: (286, .invokestatic 42) :: (289, .lcmp) :: (290, .ifCond .ne 8) :: kX7_otherWord_293
def kX7_otherWord_271 : XC := (271, .bipush 31) :: (273, .ireturn) :: kX7_otherWord_274
def kX7_otherWord_257 : XC := (257, .lload_n 0) :: (258, .iconst 0) :: (259, .bipush 23) :: (261, .iconst 1) :: (262, .bipush 19) :: (264, .invokestatic 36) :: (267, .lcmp) :: (268, .ifCond .ne 6) :: kX7_otherWord_271
def kX7_otherWord_254 : XC := (254, .bipush 30) :: (256, .ireturn) :: kX7_otherWord_257
def kX7_otherWord_240 : XC := (240, .lload_n 0) :: (241, .iconst 0) :: (242, .bipush 25) :: (244, .iconst 5) :: (245, .bipush 19) :: (247, .invokestatic 36) :: (250, .lcmp) :: (251, .ifCond .ne 6) :: kX7_otherWord_254
def kX7_otherWord_237 : XC := (237, .bipush 29) :: (239, .ireturn) :: kX7_otherWord_240
def kX7_otherWord_223 : XC := (223, .lload_n 0) :: (224, .bipush 19) :: (226, .iconst 1) :: (227, .bipush 9) :: (229, .iconst 4) :: (230, .invokestatic 36) :: (233, .lcmp) :: (234, .ifCond .ne 6) :: kX7_otherWord_237
def kX7_otherWord_220 : XC := (220, .bipush 28) :: (222, .ireturn) :: kX7_otherWord_223
def kX7_otherWord_205 : XC := (205, .lload_n 0) :: (206, .bipush 16) :: (208, .iconst 1) :: (209, .bipush 19) :: (211, .bipush 19) :: (213, .invokestatic 36) :: (216, .lcmp) :: (217, .ifCond .ne 6) :: kX7_otherWord_220
def kX7_otherWord_202 : XC := (202, .bipush 27) :: (204, .ireturn) :: kX7_otherWord_205
def kX7_otherWord_183 : XC := (183, .lload_n 0) :: (184, .iconst 0) :: (185, .iconst 0) :: (186, .bipush 18) :: (188, .iconst 5) :: (189, .iconst 3) :: (190, .iconst 1) :: (191, .bipush 12) :: (193, .bipush 12) :: (195, .invokestatic 42) :: (198, .lcmp) :: (199, .ifCond .ne 6) :: kX7_otherWord_202
def kX7_otherWord_180 : XC := (180, .bipush 26) :: (182, .ireturn) :: kX7_otherWord_183
def kX7_otherWord_158 : XC := (158, .lload_n 0) :: (159, .iconst 0) :: (160, .iconst 4) :: (161, .bipush 9) :: (163, .bipush 19) :: (165, .bipush 13) :: (167, .bipush 9) :: (169, .bipush 19) :: (171, .bipush 19) :: (173, .invokestatic 42) :: (176, .lcmp) :: (177, .ifCond .ne 6) :: kX7_otherWord_180
def kX7_otherWord_155 : XC := (155, .bipush 25) :: (157, .ireturn) :: kX7_otherWord_158
def kX7_otherWord_135 : XC := (135, .lload_n 0) :: (136, .iconst 0) :: (137, .iconst 0) :: (138, .bipush 19) :: (140, .iconst 5) :: (141, .iconst 1) :: (142, .bipush 19) :: (144, .bipush 15) :: (146, .bipush 14) :: (148, .invokestatic 42) :: (151, .lcmp) :: (152, .ifCond .ne 6) :: kX7_otherWord_155
def kX7_otherWord_132 : XC := (132, .bipush 24) :: (134, .ireturn) :: kX7_otherWord_135
def kX7_otherWord_117 : XC := (117, .lload_n 0) :: (118, .bipush 13) :: (120, .bipush 15) :: (122, .bipush 22) :: (124, .iconst 5) :: (125, .invokestatic 36) :: (128, .lcmp) :: (129, .ifCond .ne 6) :: kX7_otherWord_132
def kX7_otherWord_114 : XC := (114, .bipush 23) :: (116, .ireturn) :: kX7_otherWord_117
def kX7_otherWord_95 : XC := (95, .lload_n 0) :: (96, .iconst 0) :: (97, .iconst 0) :: (98, .iconst 0) :: (99, .iconst 1) :: (100, .bipush 6) :: (102, .bipush 20) :: (104, .iconst 5) :: (105, .bipush 18) :: (107, .invokestatic 42) :: (110, .lcmp) :: (111, .ifCond .ne 6) :: kX7_otherWord_114
def kX7_otherWord_92 : XC := (92, .bipush 22) :: (94, .ireturn) :: kX7_otherWord_95
def kX7_otherWord_77 : XC := (77, .lload_n 0) :: (78, .iconst 0) :: (79, .bipush 19) :: (81, .bipush 21) :: (83, .bipush 13) :: (85, .invokestatic 36) :: (88, .lcmp) :: (89, .ifCond .ne 6) :: kX7_otherWord_92
def kX7_otherWord_74 : XC := (74, .bipush 21) :: (76, .ireturn) :: kX7_otherWord_77
def kX7_otherWord_60 : XC := (60, .lload_n 0) :: (61, .iconst 0) :: (62, .iconst 0) :: (63, .bipush 9) :: (65, .bipush 14) :: (67, .invokestatic 36) :: (70, .lcmp) :: (71, .ifCond .ne 6) :: kX7_otherWord_74
def kX7_otherWord_57 : XC := (57, .bipush 20) :: (59, .ireturn) :: kX7_otherWord_60
def kX7_otherWord_38 : XC := (38, .lload_n 0) :: (39, .iconst 0) :: (40, .iconst 0) :: (41, .iconst 0) :: (42, .iconst 2) :: (43, .iconst 5) :: (44, .bipush 12) :: (46, .bipush 15) :: (48, .bipush 23) :: (50, .invokestatic 42) :: (53, .lcmp) :: (54, .ifCond .ne 6) :: kX7_otherWord_57
def kX7_otherWord_35 : XC := (35, .bipush 19) :: (37, .ireturn) :: kX7_otherWord_38
def kX7_otherWord_17 : XC := (17, .lload_n 0) :: (18, .iconst 0) :: (19, .iconst 0) :: (20, .iconst 0) :: (21, .iconst 1) :: (22, .iconst 2) :: (23, .bipush 15) :: (25, .bipush 22) :: (27, .iconst 5) :: (28, .invokestatic 42) :: (31, .lcmp) :: (32, .ifCond .ne 6) :: kX7_otherWord_35
def kX7_otherWord_14 : XC := (14, .bipush 18) :: (16, .ireturn) :: kX7_otherWord_17
def kX7_otherWord_0 : XC := (0, .lload_n 0) :: (1, .iconst 0) :: (2, .iconst 0) :: (3, .bipush 14) :: (5, .bipush 15) :: (7, .invokestatic 36) :: (10, .lcmp) :: (11, .ifCond .ne 6) :: kX7_otherWord_14
def kX7_advance_311 : XC := (311, .return_) :: []
def kX7_advance_308 : XC := (308, .putfield 63) :: kX7_advance_311
def kX7_advance_307 : XC := (307, .iconst 4) :: kX7_advance_308
def kX7_advance_303 : XC := (303, .iconst 2) :: (304, .goto 4) :: kX7_advance_307
def kX7_advance_286 : XC := (286, .aload_n 0) :: (287, .dup) :: (288, .getfield 53) :: (291, .iconst 1) :: (292, .iadd) :: (293, .putfield 53) :: (296, .aload_n 0) :: (297, .iload_n 1) :: (298, .bipush 59) :: (300, .if_icmp .ne 7) :: kX7_advance_303
def kX7_advance_280 : XC := (280, .putfield 63) :: (283, .goto 28) :: kX7_advance_286
def kX7_advance_279 : XC := (279, .iconst 1) :: kX7_advance_280
def kX7_advance_275 : XC := (275, .iconst 4) :: (276, .goto 4) :: kX7_advance_279
def kX7_advance_261 : XC := (261, .aload_n 0) :: (262, .aload_n 0) :: (263, .getfield 53) :: (266, .aload_n 0) :: (267, .getfield 60) :: (270, .isub) :: (271, .iconst 2) :: (272, .if_icmp .le 7) :: kX7_advance_275
def kX7_advance_248 : XC := (248, .aload_n 0) :: (249, .dup) :: (250, .getfield 53) :: (253, .iconst 1) :: (254, .iadd) :: (255, .putfield 53) :: (258, .goto (-60)) :: kX7_advance_261
def kX7_advance_225 : XC := (225, .aload_n 0) :: (226, .bipush 10) :: (228, .aload_n 0) :: (229, .getfield 83) :: (232, .imul) :: (233, .aload_n 0) :: (234, .aload_n 0) :: (235, .getfield 53) :: (238, .invokevirtual 56) :: (241, .iadd) :: (242, .bipush 48) :: (244, .isub) :: (245, .putfield 83) :: kX7_advance_248
def kX7_advance_212 : XC := (212, .aload_n 0) :: (213, .getfield 53) :: (216, .aload_n 0) :: (217, .getfield 60) :: (220, .isub) :: (221, .iconst 2) :: (222, .if_icmp .ge 26) :: kX7_advance_225
def kX7_advance_198 : XC := (198, .aload_n 0) :: (199, .aload_n 0) :: (200, .getfield 53) :: (203, .invokevirtual 56) :: (206, .invokestatic 80) :: (209, .ifCond .eq 52) :: kX7_advance_212
def kX7_advance_193 : XC := (193, .aload_n 0) :: (194, .iconst 0) :: (195, .putfield 83) :: kX7_advance_198
def kX7_advance_186 : XC := (186, .iload_n 1) :: (187, .invokestatic 80) :: (190, .ifCond .eq 96) :: kX7_advance_193
def kX7_advance_180 : XC := (180, .putfield 63) :: (183, .goto 128) :: kX7_advance_186
def kX7_advance_179 : XC := (179, .iconst 3) :: kX7_advance_180
def kX7_advance_175 : XC := (175, .iconst 4) :: (176, .goto 4) :: kX7_advance_179
def kX7_advance_162 : XC := (162, .putfield 77) :: (165, .aload_n 0) :: (166, .aload_n 0) :: (167, .getfield 77) :: (170, .bipush 99) :: (172, .if_icmp .ne 7) :: kX7_advance_175
def kX7_advance_158 : XC := (158, .lload_n 2) :: (159, .invokestatic 74) :: kX7_advance_162
def kX7_advance_153 : XC := (153, .bipush 99) :: (155, .goto 7) :: kX7_advance_158
def kX7_advance_138 : XC := (138, .aload_n 0) :: (139, .aload_n 0) :: (140, .getfield 53) :: (143, .aload_n 0) :: (144, .getfield 60) :: (147, .isub) :: (148, .bipush 8) :: (150, .if_icmp .le 8) :: kX7_advance_153
def kX7_advance_125 : XC := (125, .aload_n 0) :: (126, .dup) :: (127, .getfield 53) :: (130, .iconst 1) :: (131, .iadd) :: (132, .putfield 53) :: (135, .goto (-58)) :: kX7_advance_138
def kX7_advance_105 : XC := (105, .ldc2_w 70) :: (108, .lload_n 2) :: (109, .lmul) :: (110, .aload_n 0) :: (111, .aload_n 0) :: (112, .getfield 53) :: (115, .invokevirtual 56) :: (118, .i2l) :: (119, .ladd) :: (120, .ldc2_w 72) :: (123, .lsub) :: (124, .lstore_n 2) :: kX7_advance_125
def kX7_advance_91 : XC := (91, .aload_n 0) :: (92, .getfield 53) :: (95, .aload_n 0) :: (96, .getfield 60) :: (99, .isub) :: (100, .bipush 8) :: (102, .if_icmp .ge 23) :: kX7_advance_105
def kX7_advance_77 : XC := (77, .aload_n 0) :: (78, .aload_n 0) :: (79, .getfield 53) :: (82, .invokevirtual 56) :: (85, .invokestatic 66) :: (88, .ifCond .eq 50) :: kX7_advance_91
def kX7_advance_75 : XC := (75, .lconst 0) :: (76, .lstore_n 2) :: kX7_advance_77
def kX7_advance_68 : XC := (68, .iload_n 1) :: (69, .invokestatic 66) :: (72, .ifCond .eq 114) :: kX7_advance_75
def kX7_advance_60 : XC := (60, .aload_n 0) :: (61, .iconst 0) :: (62, .putfield 63) :: (65, .goto 246) :: kX7_advance_68
def kX7_advance_39 : XC := (39, .aload_n 0) :: (40, .aload_n 0) :: (41, .getfield 53) :: (44, .putfield 60) :: (47, .aload_n 0) :: (48, .aload_n 0) :: (49, .getfield 53) :: (52, .invokevirtual 56) :: (55, .istore_n 1) :: (56, .iload_n 1) :: (57, .ifCond .ge 11) :: kX7_advance_60
def kX7_advance_26 : XC := (26, .aload_n 0) :: (27, .dup) :: (28, .getfield 53) :: (31, .iconst 1) :: (32, .iadd) :: (33, .putfield 53) :: (36, .goto (-36)) :: kX7_advance_39
def kX7_advance_13 : XC := (13, .aload_n 0) :: (14, .aload_n 0) :: (15, .getfield 53) :: (18, .invokevirtual 56) :: (21, .bipush 32) :: (23, .if_icmp .ne 16) :: kX7_advance_26
def kX7_advance_0 : XC := (0, .aload_n 0) :: (1, .aload_n 0) :: (2, .getfield 53) :: (5, .invokevirtual 56) :: (8, .bipush 10) :: (10, .if_icmp .eq 16) :: kX7_advance_13
def kX7_ends_8 : XC := (8, .aload_n 0) :: (9, .iconst 1) :: (10, .putfield 86) :: (13, .aload_n 0) :: (14, .getfield 7) :: (17, .bipush 7) :: (19, .iconst 1) :: (20, .iastore) :: (21, .aload_n 0) :: (22, .getfield 7) :: (25, .bipush 8) :: (27, .aload_n 0) :: (28, .getfield 60) :: (31, .iastore) :: (32, .return_) :: []
def kX7_ends_7 : XC := (7, .return_) :: kX7_ends_8
def kX7_ends_0 : XC := (0, .aload_n 0) :: (1, .getfield 86) :: (4, .ifCond .eq 4) :: kX7_ends_7
def kX7_also_51 : XC := (51, .aload_n 0) :: (52, .getfield 7) :: (55, .bipush 7) :: (57, .iload_n 1) :: (58, .iastore) :: (59, .aload_n 0) :: (60, .getfield 7) :: (63, .bipush 8) :: (65, .iload_n 2) :: (66, .iastore) :: (67, .return_) :: []
def kX7_also_50 : XC := (50, .return_) :: kX7_also_51
def kX7_also_39 : XC := (39, .aload_n 0) :: (40, .getfield 7) :: (43, .bipush 7) :: (45, .iaload) :: (46, .iload_n 1) :: (47, .if_icmp .gt 4) :: kX7_also_50
def kX7_also_28 : XC := (28, .aload_n 0) :: (29, .getfield 7) :: (32, .bipush 8) :: (34, .iaload) :: (35, .iload_n 2) :: (36, .if_icmp .ne 15) :: kX7_also_39
def kX7_also_17 : XC := (17, .aload_n 0) :: (18, .getfield 7) :: (21, .bipush 8) :: (23, .iaload) :: (24, .iload_n 2) :: (25, .if_icmp .lt 25) :: kX7_also_28
def kX7_also_7 : XC := (7, .aload_n 0) :: (8, .getfield 7) :: (11, .bipush 7) :: (13, .iaload) :: (14, .ifCond .eq 37) :: kX7_also_17
def kX7_also_0 : XC := (0, .aload_n 0) :: (1, .getfield 86) :: (4, .ifCond .ne 46) :: kX7_also_7
def kX7_numbered_62 : XC := (62, .ireturn) :: []
def kX7_numbered_61 : XC := (61, .iload_n 1) :: kX7_numbered_62
def kX7_numbered_57 : XC := (57, .iload_n 3) :: (58, .goto 4) :: kX7_numbered_61
def kX7_numbered_44 : XC := (44, .aload_n 0) :: (45, .invokevirtual 101) :: (48, .iload_n 3) :: (49, .iload_n 1) :: (50, .iload_n 2) :: (51, .invokestatic 93) :: (54, .ifCond .eq 7) :: kX7_numbered_57
def kX7_numbered_35 : XC := (35, .aload_n 0) :: (36, .iconst 2) :: (37, .aload_n 0) :: (38, .getfield 60) :: (41, .invokevirtual 97) :: kX7_numbered_44
def kX7_numbered_21 : XC := (21, .aload_n 0) :: (22, .getfield 83) :: (25, .istore_n 3) :: (26, .iload_n 3) :: (27, .iload_n 1) :: (28, .iload_n 2) :: (29, .invokestatic 93) :: (32, .ifCond .ne 12) :: kX7_numbered_35
def kX7_numbered_15 : XC := (15, .aload_n 0) :: (16, .invokevirtual 90) :: (19, .iload_n 1) :: (20, .ireturn) :: kX7_numbered_21
def kX7_numbered_7 : XC := (7, .aload_n 0) :: (8, .getfield 63) :: (11, .iconst 1) :: (12, .if_icmp .eq 9) :: kX7_numbered_15
def kX7_numbered_0 : XC := (0, .aload_n 0) :: (1, .getfield 86) :: (4, .ifCond .ne 11) :: kX7_numbered_7
def kX7_takes_33 : XC := (33, .aload_n 0) :: (34, .getfield 77) :: (37, .istore_n 3) :: (38, .aload_n 0) :: (39, .invokevirtual 101) :: (42, .iload_n 3) :: (43, .ireturn) :: []
def kX7_takes_27 : XC := (27, .aload_n 0) :: (28, .invokevirtual 90) :: (31, .iconst 0) :: (32, .ireturn) :: kX7_takes_33
def kX7_takes_15 : XC := (15, .aload_n 0) :: (16, .getfield 77) :: (19, .iload_n 1) :: (20, .iload_n 2) :: (21, .invokestatic 93) :: (24, .ifCond .ne 9) :: kX7_takes_27
def kX7_takes_7 : XC := (7, .aload_n 0) :: (8, .getfield 63) :: (11, .iconst 3) :: (12, .if_icmp .ne 15) :: kX7_takes_15
def kX7_takes_0 : XC := (0, .aload_n 0) :: (1, .getfield 86) :: (4, .ifCond .ne 23) :: kX7_takes_7
def kX7_endsLine_26 : XC := (26, .return_) :: []
def kX7_endsLine_22 : XC := (22, .aload_n 0) :: (23, .invokevirtual 90) :: kX7_endsLine_26
def kX7_endsLine_15 : XC := (15, .aload_n 0) :: (16, .invokevirtual 101) :: (19, .goto 7) :: kX7_endsLine_22
def kX7_endsLine_7 : XC := (7, .aload_n 0) :: (8, .getfield 63) :: (11, .iconst 2) :: (12, .if_icmp .ne 10) :: kX7_endsLine_15
def kX7_endsLine_0 : XC := (0, .aload_n 0) :: (1, .getfield 86) :: (4, .ifCond .ne 18) :: kX7_endsLine_7
def kX7_kindTold_0 : XC := (0, .aload_n 0) :: (1, .bipush 11) :: (3, .bipush 13) :: (5, .invokevirtual 104) :: (8, .bipush 11) :: (10, .isub) :: (11, .ireturn) :: []
def kX7_seasonTold_0 : XC := (0, .aload_n 0) :: (1, .bipush 14) :: (3, .bipush 17) :: (5, .invokevirtual 104) :: (8, .bipush 14) :: (10, .isub) :: (11, .ireturn) :: []
def kX7_ministerTold_24 : XC := (24, .putfield 111) :: (27, .iload_n 1) :: (28, .ireturn) :: []
def kX7_ministerTold_20 : XC := (20, .aload_n 0) :: (21, .getfield 111) :: kX7_ministerTold_24
def kX7_ministerTold_16 : XC := (16, .iload_n 1) :: (17, .goto 7) :: kX7_ministerTold_20
def kX7_ministerTold_0 : XC := (0, .aload_n 0) :: (1, .iconst 0) :: (2, .iconst 5) :: (3, .invokevirtual 108) :: (6, .istore_n 1) :: (7, .aload_n 0) :: (8, .iload_n 1) :: (9, .aload_n 0) :: (10, .getfield 111) :: (13, .if_icmp .le 7) :: kX7_ministerTold_16
def kX7_ministerLine_67 : XC := (67, .bipush 10) :: (69, .bipush 18) :: (71, .aload_n 0) :: (72, .getfield 17) :: (75, .iconst 0) :: (76, .iaload) :: (77, .imul) :: (78, .iadd) :: (79, .istore 7) :: (81, .aload_n 0) :: (82, .getfield 17) :: (85, .iload 7) :: (87, .iconst 0) :: (88, .iadd) :: (89, .iload_n 3) :: (90, .iastore) :: (91, .aload_n 0) :: (92, .getfield 17) :: (95, .iload 7) :: (97, .iconst 1) :: (98, .iadd) :: (99, .iload 4) :: (101, .iastore) :: (102, .aload_n 0) :: (103, .getfield 17) :: (106, .iload 7) :: (108, .iconst 2) :: (109, .iadd) :: (110, .iload 5) :: (112, .iastore) :: (113, .aload_n 0) :: (114, .getfield 17) :: (117, .iload 7) :: (119, .iconst 3) :: (120, .iadd) :: (121, .iload 6) :: (123, .iastore) :: (124, .aload_n 0) :: (125, .getfield 17) :: (128, .iconst 0) :: (129, .dup2) :: (130, .iaload) :: (131, .iconst 1) :: (132, .iadd) :: (133, .iastore) :: (134, .return_) :: []
def kX7_ministerLine_66 : XC := (66, .return_) :: kX7_ministerLine_67
def kX7_ministerLine_27 : XC := (27, .aload_n 0) :: (28, .iconst 1) :: (29, .bipush 9) :: (31, .invokevirtual 108) :: (34, .istore_n 3) :: (35, .aload_n 0) :: (36, .iconst 0) :: (37, .bipush 27) :: (39, .invokevirtual 108) :: (42, .istore 4) :: (44, .aload_n 0) :: (45, .iconst 0) :: (46, .bipush 9) :: (48, .invokevirtual 108) :: (51, .istore 5) :: (53, .aload_n 0) :: (54, .iconst 0) :: (55, .bipush 9) :: (57, .invokevirtual 108) :: (60, .istore 6) :: (62, .iload_n 2) :: (63, .ifCond .ne 4) :: kX7_ministerLine_66
def kX7_ministerLine_21 : XC := (21, .aload_n 0) :: (22, .iconst 3) :: (23, .iload_n 1) :: (24, .invokevirtual 97) :: kX7_ministerLine_27
def kX7_ministerLine_16 : XC := (16, .istore_n 2) :: (17, .iload_n 2) :: (18, .ifCond .ne 9) :: kX7_ministerLine_21
def kX7_ministerLine_15 : XC := (15, .iconst 0) :: kX7_ministerLine_16
def kX7_ministerLine_11 : XC := (11, .iconst 1) :: (12, .goto 4) :: kX7_ministerLine_15
def kX7_ministerLine_0 : XC := (0, .aload_n 0) :: (1, .getfield 17) :: (4, .iconst 0) :: (5, .iaload) :: (6, .bipush 6) :: (8, .if_icmp .ge 7) :: kX7_ministerLine_11
def kX7_wantLine_62 : XC := (62, .return_) :: []
def kX7_wantLine_56 : XC := (56, .iinc 3 1) :: (59, .goto (-47)) :: kX7_wantLine_62
def kX7_wantLine_33 : XC := (33, .aload_n 0) :: (34, .getfield 17) :: (37, .bipush 10) :: (39, .bipush 18) :: (41, .iload_n 1) :: (42, .imul) :: (43, .iadd) :: (44, .bipush 6) :: (46, .iadd) :: (47, .iconst 3) :: (48, .iload_n 2) :: (49, .imul) :: (50, .iadd) :: (51, .iload_n 3) :: (52, .iadd) :: (53, .iload 4) :: (55, .iastore) :: kX7_wantLine_56
def kX7_wantLine_17 : XC := (17, .aload_n 0) :: (18, .iconst 0) :: (19, .bipush 9) :: (21, .invokevirtual 108) :: (24, .istore 4) :: (26, .aload_n 0) :: (27, .getfield 86) :: (30, .ifCond .ne 26) :: kX7_wantLine_33
def kX7_wantLine_12 : XC := (12, .iload_n 3) :: (13, .iconst 3) :: (14, .if_icmp .ge 48) :: kX7_wantLine_17
def kX7_wantLine_0 : XC := (0, .aload_n 0) :: (1, .invokevirtual 114) :: (4, .istore_n 1) :: (5, .aload_n 0) :: (6, .invokevirtual 118) :: (9, .istore_n 2) :: (10, .iconst 0) :: (11, .istore_n 3) :: kX7_wantLine_12
def kX7_feudLine_37 : XC := (37, .aload_n 0) :: (38, .invokevirtual 114) :: (41, .istore_n 2) :: (42, .aload_n 0) :: (43, .getfield 17) :: (46, .bipush 10) :: (48, .bipush 18) :: (50, .iload_n 1) :: (51, .imul) :: (52, .iadd) :: (53, .iconst 5) :: (54, .iadd) :: (55, .dup2) :: (56, .iaload) :: (57, .iconst 1) :: (58, .iload_n 2) :: (59, .ishl) :: (60, .ior) :: (61, .iastore) :: (62, .aload_n 0) :: (63, .getfield 17) :: (66, .bipush 10) :: (68, .bipush 18) :: (70, .iload_n 2) :: (71, .imul) :: (72, .iadd) :: (73, .iconst 5) :: (74, .iadd) :: (75, .dup2) :: (76, .iaload) :: (77, .iconst 1) :: (78, .iload_n 1) :: (79, .ishl) :: (80, .ior) :: (81, .iastore) :: (82, .return_) :: []
def kX7_feudLine_28 : XC := (28, .aload_n 0) :: (29, .iconst 2) :: (30, .aload_n 0) :: (31, .getfield 60) :: (34, .invokevirtual 97) :: kX7_feudLine_37
def kX7_feudLine_20 : XC := (20, .aload_n 0) :: (21, .getfield 83) :: (24, .iload_n 1) :: (25, .if_icmp .ne 12) :: kX7_feudLine_28
def kX7_feudLine_12 : XC := (12, .aload_n 0) :: (13, .getfield 63) :: (16, .iconst 1) :: (17, .if_icmp .ne 20) :: kX7_feudLine_20
def kX7_feudLine_0 : XC := (0, .aload_n 0) :: (1, .invokevirtual 114) :: (4, .istore_n 1) :: (5, .aload_n 0) :: (6, .getfield 86) :: (9, .ifCond .ne 28) :: kX7_feudLine_12
def kX7_republicLine_223 : XC := (223, .aload_n 0) :: (224, .invokevirtual 134) :: (227, .return_) :: []
def kX7_republicLine_207 : XC := (207, .aload_n 0) :: (208, .getfield 17) :: (211, .iconst 5) :: (212, .aload_n 0) :: (213, .iconst 0) :: (214, .bipush 99) :: (216, .invokevirtual 108) :: (219, .iastore) :: (220, .goto 3) :: kX7_republicLine_223
def kX7_republicLine_191 : XC := (191, .aload_n 0) :: (192, .getfield 17) :: (195, .iconst 4) :: (196, .aload_n 0) :: (197, .iconst 0) :: (198, .bipush 99) :: (200, .invokevirtual 108) :: (203, .iastore) :: (204, .goto 19) :: kX7_republicLine_207
def kX7_republicLine_175 : XC := (175, .aload_n 0) :: (176, .getfield 17) :: (179, .iconst 3) :: (180, .aload_n 0) :: (181, .iconst 0) :: (182, .bipush 99) :: (184, .invokevirtual 108) :: (187, .iastore) :: (188, .goto 35) :: kX7_republicLine_191
def kX7_republicLine_159 : XC := (159, .aload_n 0) :: (160, .getfield 17) :: (163, .iconst 2) :: (164, .aload_n 0) :: (165, .iconst 0) :: (166, .bipush 9) :: (168, .invokevirtual 108) :: (171, .iastore) :: (172, .goto 51) :: kX7_republicLine_175
def kX7_republicLine_143 : XC := (143, .aload_n 0) :: (144, .getfield 17) :: (147, .iconst 1) :: (148, .aload_n 0) :: (149, .iconst 1) :: (150, .bipush 60) :: (152, .invokevirtual 108) :: (155, .iastore) :: (156, .goto 67) :: kX7_republicLine_159
def kX7_republicLine_129 : XC := (129, .aload_n 0) :: (130, .getfield 17) :: (133, .bipush 6) :: (135, .iload_n 3) :: (136, .iadd) :: (137, .iload 4) :: (139, .iastore) :: (140, .goto 83) :: kX7_republicLine_143
def kX7_republicLine_111 : XC := (111, .aload_n 0) :: (112, .invokevirtual 131) :: (115, .istore_n 3) :: (116, .aload_n 0) :: (117, .invokevirtual 114) :: (120, .istore 4) :: (122, .aload_n 0) :: (123, .getfield 86) :: (126, .ifCond .ne 97) :: kX7_republicLine_129
def kX7_republicLine_104 : XC := (104, .aload_n 0) :: (105, .invokevirtual 128) :: (108, .goto 115) :: kX7_republicLine_111
def kX7_republicLine_83 : XC := (83, .aload_n 0) :: (84, .getfield 17) :: (87, .bipush 10) :: (89, .bipush 18) :: (91, .aload_n 0) :: (92, .invokevirtual 114) :: (95, .imul) :: (96, .iadd) :: (97, .iconst 4) :: (98, .iadd) :: (99, .iconst 1) :: (100, .iastore) :: (101, .goto 122) :: kX7_republicLine_104
def kX7_republicLine_76 : XC := (76, .aload_n 0) :: (77, .invokevirtual 125) :: (80, .goto 143) :: kX7_republicLine_83
def kX7_republicLine_68 : XC := (68, .aload_n 0) :: (69, .iload_n 1) :: (70, .invokevirtual 121) :: (73, .goto 150) :: kX7_republicLine_76
def kX7_republicLine_14 : XC := (14, .tableswitch 209 1 10 #[54, 62, 69, 90, 97, 129, 145, 161, 177, 193]) :: kX7_republicLine_68
def kX7_republicLine_0 : XC := (0, .aload_n 0) :: (1, .getfield 60) :: (4, .istore_n 1) :: (5, .aload_n 0) :: (6, .iconst 1) :: (7, .bipush 10) :: (9, .invokevirtual 104) :: (12, .istore_n 2) :: (13, .iload_n 2) :: kX7_republicLine_14
def kX7_adds_11 : XC := (11, .iconst 1) :: (12, .iconst 5) :: (13, .aload_n 0) :: (14, .getfield 17) :: (17, .iconst 0) :: (18, .iaload) :: (19, .imul) :: (20, .iadd) :: (21, .istore 7) :: (23, .aload_n 0) :: (24, .getfield 17) :: (27, .iload 7) :: (29, .iload_n 2) :: (30, .iastore) :: (31, .aload_n 0) :: (32, .getfield 17) :: (35, .iload 7) :: (37, .iconst 1) :: (38, .iadd) :: (39, .iload_n 3) :: (40, .iastore) :: (41, .aload_n 0) :: (42, .getfield 17) :: (45, .iload 7) :: (47, .iconst 2) :: (48, .iadd) :: (49, .iload 4) :: (51, .iastore) :: (52, .aload_n 0) :: (53, .getfield 17) :: (56, .iload 7) :: (58, .iconst 3) :: (59, .iadd) :: (60, .iload 5) :: (62, .iastore) :: (63, .aload_n 0) :: (64, .getfield 17) :: (67, .iload 7) :: (69, .iconst 4) :: (70, .iadd) :: (71, .iload 6) :: (73, .iastore) :: (74, .aload_n 0) :: (75, .getfield 17) :: (78, .iconst 0) :: (79, .dup2) :: (80, .iaload) :: (81, .iconst 1) :: (82, .iadd) :: (83, .iastore) :: (84, .return_) :: []
def kX7_adds_10 : XC := (10, .return_) :: kX7_adds_11
def kX7_adds_0 : XC := (0, .aload_n 0) :: (1, .getfield 17) :: (4, .iconst 0) :: (5, .iaload) :: (6, .iload_n 1) :: (7, .if_icmp .lt 4) :: kX7_adds_10
def kX7_noLine_62 : XC := (62, .aload_n 0) :: (63, .bipush 8) :: (65, .iload_n 2) :: (66, .iload_n 1) :: (67, .iload_n 3) :: (68, .iload 4) :: (70, .iconst (-1)) :: (71, .invokevirtual 137) :: (74, .return_) :: []
def kX7_noLine_52 : XC := (52, .aload_n 0) :: (53, .invokevirtual 101) :: (56, .aload_n 0) :: (57, .invokevirtual 118) :: (60, .istore 4) :: kX7_noLine_62
def kX7_noLine_43 : XC := (43, .aload_n 0) :: (44, .getfield 77) :: (47, .bipush 21) :: (49, .if_icmp .ne 13) :: kX7_noLine_52
def kX7_noLine_35 : XC := (35, .aload_n 0) :: (36, .getfield 63) :: (39, .iconst 3) :: (40, .if_icmp .ne 22) :: kX7_noLine_43
def kX7_noLine_0 : XC := (0, .aload_n 0) :: (1, .invokevirtual 131) :: (4, .istore_n 1) :: (5, .aload_n 0) :: (6, .bipush 19) :: (8, .bipush 20) :: (10, .invokevirtual 104) :: (13, .bipush 19) :: (15, .isub) :: (16, .istore_n 2) :: (17, .aload_n 0) :: (18, .iconst 0) :: (19, .bipush 9) :: (21, .invokevirtual 108) :: (24, .istore_n 3) :: (25, .iconst (-1)) :: (26, .istore 4) :: (28, .aload_n 0) :: (29, .getfield 86) :: (32, .ifCond .ne 30) :: kX7_noLine_35
def kX7_orderLine_140 : XC := (140, .aload_n 0) :: (141, .invokevirtual 134) :: (144, .return_) :: []
def kX7_orderLine_97 : XC := (97, .aload_n 0) :: (98, .invokevirtual 131) :: (101, .istore_n 3) :: (102, .aload_n 0) :: (103, .iconst 0) :: (104, .bipush 9) :: (106, .invokevirtual 108) :: (109, .istore 4) :: (111, .aload_n 0) :: (112, .invokevirtual 131) :: (115, .istore 5) :: (117, .aload_n 0) :: (118, .iconst 0) :: (119, .bipush 9) :: (121, .invokevirtual 108) :: (124, .istore 6) :: (126, .aload_n 0) :: (127, .bipush 8) :: (129, .iconst 3) :: (130, .iload_n 3) :: (131, .iload 4) :: (133, .iload 5) :: (135, .iload 6) :: (137, .invokevirtual 137) :: kX7_orderLine_140
def kX7_orderLine_91 : XC := (91, .iload_n 2) :: (92, .bipush 23) :: (94, .if_icmp .ne 46) :: kX7_orderLine_97
def kX7_orderLine_74 : XC := (74, .aload_n 0) :: (75, .bipush 8) :: (77, .iconst 2) :: (78, .aload_n 0) :: (79, .iconst 0) :: (80, .bipush 27) :: (82, .invokevirtual 108) :: (85, .iconst (-1)) :: (86, .iconst (-1)) :: (87, .iconst (-1)) :: (88, .invokevirtual 137) :: kX7_orderLine_91
def kX7_orderLine_68 : XC := (68, .iload_n 2) :: (69, .bipush 22) :: (71, .if_icmp .ne 20) :: kX7_orderLine_74
def kX7_orderLine_64 : XC := (64, .aload_n 0) :: (65, .invokevirtual 141) :: kX7_orderLine_68
def kX7_orderLine_58 : XC := (58, .iload_n 2) :: (59, .bipush 18) :: (61, .if_icmp .ne 7) :: kX7_orderLine_64
def kX7_orderLine_52 : XC := (52, .aload_n 0) :: (53, .iconst 3) :: (54, .iload_n 1) :: (55, .invokevirtual 97) :: kX7_orderLine_58
def kX7_orderLine_41 : XC := (41, .aload_n 0) :: (42, .getfield 17) :: (45, .iconst 0) :: (46, .iaload) :: (47, .bipush 8) :: (49, .if_icmp .lt 9) :: kX7_orderLine_52
def kX7_orderLine_33 : XC := (33, .istore_n 2) :: (34, .aload_n 0) :: (35, .getfield 86) :: (38, .ifCond .ne 20) :: kX7_orderLine_41
def kX7_orderLine_25 : XC := (25, .aload_n 0) :: (26, .bipush 22) :: (28, .bipush 23) :: (30, .invokevirtual 104) :: kX7_orderLine_33
def kX7_orderLine_14 : XC := (14, .aload_n 0) :: (15, .bipush 18) :: (17, .bipush 18) :: (19, .invokevirtual 104) :: (22, .goto 11) :: kX7_orderLine_25
def kX7_orderLine_0 : XC := (0, .aload_n 0) :: (1, .getfield 60) :: (4, .istore_n 1) :: (5, .aload_n 0) :: (6, .getfield 77) :: (9, .bipush 18) :: (11, .if_icmp .ne 14) :: kX7_orderLine_14
def kX7_yearLine_201 : XC := (201, .aload_n 0) :: (202, .invokevirtual 134) :: (205, .return_) :: []
def kX7_yearLine_190 : XC := (190, .aload_n 0) :: (191, .bipush 40) :: (193, .iconst 5) :: (194, .iconst (-1)) :: (195, .iconst (-1)) :: (196, .iconst (-1)) :: (197, .iconst (-1)) :: (198, .invokevirtual 137) :: kX7_yearLine_201
def kX7_yearLine_184 : XC := (184, .iload_n 2) :: (185, .bipush 28) :: (187, .if_icmp .ne 14) :: kX7_yearLine_190
def kX7_yearLine_163 : XC := (163, .aload_n 0) :: (164, .bipush 40) :: (166, .iconst 3) :: (167, .iload_n 2) :: (168, .iadd) :: (169, .bipush 26) :: (171, .isub) :: (172, .aload_n 0) :: (173, .iconst 0) :: (174, .iconst 5) :: (175, .invokevirtual 108) :: (178, .iconst (-1)) :: (179, .iconst (-1)) :: (180, .iconst (-1)) :: (181, .invokevirtual 137) :: kX7_yearLine_184
def kX7_yearLine_157 : XC := (157, .iload_n 2) :: (158, .bipush 27) :: (160, .if_icmp .ne 24) :: kX7_yearLine_163
def kX7_yearLine_151 : XC := (151, .iload_n 2) :: (152, .bipush 26) :: (154, .if_icmp .eq 9) :: kX7_yearLine_157
def kX7_yearLine_130 : XC := (130, .aload_n 0) :: (131, .invokevirtual 131) :: (134, .istore_n 3) :: (135, .aload_n 0) :: (136, .bipush 40) :: (138, .iconst 2) :: (139, .iload_n 3) :: (140, .aload_n 0) :: (141, .iconst 0) :: (142, .iconst 5) :: (143, .invokevirtual 108) :: (146, .iconst (-1)) :: (147, .iconst (-1)) :: (148, .invokevirtual 137) :: kX7_yearLine_151
def kX7_yearLine_125 : XC := (125, .iload_n 2) :: (126, .iconst 5) :: (127, .if_icmp .ne 24) :: kX7_yearLine_130
def kX7_yearLine_111 : XC := (111, .aload_n 0) :: (112, .bipush 40) :: (114, .iconst 1) :: (115, .aload_n 0) :: (116, .invokevirtual 118) :: (119, .iconst (-1)) :: (120, .iconst (-1)) :: (121, .iconst (-1)) :: (122, .invokevirtual 137) :: kX7_yearLine_125
def kX7_yearLine_105 : XC := (105, .iload_n 2) :: (106, .bipush 25) :: (108, .if_icmp .ne 17) :: kX7_yearLine_111
def kX7_yearLine_61 : XC := (61, .aload_n 0) :: (62, .iconst 0) :: (63, .iconst 5) :: (64, .invokevirtual 108) :: (67, .istore_n 3) :: (68, .aload_n 0) :: (69, .iconst 0) :: (70, .bipush 9) :: (72, .invokevirtual 108) :: (75, .istore 4) :: (77, .aload_n 0) :: (78, .iconst 0) :: (79, .bipush 9) :: (81, .invokevirtual 108) :: (84, .istore 5) :: (86, .aload_n 0) :: (87, .bipush 40) :: (89, .iconst 0) :: (90, .iload_n 3) :: (91, .iload 4) :: (93, .iload 5) :: (95, .aload_n 0) :: (96, .iconst 0) :: (97, .bipush 9) :: (99, .invokevirtual 108) :: (102, .invokevirtual 137) :: kX7_yearLine_105
def kX7_yearLine_55 : XC := (55, .iload_n 2) :: (56, .bipush 24) :: (58, .if_icmp .ne 47) :: kX7_yearLine_61
def kX7_yearLine_49 : XC := (49, .aload_n 0) :: (50, .iconst 3) :: (51, .iload_n 1) :: (52, .invokevirtual 97) :: kX7_yearLine_55
def kX7_yearLine_38 : XC := (38, .aload_n 0) :: (39, .getfield 17) :: (42, .iconst 0) :: (43, .iaload) :: (44, .bipush 40) :: (46, .if_icmp .lt 9) :: kX7_yearLine_49
def kX7_yearLine_30 : XC := (30, .istore_n 2) :: (31, .aload_n 0) :: (32, .getfield 86) :: (35, .ifCond .ne 20) :: kX7_yearLine_38
def kX7_yearLine_22 : XC := (22, .aload_n 0) :: (23, .bipush 24) :: (25, .bipush 28) :: (27, .invokevirtual 104) :: kX7_yearLine_30
def kX7_yearLine_13 : XC := (13, .aload_n 0) :: (14, .iconst 5) :: (15, .iconst 5) :: (16, .invokevirtual 104) :: (19, .goto 11) :: kX7_yearLine_22
def kX7_yearLine_0 : XC := (0, .aload_n 0) :: (1, .getfield 60) :: (4, .istore_n 1) :: (5, .aload_n 0) :: (6, .getfield 77) :: (9, .iconst 5) :: (10, .if_icmp .ne 12) :: kX7_yearLine_13
def kX7_leakLine_137 : XC := (137, .aload_n 0) :: (138, .invokevirtual 134) :: (141, .return_) :: []
def kX7_leakLine_126 : XC := (126, .iastore) :: (127, .aload_n 0) :: (128, .getfield 17) :: (131, .iconst 0) :: (132, .dup2) :: (133, .iaload) :: (134, .iconst 1) :: (135, .iadd) :: (136, .iastore) :: kX7_leakLine_137
def kX7_leakLine_125 : XC := (125, .iconst 0) :: kX7_leakLine_126
def kX7_leakLine_121 : XC := (121, .iconst 1) :: (122, .goto 4) :: kX7_leakLine_125
def kX7_leakLine_85 : XC := (85, .aload_n 0) :: (86, .getfield 17) :: (89, .iconst 1) :: (90, .iconst 2) :: (91, .aload_n 0) :: (92, .getfield 17) :: (95, .iconst 0) :: (96, .iaload) :: (97, .imul) :: (98, .iadd) :: (99, .iload_n 2) :: (100, .iastore) :: (101, .aload_n 0) :: (102, .getfield 17) :: (105, .iconst 2) :: (106, .iconst 2) :: (107, .aload_n 0) :: (108, .getfield 17) :: (111, .iconst 0) :: (112, .iaload) :: (113, .imul) :: (114, .iadd) :: (115, .iload_n 3) :: (116, .bipush 30) :: (118, .if_icmp .ne 7) :: kX7_leakLine_121
def kX7_leakLine_73 : XC := (73, .istore_n 3) :: (74, .aload_n 0) :: (75, .getfield 17) :: (78, .iconst 0) :: (79, .iaload) :: (80, .bipush 8) :: (82, .if_icmp .ge 55) :: kX7_leakLine_85
def kX7_leakLine_65 : XC := (65, .aload_n 0) :: (66, .bipush 18) :: (68, .bipush 18) :: (70, .invokevirtual 104) :: kX7_leakLine_73
def kX7_leakLine_54 : XC := (54, .aload_n 0) :: (55, .bipush 30) :: (57, .bipush 30) :: (59, .invokevirtual 104) :: (62, .goto 11) :: kX7_leakLine_65
def kX7_leakLine_38 : XC := (38, .aload_n 0) :: (39, .iconst 0) :: (40, .iconst 5) :: (41, .invokevirtual 108) :: (44, .istore_n 2) :: (45, .aload_n 0) :: (46, .getfield 77) :: (49, .bipush 30) :: (51, .if_icmp .ne 14) :: kX7_leakLine_54
def kX7_leakLine_32 : XC := (32, .aload_n 0) :: (33, .iconst 3) :: (34, .iload_n 1) :: (35, .invokevirtual 97) :: kX7_leakLine_38
def kX7_leakLine_21 : XC := (21, .aload_n 0) :: (22, .getfield 17) :: (25, .iconst 0) :: (26, .iaload) :: (27, .bipush 8) :: (29, .if_icmp .lt 9) :: kX7_leakLine_32
def kX7_leakLine_0 : XC := (0, .aload_n 0) :: (1, .getfield 60) :: (4, .istore_n 1) :: (5, .aload_n 0) :: (6, .bipush 29) :: (8, .bipush 29) :: (10, .invokevirtual 104) :: (13, .pop) :: (14, .aload_n 0) :: (15, .getfield 86) :: (18, .ifCond .ne 20) :: kX7_leakLine_21
def kX7_summerLine_142 : XC := (142, .aload_n 0) :: (143, .invokevirtual 134) :: (146, .return_) :: []
def kX7_summerLine_80 : XC := (80, .iconst 1) :: (81, .iconst 4) :: (82, .aload_n 0) :: (83, .getfield 17) :: (86, .iconst 0) :: (87, .iaload) :: (88, .imul) :: (89, .iadd) :: (90, .istore 6) :: (92, .aload_n 0) :: (93, .getfield 17) :: (96, .iload 6) :: (98, .iload_n 2) :: (99, .iastore) :: (100, .aload_n 0) :: (101, .getfield 17) :: (104, .iload 6) :: (106, .iconst 1) :: (107, .iadd) :: (108, .iload_n 3) :: (109, .iastore) :: (110, .aload_n 0) :: (111, .getfield 17) :: (114, .iload 6) :: (116, .iconst 2) :: (117, .iadd) :: (118, .iload 4) :: (120, .iastore) :: (121, .aload_n 0) :: (122, .getfield 17) :: (125, .iload 6) :: (127, .iconst 3) :: (128, .iadd) :: (129, .iload 5) :: (131, .iastore) :: (132, .aload_n 0) :: (133, .getfield 17) :: (136, .iconst 0) :: (137, .dup2) :: (138, .iaload) :: (139, .iconst 1) :: (140, .iadd) :: (141, .iastore) :: kX7_summerLine_142
def kX7_summerLine_38 : XC := (38, .aload_n 0) :: (39, .invokevirtual 118) :: (42, .istore_n 2) :: (43, .aload_n 0) :: (44, .iconst 0) :: (45, .bipush 9) :: (47, .invokevirtual 108) :: (50, .istore_n 3) :: (51, .aload_n 0) :: (52, .iconst 0) :: (53, .bipush 9) :: (55, .invokevirtual 108) :: (58, .istore 4) :: (60, .aload_n 0) :: (61, .iconst 0) :: (62, .bipush 9) :: (64, .invokevirtual 108) :: (67, .istore 5) :: (69, .aload_n 0) :: (70, .getfield 17) :: (73, .iconst 0) :: (74, .iaload) :: (75, .bipush 8) :: (77, .if_icmp .ge 65) :: kX7_summerLine_80
def kX7_summerLine_32 : XC := (32, .aload_n 0) :: (33, .iconst 3) :: (34, .iload_n 1) :: (35, .invokevirtual 97) :: kX7_summerLine_38
def kX7_summerLine_21 : XC := (21, .aload_n 0) :: (22, .getfield 17) :: (25, .iconst 0) :: (26, .iaload) :: (27, .bipush 8) :: (29, .if_icmp .lt 9) :: kX7_summerLine_32
def kX7_summerLine_0 : XC := (0, .aload_n 0) :: (1, .getfield 60) :: (4, .istore_n 1) :: (5, .aload_n 0) :: (6, .bipush 31) :: (8, .bipush 31) :: (10, .invokevirtual 104) :: (13, .pop) :: (14, .aload_n 0) :: (15, .getfield 86) :: (18, .ifCond .ne 20) :: kX7_summerLine_21
def kX7_bargainLine_38 : XC := (38, .aload_n 0) :: (39, .invokevirtual 134) :: (42, .return_) :: []
def kX7_bargainLine_31 : XC := (31, .aload_n 0) :: (32, .getfield 17) :: (35, .iload_n 1) :: (36, .iload_n 2) :: (37, .iastore) :: kX7_bargainLine_38
def kX7_bargainLine_0 : XC := (0, .aload_n 0) :: (1, .bipush 32) :: (3, .bipush 32) :: (5, .invokevirtual 104) :: (8, .pop) :: (9, .aload_n 0) :: (10, .iconst 0) :: (11, .iconst 5) :: (12, .invokevirtual 108) :: (15, .istore_n 1) :: (16, .aload_n 0) :: (17, .iconst 0) :: (18, .bipush 99) :: (20, .invokevirtual 108) :: (23, .istore_n 2) :: (24, .aload_n 0) :: (25, .getfield 86) :: (28, .ifCond .ne 10) :: kX7_bargainLine_31
def kX7_placeOf_82 : XC := (82, .sipush 1430) :: (85, .bipush 6) :: (87, .iload_n 1) :: (88, .imul) :: (89, .iadd) :: (90, .ireturn) :: []
def kX7_placeOf_73 : XC := (73, .sipush 1364) :: (76, .bipush 33) :: (78, .iload_n 1) :: (79, .imul) :: (80, .iadd) :: (81, .ireturn) :: kX7_placeOf_82
def kX7_placeOf_64 : XC := (64, .sipush 1330) :: (67, .bipush 17) :: (69, .iload_n 1) :: (70, .imul) :: (71, .iadd) :: (72, .ireturn) :: kX7_placeOf_73
def kX7_placeOf_54 : XC := (54, .sipush 928) :: (57, .sipush 201) :: (60, .iload_n 1) :: (61, .imul) :: (62, .iadd) :: (63, .ireturn) :: kX7_placeOf_64
def kX7_placeOf_45 : XC := (45, .sipush 846) :: (48, .bipush 41) :: (50, .iload_n 1) :: (51, .imul) :: (52, .iadd) :: (53, .ireturn) :: kX7_placeOf_54
def kX7_placeOf_36 : XC := (36, .sipush 610) :: (39, .bipush 118) :: (41, .iload_n 1) :: (42, .imul) :: (43, .iadd) :: (44, .ireturn) :: kX7_placeOf_45
def kX7_placeOf_1 : XC := (1, .tableswitch 81 0 4 #[35, 44, 53, 63, 72]) :: kX7_placeOf_36
def kX7_placeOf_0 : XC := (0, .iload_n 0) :: kX7_placeOf_1
def kX7_sizeOf_52 : XC := (52, .bipush 6) :: (54, .ireturn) :: []
def kX7_sizeOf_49 : XC := (49, .bipush 33) :: (51, .ireturn) :: kX7_sizeOf_52
def kX7_sizeOf_46 : XC := (46, .bipush 17) :: (48, .ireturn) :: kX7_sizeOf_49
def kX7_sizeOf_42 : XC := (42, .sipush 201) :: (45, .ireturn) :: kX7_sizeOf_46
def kX7_sizeOf_39 : XC := (39, .bipush 41) :: (41, .ireturn) :: kX7_sizeOf_42
def kX7_sizeOf_36 : XC := (36, .bipush 118) :: (38, .ireturn) :: kX7_sizeOf_39
def kX7_sizeOf_1 : XC := (1, .tableswitch 51 0 4 #[35, 38, 41, 45, 48]) :: kX7_sizeOf_36
def kX7_sizeOf_0 : XC := (0, .iload_n 0) :: kX7_sizeOf_1
def kX7_isOf_0 : XC := (0, .iload_n 2) :: (1, .iconst 0) :: (2, .aload_n 0) :: (3, .getfield 7) :: (6, .iload_n 1) :: (7, .iaload) :: (8, .iconst 1) :: (9, .isub) :: (10, .invokestatic 93) :: (13, .ireturn) :: []
def kX7_clears_27 : XC := (27, .aload_n 0) :: (28, .getfield 17) :: (31, .iconst 1) :: (32, .bipush 10) :: (34, .iastore) :: (35, .aload_n 0) :: (36, .getfield 17) :: (39, .iconst 2) :: (40, .iconst 2) :: (41, .iastore) :: (42, .aload_n 0) :: (43, .getfield 17) :: (46, .iconst 3) :: (47, .bipush 50) :: (49, .iastore) :: (50, .aload_n 0) :: (51, .getfield 17) :: (54, .iconst 4) :: (55, .bipush 50) :: (57, .iastore) :: (58, .aload_n 0) :: (59, .getfield 17) :: (62, .iconst 5) :: (63, .bipush 20) :: (65, .iastore) :: (66, .return_) :: []
def kX7_clears_26 : XC := (26, .return_) :: kX7_clears_27
def kX7_clears_22 : XC := (22, .iload_n 1) :: (23, .ifCond .eq 4) :: kX7_clears_26
def kX7_clears_9 : XC := (9, .aload_n 0) :: (10, .getfield 17) :: (13, .iload_n 2) :: (14, .iconst 0) :: (15, .iastore) :: (16, .iinc 2 1) :: (19, .goto (-17)) :: kX7_clears_22
def kX7_clears_2 : XC := (2, .iload_n 2) :: (3, .sipush 201) :: (6, .if_icmp .ge 16) :: kX7_clears_9
def kX7_clears_0 : XC := (0, .iconst 0) :: (1, .istore_n 2) :: kX7_clears_2
def kX7_text_307 : XC := (307, .iload_n 3) :: (308, .ireturn) :: []
def kX7_text_281 : XC := (281, .aload_n 0) :: (282, .getfield 7) :: (285, .iload_n 1) :: (286, .iload_n 3) :: (287, .invokestatic 172) :: (290, .iload 4) :: (292, .iadd) :: (293, .aload_n 0) :: (294, .getfield 17) :: (297, .iload 4) :: (299, .iaload) :: (300, .iastore) :: (301, .iinc 4 1) :: (304, .goto (-32)) :: kX7_text_307
def kX7_text_272 : XC := (272, .iload 4) :: (274, .iload_n 1) :: (275, .invokestatic 169) :: (278, .if_icmp .ge 29) :: kX7_text_281
def kX7_text_269 : XC := (269, .iconst 0) :: (270, .istore 4) :: kX7_text_272
def kX7_text_259 : XC := (259, .aload_n 0) :: (260, .getfield 7) :: (263, .iload_n 1) :: (264, .dup2) :: (265, .iaload) :: (266, .iconst 1) :: (267, .iadd) :: (268, .iastore) :: kX7_text_269
def kX7_text_253 : XC := (253, .istore_n 3) :: (254, .iload_n 2) :: (255, .iconst (-1)) :: (256, .if_icmp .ne 13) :: kX7_text_259
def kX7_text_252 : XC := (252, .iload_n 2) :: kX7_text_253
def kX7_text_243 : XC := (243, .aload_n 0) :: (244, .getfield 7) :: (247, .iload_n 1) :: (248, .iaload) :: (249, .goto 4) :: kX7_text_252
def kX7_text_238 : XC := (238, .iload_n 2) :: (239, .iconst (-1)) :: (240, .if_icmp .ne 12) :: kX7_text_243
def kX7_text_236 : XC := (236, .iconst (-1)) :: (237, .ireturn) :: kX7_text_238
def kX7_text_226 : XC := (226, .aload_n 0) :: (227, .getfield 7) :: (230, .bipush 7) :: (232, .iaload) :: (233, .ifCond .eq 5) :: kX7_text_236
def kX7_text_217 : XC := (217, .aload_n 0) :: (218, .iconst 4) :: (219, .aload_n 0) :: (220, .getfield 60) :: (223, .invokevirtual 97) :: kX7_text_226
def kX7_text_204 : XC := (204, .aload_n 0) :: (205, .getfield 111) :: (208, .aload_n 0) :: (209, .getfield 17) :: (212, .iconst 0) :: (213, .iaload) :: (214, .if_icmp .lt 12) :: kX7_text_217
def kX7_text_200 : XC := (200, .iload_n 1) :: (201, .ifCond .ne 25) :: kX7_text_204
def kX7_text_190 : XC := (190, .aload_n 0) :: (191, .getfield 7) :: (194, .bipush 7) :: (196, .iaload) :: (197, .ifCond .ne 29) :: kX7_text_200
def kX7_text_183 : XC := (183, .aload_n 0) :: (184, .invokevirtual 166) :: (187, .goto (-89)) :: kX7_text_190
def kX7_text_176 : XC := (176, .aload_n 0) :: (177, .invokevirtual 163) :: (180, .goto (-82)) :: kX7_text_183
def kX7_text_169 : XC := (169, .aload_n 0) :: (170, .invokevirtual 160) :: (173, .goto (-75)) :: kX7_text_176
def kX7_text_162 : XC := (162, .aload_n 0) :: (163, .invokevirtual 157) :: (166, .goto (-68)) :: kX7_text_169
def kX7_text_155 : XC := (155, .aload_n 0) :: (156, .invokevirtual 154) :: (159, .goto (-61)) :: kX7_text_162
def kX7_text_148 : XC := (148, .aload_n 0) :: (149, .invokevirtual 151) :: (152, .goto (-54)) :: kX7_text_155
def kX7_text_113 : XC := (113, .tableswitch 70 0 4 #[35, 42, 49, 56, 63]) :: kX7_text_148
def kX7_text_112 : XC := (112, .iload_n 1) :: kX7_text_113
def kX7_text_105 : XC := (105, .aload_n 0) :: (106, .getfield 63) :: (109, .ifCond .eq 81) :: kX7_text_112
def kX7_text_98 : XC := (98, .aload_n 0) :: (99, .getfield 86) :: (102, .ifCond .ne 88) :: kX7_text_105
def kX7_text_74 : XC := (74, .aload_n 0) :: (75, .iconst 0) :: (76, .putfield 53) :: (79, .aload_n 0) :: (80, .iconst 0) :: (81, .putfield 86) :: (84, .aload_n 0) :: (85, .iconst (-1)) :: (86, .putfield 111) :: (89, .aload_n 0) :: (90, .iload_n 1) :: (91, .invokevirtual 148) :: (94, .aload_n 0) :: (95, .invokevirtual 101) :: kX7_text_98
def kX7_text_71 : XC := (71, .bipush (-2)) :: (73, .ireturn) :: kX7_text_74
def kX7_text_62 : XC := (62, .aload_n 0) :: (63, .iload_n 1) :: (64, .iload_n 2) :: (65, .invokevirtual 144) :: (68, .ifCond .ne 6) :: kX7_text_71
def kX7_text_59 : XC := (59, .goto 12) :: kX7_text_62
def kX7_text_49 : XC := (49, .aload_n 0) :: (50, .getfield 7) :: (53, .iload_n 1) :: (54, .iaload) :: (55, .iconst 2) :: (56, .if_icmp .lt 18) :: kX7_text_59
def kX7_text_44 : XC := (44, .iload_n 2) :: (45, .iconst (-1)) :: (46, .if_icmp .ne 16) :: kX7_text_49
def kX7_text_0 : XC := (0, .aload_n 0) :: (1, .aload_n 0) :: (2, .getfield 7) :: (5, .bipush 6) :: (7, .iaload) :: (8, .putfield 32) :: (11, .aload_n 0) :: (12, .getfield 7) :: (15, .bipush 6) :: (17, .iconst 0) :: (18, .iastore) :: (19, .aload_n 0) :: (20, .getfield 7) :: (23, .bipush 7) :: (25, .iconst 0) :: (26, .iastore) :: (27, .aload_n 0) :: (28, .getfield 7) :: (31, .bipush 8) :: (33, .iconst (-1)) :: (34, .iastore) :: (35, .iload_n 1) :: (36, .iconst 0) :: (37, .iconst 5) :: (38, .invokestatic 93) :: (41, .ifCond .eq 30) :: kX7_text_44
def kX7_fault_30 : XC := (30, .ireturn) :: []
def kX7_fault_29 : XC := (29, .iconst (-1)) :: kX7_fault_30
def kX7_fault_19 : XC := (19, .aload_n 0) :: (20, .getfield 7) :: (23, .bipush 8) :: (25, .iaload) :: (26, .goto 4) :: kX7_fault_29
def kX7_fault_14 : XC := (14, .iload_n 1) :: (15, .iconst 1) :: (16, .if_icmp .ne 13) :: kX7_fault_19
def kX7_fault_4 : XC := (4, .aload_n 0) :: (5, .getfield 7) :: (8, .bipush 7) :: (10, .iaload) :: (11, .goto 19) :: kX7_fault_14
def kX7_fault_0 : XC := (0, .iload_n 1) :: (1, .ifCond .ne 13) :: kX7_fault_4
def kX7_isRepublic_11 : XC := (11, .aload_n 0) :: (12, .iconst 0) :: (13, .iload_n 1) :: (14, .invokestatic 172) :: (17, .putfield 175) :: (20, .aload_n 0) :: (21, .invokevirtual 178) :: (24, .iconst 1) :: (25, .ireturn) :: []
def kX7_isRepublic_9 : XC := (9, .iconst 0) :: (10, .ireturn) :: kX7_isRepublic_11
def kX7_isRepublic_0 : XC := (0, .aload_n 0) :: (1, .iconst 0) :: (2, .iload_n 1) :: (3, .invokevirtual 144) :: (6, .ifCond .ne 5) :: kX7_isRepublic_9
def kX7_of_0 : XC := (0, .aload_n 0) :: (1, .getfield 7) :: (4, .aload_n 0) :: (5, .getfield 175) :: (8, .iload_n 1) :: (9, .iadd) :: (10, .iaload) :: (11, .ireturn) :: []
def kX7_ministers_0 : XC := (0, .aload_n 0) :: (1, .iconst 0) :: (2, .invokevirtual 181) :: (5, .ireturn) :: []
def kX7_isMinister_0 : XC := (0, .iload_n 1) :: (1, .iconst 0) :: (2, .aload_n 0) :: (3, .invokevirtual 184) :: (6, .iconst 1) :: (7, .isub) :: (8, .invokestatic 93) :: (11, .ireturn) :: []
def kX7_ofMinister_0 : XC := (0, .aload_n 0) :: (1, .bipush 10) :: (3, .bipush 18) :: (5, .iload_n 1) :: (6, .imul) :: (7, .iadd) :: (8, .iload_n 2) :: (9, .iadd) :: (10, .invokevirtual 181) :: (13, .ireturn) :: []
def kX7_wants_0 : XC := (0, .aload_n 0) :: (1, .iload_n 1) :: (2, .bipush 6) :: (4, .iconst 3) :: (5, .iload_n 2) :: (6, .imul) :: (7, .iadd) :: (8, .iload_n 3) :: (9, .iadd) :: (10, .invokevirtual 187) :: (13, .ireturn) :: []
def kX7_republic_53 : XC := (53, .ireturn) :: []
def kX7_republic_52 : XC := (52, .iconst (-1)) :: kX7_republic_53
def kX7_republic_38 : XC := (38, .aload_n 0) :: (39, .bipush 6) :: (41, .iload_n 2) :: (42, .iadd) :: (43, .bipush 10) :: (45, .isub) :: (46, .invokevirtual 181) :: (49, .goto 4) :: kX7_republic_52
def kX7_republic_27 : XC := (27, .iload_n 2) :: (28, .bipush 10) :: (30, .bipush 12) :: (32, .invokestatic 93) :: (35, .ifCond .eq 17) :: kX7_republic_38
def kX7_republic_19 : XC := (19, .aload_n 0) :: (20, .iload_n 2) :: (21, .invokevirtual 181) :: (24, .goto 29) :: kX7_republic_27
def kX7_republic_10 : XC := (10, .iload_n 2) :: (11, .iconst 0) :: (12, .iconst 5) :: (13, .invokestatic 93) :: (16, .ifCond .eq 11) :: kX7_republic_19
def kX7_republic_8 : XC := (8, .iconst (-1)) :: (9, .ireturn) :: kX7_republic_10
def kX7_republic_0 : XC := (0, .aload_n 0) :: (1, .iload_n 1) :: (2, .invokevirtual 190) :: (5, .ifCond .ne 5) :: kX7_republic_8
def kX7_minister_63 : XC := (63, .ireturn) :: []
def kX7_minister_62 : XC := (62, .iconst (-1)) :: kX7_minister_63
def kX7_minister_47 : XC := (47, .aload_n 0) :: (48, .iload_n 2) :: (49, .bipush 6) :: (51, .iload_n 3) :: (52, .iadd) :: (53, .bipush 10) :: (55, .isub) :: (56, .invokevirtual 187) :: (59, .goto 4) :: kX7_minister_62
def kX7_minister_36 : XC := (36, .iload_n 3) :: (37, .bipush 10) :: (39, .bipush 21) :: (41, .invokestatic 93) :: (44, .ifCond .eq 18) :: kX7_minister_47
def kX7_minister_27 : XC := (27, .aload_n 0) :: (28, .iload_n 2) :: (29, .iload_n 3) :: (30, .invokevirtual 187) :: (33, .goto 30) :: kX7_minister_36
def kX7_minister_18 : XC := (18, .iload_n 3) :: (19, .iconst 0) :: (20, .iconst 5) :: (21, .invokestatic 93) :: (24, .ifCond .eq 12) :: kX7_minister_27
def kX7_minister_16 : XC := (16, .iconst (-1)) :: (17, .ireturn) :: kX7_minister_18
def kX7_minister_8 : XC := (8, .aload_n 0) :: (9, .iload_n 2) :: (10, .invokevirtual 193) :: (13, .ifCond .ne 5) :: kX7_minister_16
def kX7_minister_0 : XC := (0, .aload_n 0) :: (1, .iload_n 1) :: (2, .invokevirtual 190) :: (5, .ifCond .eq 11) :: kX7_minister_8
def kX7_amountOf_30 : XC := (30, .ireturn) :: []
def kX7_amountOf_26 : XC := (26, .iload_n 0) :: (27, .bipush 10) :: (29, .irem) :: kX7_amountOf_30
def kX7_amountOf_16 : XC := (16, .iload_n 0) :: (17, .bipush 10) :: (19, .idiv) :: (20, .bipush 10) :: (22, .irem) :: (23, .goto 7) :: kX7_amountOf_26
def kX7_amountOf_11 : XC := (11, .iload_n 1) :: (12, .iconst 1) :: (13, .if_icmp .ne 13) :: kX7_amountOf_16
def kX7_amountOf_4 : XC := (4, .iload_n 0) :: (5, .bipush 100) :: (7, .idiv) :: (8, .goto 22) :: kX7_amountOf_11
def kX7_amountOf_0 : XC := (0, .iload_n 1) :: (1, .ifCond .ne 10) :: kX7_amountOf_4
def kX7_talksOf_0 : XC := (0, .aload_n 0) :: (1, .iload_n 1) :: (2, .bipush 100) :: (4, .idiv) :: (5, .putfield 196) :: (8, .aload_n 0) :: (9, .iload_n 1) :: (10, .bipush 10) :: (12, .idiv) :: (13, .bipush 10) :: (15, .irem) :: (16, .putfield 199) :: (19, .aload_n 0) :: (20, .iload_n 1) :: (21, .bipush 10) :: (23, .irem) :: (24, .putfield 202) :: (27, .return_) :: []
def kX7_size_10 : XC := (10, .ireturn) :: []
def kX7_size_9 : XC := (9, .iload_n 0) :: kX7_size_10
def kX7_size_4 : XC := (4, .iload_n 0) :: (5, .ineg) :: (6, .goto 4) :: kX7_size_9
def kX7_size_0 : XC := (0, .iload_n 0) :: (1, .ifCond .ge 8) :: kX7_size_4
def kX7_offOf_0 : XC := (0, .aload_n 0) :: (1, .getfield 196) :: (4, .aload_n 0) :: (5, .iload_n 1) :: (6, .aload_n 0) :: (7, .getfield 205) :: (10, .iconst 0) :: (11, .invokevirtual 208) :: (14, .isub) :: (15, .invokestatic 212) :: (18, .aload_n 0) :: (19, .getfield 199) :: (22, .aload_n 0) :: (23, .iload_n 1) :: (24, .aload_n 0) :: (25, .getfield 205) :: (28, .iconst 1) :: (29, .invokevirtual 208) :: (32, .isub) :: (33, .invokestatic 212) :: (36, .iadd) :: (37, .aload_n 0) :: (38, .getfield 202) :: (41, .aload_n 0) :: (42, .iload_n 1) :: (43, .aload_n 0) :: (44, .getfield 205) :: (47, .iconst 2) :: (48, .invokevirtual 208) :: (51, .isub) :: (52, .invokestatic 212) :: (55, .iadd) :: (56, .ireturn) :: []
def kX7_yields_32 : XC := (32, .isub) :: (33, .ireturn) :: []
def kX7_yields_31 : XC := (31, .iconst 0) :: kX7_yields_32
def kX7_yields_23 : XC := (23, .aload_n 0) :: (24, .iconst 2) :: (25, .invokevirtual 181) :: (28, .goto 4) :: kX7_yields_31
def kX7_yields_0 : XC := (0, .aload_n 0) :: (1, .iload_n 1) :: (2, .iconst 1) :: (3, .invokevirtual 187) :: (6, .aload_n 0) :: (7, .iload_n 1) :: (8, .iconst 5) :: (9, .invokevirtual 187) :: (12, .aload_n 0) :: (13, .getfield 214) :: (16, .ishr) :: (17, .iconst 1) :: (18, .iand) :: (19, .iconst 1) :: (20, .if_icmp .ne 11) :: kX7_yields_23
def kX7_agrees_26 : XC := (26, .ireturn) :: []
def kX7_agrees_25 : XC := (25, .iconst 0) :: kX7_agrees_26
def kX7_agrees_21 : XC := (21, .iconst 1) :: (22, .goto 4) :: kX7_agrees_25
def kX7_agrees_8 : XC := (8, .aload_n 0) :: (9, .iload_n 1) :: (10, .invokevirtual 217) :: (13, .aload_n 0) :: (14, .iload_n 1) :: (15, .invokevirtual 220) :: (18, .if_icmp .gt 7) :: kX7_agrees_21
def kX7_agrees_0 : XC := (0, .iload_n 1) :: (1, .aload_n 0) :: (2, .getfield 214) :: (5, .if_icmp .eq 16) :: kX7_agrees_8
def kX7_agreeing_36 : XC := (36, .iload_n 1) :: (37, .ireturn) :: []
def kX7_agreeing_28 : XC := (28, .ior) :: (29, .istore_n 1) :: (30, .iinc 2 1) :: (33, .goto (-29)) :: kX7_agreeing_36
def kX7_agreeing_27 : XC := (27, .iconst 0) :: kX7_agreeing_28
def kX7_agreeing_21 : XC := (21, .iconst 1) :: (22, .iload_n 2) :: (23, .ishl) :: (24, .goto 4) :: kX7_agreeing_27
def kX7_agreeing_12 : XC := (12, .iload_n 1) :: (13, .aload_n 0) :: (14, .iload_n 2) :: (15, .invokevirtual 223) :: (18, .ifCond .eq 9) :: kX7_agreeing_21
def kX7_agreeing_4 : XC := (4, .iload_n 2) :: (5, .aload_n 0) :: (6, .invokevirtual 184) :: (9, .if_icmp .ge 27) :: kX7_agreeing_12
def kX7_agreeing_0 : XC := (0, .iconst 0) :: (1, .istore_n 1) :: (2, .iconst 0) :: (3, .istore_n 2) :: kX7_agreeing_4
def kX7_votesOf_40 : XC := (40, .iload_n 2) :: (41, .ireturn) :: []
def kX7_votesOf_32 : XC := (32, .iadd) :: (33, .istore_n 2) :: (34, .iinc 3 1) :: (37, .goto (-33)) :: kX7_votesOf_40
def kX7_votesOf_31 : XC := (31, .iconst 0) :: kX7_votesOf_32
def kX7_votesOf_22 : XC := (22, .aload_n 0) :: (23, .iload_n 3) :: (24, .iconst 0) :: (25, .invokevirtual 187) :: (28, .goto 4) :: kX7_votesOf_31
def kX7_votesOf_12 : XC := (12, .iload_n 2) :: (13, .iload_n 1) :: (14, .iload_n 3) :: (15, .ishr) :: (16, .iconst 1) :: (17, .iand) :: (18, .iconst 1) :: (19, .if_icmp .ne 12) :: kX7_votesOf_22
def kX7_votesOf_4 : XC := (4, .iload_n 3) :: (5, .aload_n 0) :: (6, .invokevirtual 184) :: (9, .if_icmp .ge 31) :: kX7_votesOf_12
def kX7_votesOf_0 : XC := (0, .iconst 0) :: (1, .istore_n 2) :: (2, .iconst 0) :: (3, .istore_n 3) :: kX7_votesOf_4
def kX7_vetoes_38 : XC := (38, .iload_n 1) :: (39, .ireturn) :: []
def kX7_vetoes_30 : XC := (30, .ior) :: (31, .istore_n 1) :: (32, .iinc 2 1) :: (35, .goto (-31)) :: kX7_vetoes_38
def kX7_vetoes_29 : XC := (29, .iconst 0) :: kX7_vetoes_30
def kX7_vetoes_23 : XC := (23, .iconst 1) :: (24, .iload_n 2) :: (25, .ishl) :: (26, .goto 4) :: kX7_vetoes_29
def kX7_vetoes_12 : XC := (12, .iload_n 1) :: (13, .aload_n 0) :: (14, .iload_n 2) :: (15, .iconst 4) :: (16, .invokevirtual 187) :: (19, .iconst 1) :: (20, .if_icmp .ne 9) :: kX7_vetoes_23
def kX7_vetoes_4 : XC := (4, .iload_n 2) :: (5, .aload_n 0) :: (6, .invokevirtual 184) :: (9, .if_icmp .ge 29) :: kX7_vetoes_12
def kX7_vetoes_0 : XC := (0, .iconst 0) :: (1, .istore_n 1) :: (2, .iconst 0) :: (3, .istore_n 2) :: kX7_vetoes_4
def kX7_isPassed_39 : XC := (39, .ireturn) :: []
def kX7_isPassed_38 : XC := (38, .iconst 0) :: kX7_isPassed_39
def kX7_isPassed_34 : XC := (34, .iconst 1) :: (35, .goto 4) :: kX7_isPassed_38
def kX7_isPassed_18 : XC := (18, .aload_n 0) :: (19, .invokevirtual 232) :: (22, .aload_n 0) :: (23, .getfield 226) :: (26, .iand) :: (27, .iload_n 1) :: (28, .iconst (-1)) :: (29, .ixor) :: (30, .iand) :: (31, .ifCond .ne 7) :: kX7_isPassed_34
def kX7_isPassed_0 : XC := (0, .aload_n 0) :: (1, .iload_n 1) :: (2, .aload_n 0) :: (3, .getfield 226) :: (6, .iand) :: (7, .invokevirtual 229) :: (10, .aload_n 0) :: (11, .iconst 1) :: (12, .invokevirtual 181) :: (15, .if_icmp .lt 23) :: kX7_isPassed_18
def kX7_areAmounts_35 : XC := (35, .ireturn) :: []
def kX7_areAmounts_34 : XC := (34, .iconst 0) :: kX7_areAmounts_35
def kX7_areAmounts_30 : XC := (30, .iconst 1) :: (31, .goto 4) :: kX7_areAmounts_34
def kX7_areAmounts_20 : XC := (20, .iload_n 2) :: (21, .iconst 0) :: (22, .bipush 9) :: (24, .invokestatic 93) :: (27, .ifCond .eq 7) :: kX7_areAmounts_30
def kX7_areAmounts_10 : XC := (10, .iload_n 1) :: (11, .iconst 0) :: (12, .bipush 9) :: (14, .invokestatic 93) :: (17, .ifCond .eq 17) :: kX7_areAmounts_20
def kX7_areAmounts_0 : XC := (0, .iload_n 0) :: (1, .iconst 0) :: (2, .bipush 9) :: (4, .invokestatic 93) :: (7, .ifCond .eq 27) :: kX7_areAmounts_10
def kX7_isMotion_39 : XC := (39, .aload_n 0) :: (40, .iload_n 2) :: (41, .putfield 214) :: (44, .aload_n 0) :: (45, .iload_n 3) :: (46, .putfield 205) :: (49, .aload_n 0) :: (50, .bipush 100) :: (52, .iload 4) :: (54, .imul) :: (55, .bipush 10) :: (57, .iload 5) :: (59, .imul) :: (60, .iadd) :: (61, .iload 6) :: (63, .iadd) :: (64, .invokevirtual 238) :: (67, .iconst 1) :: (68, .ireturn) :: []
def kX7_isMotion_37 : XC := (37, .iconst 0) :: (38, .ireturn) :: kX7_isMotion_39
def kX7_isMotion_25 : XC := (25, .iload 4) :: (27, .iload 5) :: (29, .iload 6) :: (31, .invokestatic 235) :: (34, .ifCond .ne 5) :: kX7_isMotion_37
def kX7_isMotion_16 : XC := (16, .iload_n 3) :: (17, .iconst 0) :: (18, .iconst 3) :: (19, .invokestatic 93) :: (22, .ifCond .eq 15) :: kX7_isMotion_25
def kX7_isMotion_8 : XC := (8, .aload_n 0) :: (9, .iload_n 2) :: (10, .invokevirtual 193) :: (13, .ifCond .eq 24) :: kX7_isMotion_16
def kX7_isMotion_0 : XC := (0, .aload_n 0) :: (1, .iload_n 1) :: (2, .invokevirtual 190) :: (5, .ifCond .eq 32) :: kX7_isMotion_8
def kX7_off_25 : XC := (25, .ireturn) :: []
def kX7_off_24 : XC := (24, .iconst (-1)) :: kX7_off_25
def kX7_off_16 : XC := (16, .aload_n 0) :: (17, .iload_n 2) :: (18, .invokevirtual 217) :: (21, .goto 4) :: kX7_off_24
def kX7_off_0 : XC := (0, .aload_n 0) :: (1, .iload_n 1) :: (2, .iload_n 2) :: (3, .iload_n 3) :: (4, .iload 4) :: (6, .iload 5) :: (8, .iload 6) :: (10, .invokevirtual 241) :: (13, .ifCond .eq 11) :: kX7_off_16
def kX7_vote_46 : XC := (46, .ireturn) :: []
def kX7_vote_42 : XC := (42, .aload_n 0) :: (43, .invokevirtual 245) :: kX7_vote_46
def kX7_vote_38 : XC := (38, .iconst 0) :: (39, .goto 7) :: kX7_vote_42
def kX7_vote_34 : XC := (34, .iconst 1) :: (35, .goto 11) :: kX7_vote_38
def kX7_vote_23 : XC := (23, .aload_n 0) :: (24, .aload_n 0) :: (25, .invokevirtual 245) :: (28, .invokevirtual 248) :: (31, .ifCond .eq 7) :: kX7_vote_34
def kX7_vote_18 : XC := (18, .iload 7) :: (20, .ifCond .eq 22) :: kX7_vote_23
def kX7_vote_16 : XC := (16, .iconst (-1)) :: (17, .ireturn) :: kX7_vote_18
def kX7_vote_0 : XC := (0, .aload_n 0) :: (1, .iload_n 1) :: (2, .iload_n 2) :: (3, .iload_n 3) :: (4, .iload 4) :: (6, .iload 5) :: (8, .iload 6) :: (10, .invokevirtual 241) :: (13, .ifCond .ne 5) :: kX7_vote_16
def kX7_areOrders_11 : XC := (11, .aload_n 0) :: (12, .iconst 1) :: (13, .iload_n 1) :: (14, .invokestatic 172) :: (17, .putfield 251) :: (20, .iconst 1) :: (21, .ireturn) :: []
def kX7_areOrders_9 : XC := (9, .iconst 0) :: (10, .ireturn) :: kX7_areOrders_11
def kX7_areOrders_0 : XC := (0, .aload_n 0) :: (1, .iconst 1) :: (2, .iload_n 1) :: (3, .invokevirtual 144) :: (6, .ifCond .ne 5) :: kX7_areOrders_9
def kX7_orderOf_0 : XC := (0, .aload_n 0) :: (1, .getfield 7) :: (4, .aload_n 0) :: (5, .getfield 251) :: (8, .iconst 1) :: (9, .iadd) :: (10, .iconst 5) :: (11, .iload_n 1) :: (12, .imul) :: (13, .iadd) :: (14, .iload_n 2) :: (15, .iadd) :: (16, .iaload) :: (17, .ireturn) :: []
def kX7_order_74 : XC := (74, .ireturn) :: []
def kX7_order_72 : XC := (72, .bipush (-2)) :: kX7_order_74
def kX7_order_63 : XC := (63, .aload_n 0) :: (64, .iload_n 2) :: (65, .iload_n 3) :: (66, .invokevirtual 257) :: (69, .goto 5) :: kX7_order_72
def kX7_order_54 : XC := (54, .iload_n 3) :: (55, .iconst 0) :: (56, .iconst 4) :: (57, .invokestatic 93) :: (60, .ifCond .eq 12) :: kX7_order_63
def kX7_order_35 : XC := (35, .iload_n 2) :: (36, .iconst 0) :: (37, .aload_n 0) :: (38, .getfield 7) :: (41, .aload_n 0) :: (42, .getfield 251) :: (45, .iaload) :: (46, .iconst 1) :: (47, .isub) :: (48, .invokestatic 93) :: (51, .ifCond .eq 21) :: kX7_order_54
def kX7_order_34 : XC := (34, .ireturn) :: kX7_order_35
def kX7_order_32 : XC := (32, .bipush (-2)) :: kX7_order_34
def kX7_order_20 : XC := (20, .aload_n 0) :: (21, .getfield 7) :: (24, .aload_n 0) :: (25, .getfield 251) :: (28, .iaload) :: (29, .goto 5) :: kX7_order_32
def kX7_order_16 : XC := (16, .iload_n 3) :: (17, .ifCond .ne 15) :: kX7_order_20
def kX7_order_11 : XC := (11, .iload_n 2) :: (12, .iconst (-1)) :: (13, .if_icmp .ne 22) :: kX7_order_16
def kX7_order_8 : XC := (8, .bipush (-2)) :: (10, .ireturn) :: kX7_order_11
def kX7_order_0 : XC := (0, .aload_n 0) :: (1, .iload_n 1) :: (2, .invokevirtual 254) :: (5, .ifCond .ne 6) :: kX7_order_8
def kX7_amount_27 : XC := (27, .ireturn) :: []
def kX7_amount_23 : XC := (23, .aload_n 0) :: (24, .getfield 202) :: kX7_amount_27
def kX7_amount_16 : XC := (16, .aload_n 0) :: (17, .getfield 199) :: (20, .goto 7) :: kX7_amount_23
def kX7_amount_11 : XC := (11, .iload_n 1) :: (12, .iconst 1) :: (13, .if_icmp .ne 10) :: kX7_amount_16
def kX7_amount_4 : XC := (4, .aload_n 0) :: (5, .getfield 196) :: (8, .goto 19) :: kX7_amount_11
def kX7_amount_0 : XC := (0, .iload_n 1) :: (1, .ifCond .ne 10) :: kX7_amount_4
def kX7_isBroken_189 : XC := (189, .ireturn) :: []
def kX7_isBroken_188 : XC := (188, .iconst 0) :: kX7_isBroken_189
def kX7_isBroken_184 : XC := (184, .iconst 1) :: (185, .goto 4) :: kX7_isBroken_188
def kX7_isBroken_165 : XC := (165, .aload_n 0) :: (166, .aload_n 0) :: (167, .iload_n 1) :: (168, .iconst 3) :: (169, .invokevirtual 257) :: (172, .invokevirtual 260) :: (175, .aload_n 0) :: (176, .iload_n 1) :: (177, .iconst 4) :: (178, .invokevirtual 257) :: (181, .if_icmp .le 7) :: kX7_isBroken_184
def kX7_isBroken_155 : XC := (155, .iload_n 2) :: (156, .iload_n 3) :: (157, .invokestatic 263) :: (160, .iload 4) :: (162, .if_icmp .lt 26) :: kX7_isBroken_165
def kX7_isBroken_150 : XC := (150, .iload_n 2) :: (151, .iconst (-1)) :: (152, .if_icmp .eq 36) :: kX7_isBroken_155
def kX7_isBroken_149 : XC := (149, .ireturn) :: kX7_isBroken_150
def kX7_isBroken_148 : XC := (148, .iconst 0) :: kX7_isBroken_149
def kX7_isBroken_144 : XC := (144, .iconst 1) :: (145, .goto 4) :: kX7_isBroken_148
def kX7_isBroken_126 : XC := (126, .aload_n 0) :: (127, .getfield 196) :: (130, .aload_n 0) :: (131, .getfield 199) :: (134, .iadd) :: (135, .aload_n 0) :: (136, .getfield 202) :: (139, .iadd) :: (140, .iload_n 3) :: (141, .if_icmp .le 7) :: kX7_isBroken_144
def kX7_isBroken_125 : XC := (125, .ireturn) :: kX7_isBroken_126
def kX7_isBroken_124 : XC := (124, .iconst 0) :: kX7_isBroken_125
def kX7_isBroken_120 : XC := (120, .iconst 1) :: (121, .goto 4) :: kX7_isBroken_124
def kX7_isBroken_107 : XC := (107, .aload_n 0) :: (108, .iload_n 1) :: (109, .iconst 3) :: (110, .invokevirtual 257) :: (113, .aload_n 0) :: (114, .getfield 205) :: (117, .if_icmp .ne 7) :: kX7_isBroken_120
def kX7_isBroken_97 : XC := (97, .aload_n 0) :: (98, .iload_n 1) :: (99, .iconst 3) :: (100, .invokevirtual 257) :: (103, .iconst (-1)) :: (104, .if_icmp .eq 16) :: kX7_isBroken_107
def kX7_isBroken_87 : XC := (87, .aload_n 0) :: (88, .iload_n 3) :: (89, .invokevirtual 260) :: (92, .iload 4) :: (94, .if_icmp .ge 30) :: kX7_isBroken_97
def kX7_isBroken_86 : XC := (86, .ireturn) :: kX7_isBroken_87
def kX7_isBroken_85 : XC := (85, .iconst 0) :: kX7_isBroken_86
def kX7_isBroken_81 : XC := (81, .iconst 1) :: (82, .goto 4) :: kX7_isBroken_85
def kX7_isBroken_68 : XC := (68, .aload_n 0) :: (69, .iload_n 1) :: (70, .iconst 3) :: (71, .invokevirtual 257) :: (74, .aload_n 0) :: (75, .getfield 205) :: (78, .if_icmp .ne 7) :: kX7_isBroken_81
def kX7_isBroken_58 : XC := (58, .aload_n 0) :: (59, .iload_n 1) :: (60, .iconst 3) :: (61, .invokevirtual 257) :: (64, .iconst (-1)) :: (65, .if_icmp .eq 16) :: kX7_isBroken_68
def kX7_isBroken_48 : XC := (48, .aload_n 0) :: (49, .iload_n 3) :: (50, .invokevirtual 260) :: (53, .iload 4) :: (55, .if_icmp .le 30) :: kX7_isBroken_58
def kX7_isBroken_21 : XC := (21, .tableswitch 129 0 2 #[27, 66, 105]) :: kX7_isBroken_48
def kX7_isBroken_0 : XC := (0, .aload_n 0) :: (1, .iload_n 1) :: (2, .iconst 1) :: (3, .invokevirtual 257) :: (6, .istore_n 3) :: (7, .aload_n 0) :: (8, .iload_n 1) :: (9, .iconst 2) :: (10, .invokevirtual 257) :: (13, .istore 4) :: (15, .aload_n 0) :: (16, .iload_n 1) :: (17, .iconst 0) :: (18, .invokevirtual 257) :: kX7_isBroken_21
def kX7_firstBroken_32 : XC := (32, .iconst (-1)) :: (33, .ireturn) :: []
def kX7_firstBroken_26 : XC := (26, .iinc 2 1) :: (29, .goto (-27)) :: kX7_firstBroken_32
def kX7_firstBroken_24 : XC := (24, .iload_n 2) :: (25, .ireturn) :: kX7_firstBroken_26
def kX7_firstBroken_15 : XC := (15, .aload_n 0) :: (16, .iload_n 2) :: (17, .iload_n 1) :: (18, .invokevirtual 266) :: (21, .ifCond .eq 5) :: kX7_firstBroken_24
def kX7_firstBroken_2 : XC := (2, .iload_n 2) :: (3, .aload_n 0) :: (4, .getfield 7) :: (7, .aload_n 0) :: (8, .getfield 251) :: (11, .iaload) :: (12, .if_icmp .ge 20) :: kX7_firstBroken_15
def kX7_firstBroken_0 : XC := (0, .iconst 0) :: (1, .istore_n 2) :: kX7_firstBroken_2
def kX7_broken_42 : XC := (42, .aload_n 0) :: (43, .iload_n 2) :: (44, .putfield 205) :: (47, .aload_n 0) :: (48, .bipush 100) :: (50, .iload_n 3) :: (51, .imul) :: (52, .bipush 10) :: (54, .iload 4) :: (56, .imul) :: (57, .iadd) :: (58, .iload 5) :: (60, .iadd) :: (61, .invokevirtual 238) :: (64, .aload_n 0) :: (65, .iload 6) :: (67, .invokevirtual 269) :: (70, .ireturn) :: []
def kX7_broken_40 : XC := (40, .iconst (-1)) :: (41, .ireturn) :: kX7_broken_42
def kX7_broken_28 : XC := (28, .iload 6) :: (30, .iconst (-1)) :: (31, .sipush 999) :: (34, .invokestatic 93) :: (37, .ifCond .ne 5) :: kX7_broken_40
def kX7_broken_17 : XC := (17, .iload_n 3) :: (18, .iload 4) :: (20, .iload 5) :: (22, .invokestatic 235) :: (25, .ifCond .eq 15) :: kX7_broken_28
def kX7_broken_8 : XC := (8, .iload_n 2) :: (9, .iconst 0) :: (10, .iconst 3) :: (11, .invokestatic 93) :: (14, .ifCond .eq 26) :: kX7_broken_17
def kX7_broken_0 : XC := (0, .aload_n 0) :: (1, .iload_n 1) :: (2, .invokevirtual 254) :: (5, .ifCond .eq 35) :: kX7_broken_8
def kX7_begins_117 : XC := (117, .return_) :: []
def kX7_begins_104 : XC := (104, .aload_n 0) :: (105, .getfield 23) :: (108, .iload_n 1) :: (109, .iconst 0) :: (110, .iastore) :: (111, .iinc 1 1) :: (114, .goto (-16)) :: kX7_begins_117
def kX7_begins_98 : XC := (98, .iload_n 1) :: (99, .bipush 6) :: (101, .if_icmp .ge 16) :: kX7_begins_104
def kX7_begins_96 : XC := (96, .iconst 0) :: (97, .istore_n 1) :: kX7_begins_98
def kX7_begins_76 : XC := (76, .aload_n 0) :: (77, .getfield 20) :: (80, .iload_n 1) :: (81, .aload_n 0) :: (82, .bipush 6) :: (84, .iload_n 1) :: (85, .iadd) :: (86, .invokevirtual 181) :: (89, .iastore) :: (90, .iinc 1 1) :: (93, .goto (-22)) :: kX7_begins_96
def kX7_begins_71 : XC := (71, .iload_n 1) :: (72, .iconst 3) :: (73, .if_icmp .ge 23) :: kX7_begins_76
def kX7_begins_0 : XC := (0, .aload_n 0) :: (1, .iconst 1) :: (2, .aload_n 0) :: (3, .invokevirtual 184) :: (6, .ishl) :: (7, .iconst 1) :: (8, .isub) :: (9, .putfield 226) :: (12, .aload_n 0) :: (13, .iconst 0) :: (14, .putfield 272) :: (17, .aload_n 0) :: (18, .aload_n 0) :: (19, .iconst 3) :: (20, .invokevirtual 181) :: (23, .putfield 275) :: (26, .aload_n 0) :: (27, .aload_n 0) :: (28, .iconst 4) :: (29, .invokevirtual 181) :: (32, .putfield 278) :: (35, .aload_n 0) :: (36, .aload_n 0) :: (37, .iconst 5) :: (38, .invokevirtual 181) :: (41, .putfield 281) :: (44, .aload_n 0) :: (45, .iconst 0) :: (46, .putfield 284) :: (49, .aload_n 0) :: (50, .iconst 0) :: (51, .putfield 287) :: (54, .aload_n 0) :: (55, .iconst (-1)) :: (56, .putfield 290) :: (59, .aload_n 0) :: (60, .iconst 0) :: (61, .putfield 205) :: (64, .aload_n 0) :: (65, .iconst 0) :: (66, .putfield 293) :: (69, .iconst 0) :: (70, .istore_n 1) :: kX7_begins_71
def kX7_canNature_39 : XC := (39, .ireturn) :: []
def kX7_canNature_38 : XC := (38, .iconst 0) :: kX7_canNature_39
def kX7_canNature_34 : XC := (34, .iconst 1) :: (35, .goto 4) :: kX7_canNature_38
def kX7_canNature_11 : XC := (11, .aload_n 0) :: (12, .getfield 281) :: (15, .aload_n 0) :: (16, .getfield 202) :: (19, .iadd) :: (20, .aload_n 0) :: (21, .getfield 199) :: (24, .isub) :: (25, .iconst 0) :: (26, .bipush 99) :: (28, .invokestatic 93) :: (31, .ifCond .eq 7) :: kX7_canNature_34
def kX7_canNature_0 : XC := (0, .aload_n 0) :: (1, .getfield 196) :: (4, .aload_n 0) :: (5, .getfield 275) :: (8, .if_icmp .gt 30) :: kX7_canNature_11
def kX7_goes_48 : XC := (48, .istore_n 1) :: (49, .aload_n 0) :: (50, .dup) :: (51, .getfield 278) :: (54, .iload_n 1) :: (55, .isub) :: (56, .putfield 278) :: (59, .aload_n 0) :: (60, .dup) :: (61, .getfield 275) :: (64, .iload_n 1) :: (65, .iadd) :: (66, .putfield 275) :: (69, .aload_n 0) :: (70, .dup) :: (71, .getfield 281) :: (74, .aload_n 0) :: (75, .getfield 202) :: (78, .aload_n 0) :: (79, .getfield 199) :: (82, .isub) :: (83, .iadd) :: (84, .putfield 281) :: (87, .aload_n 0) :: (88, .bipush 100) :: (90, .aload_n 0) :: (91, .getfield 196) :: (94, .imul) :: (95, .bipush 10) :: (97, .aload_n 0) :: (98, .getfield 199) :: (101, .imul) :: (102, .iadd) :: (103, .aload_n 0) :: (104, .getfield 202) :: (107, .iadd) :: (108, .putfield 290) :: (111, .aload_n 0) :: (112, .dup) :: (113, .getfield 284) :: (116, .iconst 1) :: (117, .iadd) :: (118, .putfield 284) :: (121, .return_) :: []
def kX7_goes_44 : XC := (44, .aload_n 0) :: (45, .getfield 278) :: kX7_goes_48
def kX7_goes_37 : XC := (37, .aload_n 0) :: (38, .getfield 202) :: (41, .goto 7) :: kX7_goes_44
def kX7_goes_0 : XC := (0, .aload_n 0) :: (1, .dup) :: (2, .getfield 275) :: (5, .aload_n 0) :: (6, .getfield 196) :: (9, .isub) :: (10, .putfield 275) :: (13, .aload_n 0) :: (14, .dup) :: (15, .getfield 278) :: (18, .aload_n 0) :: (19, .getfield 196) :: (22, .iadd) :: (23, .putfield 278) :: (26, .aload_n 0) :: (27, .getfield 202) :: (30, .aload_n 0) :: (31, .getfield 278) :: (34, .if_icmp .ge 10) :: kX7_goes_37
def kX7_committee_14 : XC := (14, .invokevirtual 238) :: (17, .aload_n 0) :: (18, .invokevirtual 296) :: (21, .aload_n 0) :: (22, .dup) :: (23, .getfield 287) :: (26, .iconst 1) :: (27, .iadd) :: (28, .putfield 287) :: (31, .return_) :: []
def kX7_committee_13 : XC := (13, .iconst 0) :: kX7_committee_14
def kX7_committee_8 : XC := (8, .bipush 100) :: (10, .goto 4) :: kX7_committee_13
def kX7_committee_0 : XC := (0, .aload_n 0) :: (1, .aload_n 0) :: (2, .getfield 275) :: (5, .ifCond .le 8) :: kX7_committee_8
def kX7_angers_110 : XC := (110, .return_) :: []
def kX7_angers_104 : XC := (104, .iinc 2 1) :: (107, .goto (-105)) :: kX7_angers_110
def kX7_angers_78 : XC := (78, .aload_n 0) :: (79, .dup) :: (80, .getfield 226) :: (83, .iconst 1) :: (84, .iload_n 2) :: (85, .ishl) :: (86, .iconst (-1)) :: (87, .ixor) :: (88, .iand) :: (89, .putfield 226) :: (92, .aload_n 0) :: (93, .dup) :: (94, .getfield 272) :: (97, .iconst 1) :: (98, .iload_n 2) :: (99, .ishl) :: (100, .ior) :: (101, .putfield 272) :: kX7_angers_104
def kX7_angers_75 : XC := (75, .goto 29) :: kX7_angers_78
def kX7_angers_60 : XC := (60, .aload_n 0) :: (61, .getfield 23) :: (64, .iload_n 2) :: (65, .iaload) :: (66, .aload_n 0) :: (67, .iload_n 2) :: (68, .iconst 2) :: (69, .invokevirtual 187) :: (72, .if_icmp .ge 6) :: kX7_angers_75
def kX7_angers_50 : XC := (50, .iastore) :: (51, .aload_n 0) :: (52, .iload_n 2) :: (53, .iconst 2) :: (54, .invokevirtual 187) :: (57, .ifCond .eq 47) :: kX7_angers_60
def kX7_angers_42 : XC := (42, .aload_n 0) :: (43, .getfield 23) :: (46, .iload_n 2) :: (47, .iaload) :: (48, .iconst 1) :: (49, .iadd) :: kX7_angers_50
def kX7_angers_38 : XC := (38, .iconst 0) :: (39, .goto 11) :: kX7_angers_42
def kX7_angers_24 : XC := (24, .aload_n 0) :: (25, .getfield 23) :: (28, .iload_n 2) :: (29, .iload_n 1) :: (30, .iload_n 2) :: (31, .ishr) :: (32, .iconst 1) :: (33, .iand) :: (34, .iconst 1) :: (35, .if_icmp .ne 7) :: kX7_angers_38
def kX7_angers_21 : XC := (21, .goto 83) :: kX7_angers_24
def kX7_angers_10 : XC := (10, .aload_n 0) :: (11, .getfield 226) :: (14, .iload_n 2) :: (15, .ishr) :: (16, .iconst 1) :: (17, .iand) :: (18, .ifCond .ne 6) :: kX7_angers_21
def kX7_angers_2 : XC := (2, .iload_n 2) :: (3, .aload_n 0) :: (4, .invokevirtual 184) :: (7, .if_icmp .ge 103) :: kX7_angers_10
def kX7_angers_0 : XC := (0, .iconst 0) :: (1, .istore_n 2) :: kX7_angers_2
def kX7_moves_18 : XC := (18, .aload_n 0) :: (19, .invokevirtual 296) :: (22, .aload_n 0) :: (23, .iload_n 1) :: (24, .invokevirtual 302) :: (27, .return_) :: []
def kX7_moves_13 : XC := (13, .aload_n 0) :: (14, .invokevirtual 299) :: (17, .return_) :: kX7_moves_18
def kX7_moves_0 : XC := (0, .aload_n 0) :: (1, .invokevirtual 245) :: (4, .istore_n 1) :: (5, .aload_n 0) :: (6, .iload_n 1) :: (7, .invokevirtual 248) :: (10, .ifCond .ne 8) :: kX7_moves_13
def kX7_deeds_0 : XC := (0, .aload_n 0) :: (1, .getfield 7) :: (4, .aload_n 0) :: (5, .getfield 305) :: (8, .iaload) :: (9, .ireturn) :: []
def kX7_deedOf_0 : XC := (0, .aload_n 0) :: (1, .getfield 7) :: (4, .aload_n 0) :: (5, .getfield 305) :: (8, .iconst 1) :: (9, .iadd) :: (10, .iconst 5) :: (11, .iload_n 1) :: (12, .imul) :: (13, .iadd) :: (14, .iload_n 2) :: (15, .iadd) :: (16, .iaload) :: (17, .ireturn) :: []
def kX7_deed_74 : XC := (74, .ireturn) :: []
def kX7_deed_72 : XC := (72, .bipush (-2)) :: kX7_deed_74
def kX7_deed_63 : XC := (63, .aload_n 0) :: (64, .iload_n 2) :: (65, .iload_n 3) :: (66, .invokevirtual 311) :: (69, .goto 5) :: kX7_deed_72
def kX7_deed_54 : XC := (54, .iload_n 3) :: (55, .iconst 0) :: (56, .iconst 4) :: (57, .invokestatic 93) :: (60, .ifCond .eq 12) :: kX7_deed_63
def kX7_deed_40 : XC := (40, .iload_n 2) :: (41, .iconst 0) :: (42, .aload_n 0) :: (43, .invokevirtual 308) :: (46, .iconst 1) :: (47, .isub) :: (48, .invokestatic 93) :: (51, .ifCond .eq 21) :: kX7_deed_54
def kX7_deed_39 : XC := (39, .ireturn) :: kX7_deed_40
def kX7_deed_37 : XC := (37, .bipush (-2)) :: kX7_deed_39
def kX7_deed_30 : XC := (30, .aload_n 0) :: (31, .invokevirtual 308) :: (34, .goto 5) :: kX7_deed_37
def kX7_deed_26 : XC := (26, .iload_n 3) :: (27, .ifCond .ne 10) :: kX7_deed_30
def kX7_deed_12 : XC := (12, .aload_n 0) :: (13, .iconst 2) :: (14, .iload_n 1) :: (15, .invokestatic 172) :: (18, .putfield 305) :: (21, .iload_n 2) :: (22, .iconst (-1)) :: (23, .if_icmp .ne 17) :: kX7_deed_26
def kX7_deed_9 : XC := (9, .bipush (-2)) :: (11, .ireturn) :: kX7_deed_12
def kX7_deed_0 : XC := (0, .aload_n 0) :: (1, .iconst 2) :: (2, .iload_n 1) :: (3, .invokevirtual 144) :: (6, .ifCond .ne 6) :: kX7_deed_9
def kX7_isThere_25 : XC := (25, .ireturn) :: []
def kX7_isThere_24 : XC := (24, .iconst 0) :: kX7_isThere_25
def kX7_isThere_20 : XC := (20, .iconst 1) :: (21, .goto 4) :: kX7_isThere_24
def kX7_isThere_8 : XC := (8, .aload_n 0) :: (9, .getfield 226) :: (12, .iload_n 1) :: (13, .ishr) :: (14, .iconst 1) :: (15, .iand) :: (16, .iconst 1) :: (17, .if_icmp .ne 7) :: kX7_isThere_20
def kX7_isThere_0 : XC := (0, .aload_n 0) :: (1, .iload_n 1) :: (2, .invokevirtual 193) :: (5, .ifCond .eq 19) :: kX7_isThere_8
def kX7_can_150 : XC := (150, .iconst 1) :: (151, .ireturn) :: []
def kX7_can_149 : XC := (149, .ireturn) :: kX7_can_150
def kX7_can_148 : XC := (148, .iconst 0) :: kX7_can_149
def kX7_can_144 : XC := (144, .iconst 1) :: (145, .goto 4) :: kX7_can_148
def kX7_can_136 : XC := (136, .aload_n 0) :: (137, .iload_n 2) :: (138, .invokevirtual 314) :: (141, .ifCond .ne 7) :: kX7_can_144
def kX7_can_128 : XC := (128, .aload_n 0) :: (129, .iload_n 2) :: (130, .invokevirtual 193) :: (133, .ifCond .eq 15) :: kX7_can_136
def kX7_can_122 : XC := (122, .aload_n 0) :: (123, .iload_n 2) :: (124, .invokevirtual 314) :: (127, .ireturn) :: kX7_can_128
def kX7_can_111 : XC := (111, .aload_n 0) :: (112, .aload_n 0) :: (113, .iload_n 1) :: (114, .iconst 2) :: (115, .invokevirtual 311) :: (118, .invokevirtual 314) :: (121, .ireturn) :: kX7_can_122
def kX7_can_110 : XC := (110, .ireturn) :: kX7_can_111
def kX7_can_109 : XC := (109, .iconst 0) :: kX7_can_110
def kX7_can_105 : XC := (105, .iconst 1) :: (106, .goto 4) :: kX7_can_109
def kX7_can_98 : XC := (98, .aload_n 0) :: (99, .invokevirtual 317) :: (102, .ifCond .eq 7) :: kX7_can_105
def kX7_can_86 : XC := (86, .aload_n 0) :: (87, .aload_n 0) :: (88, .getfield 290) :: (91, .invokevirtual 269) :: (94, .iconst (-1)) :: (95, .if_icmp .ne 14) :: kX7_can_98
def kX7_can_48 : XC := (48, .aload_n 0) :: (49, .bipush 100) :: (51, .aload_n 0) :: (52, .iload_n 1) :: (53, .iconst 2) :: (54, .invokevirtual 311) :: (57, .imul) :: (58, .bipush 10) :: (60, .aload_n 0) :: (61, .iload_n 1) :: (62, .iconst 3) :: (63, .invokevirtual 311) :: (66, .imul) :: (67, .iadd) :: (68, .aload_n 0) :: (69, .iload_n 1) :: (70, .iconst 4) :: (71, .invokevirtual 311) :: (74, .iadd) :: (75, .invokevirtual 238) :: (78, .aload_n 0) :: (79, .iload_n 2) :: (80, .invokevirtual 314) :: (83, .ifCond .eq 26) :: kX7_can_86
def kX7_can_13 : XC := (13, .tableswitch 137 0 4 #[35, 137, 98, 109, 115]) :: kX7_can_48
def kX7_can_0 : XC := (0, .aload_n 0) :: (1, .iload_n 1) :: (2, .iconst 1) :: (3, .invokevirtual 311) :: (6, .istore_n 2) :: (7, .aload_n 0) :: (8, .iload_n 1) :: (9, .iconst 0) :: (10, .invokevirtual 311) :: kX7_can_13
def kX7_does_126 : XC := (126, .return_) :: []
def kX7_does_122 : XC := (122, .aload_n 0) :: (123, .invokevirtual 299) :: kX7_does_126
def kX7_does_100 : XC := (100, .aload_n 0) :: (101, .dup) :: (102, .getfield 226) :: (105, .iconst 1) :: (106, .iload_n 2) :: (107, .ishl) :: (108, .ior) :: (109, .putfield 226) :: (112, .aload_n 0) :: (113, .getfield 23) :: (116, .iload_n 2) :: (117, .iconst 0) :: (118, .iastore) :: (119, .goto 7) :: kX7_does_122
def kX7_does_83 : XC := (83, .aload_n 0) :: (84, .dup) :: (85, .getfield 226) :: (88, .iconst 1) :: (89, .iload_n 2) :: (90, .ishl) :: (91, .iconst (-1)) :: (92, .ixor) :: (93, .iand) :: (94, .putfield 226) :: (97, .goto 29) :: kX7_does_100
def kX7_does_68 : XC := (68, .aload_n 0) :: (69, .getfield 20) :: (72, .iload_n 2) :: (73, .aload_n 0) :: (74, .iload_n 1) :: (75, .iconst 2) :: (76, .invokevirtual 311) :: (79, .iastore) :: (80, .goto 46) :: kX7_does_83
def kX7_does_60 : XC := (60, .aload_n 0) :: (61, .iload_n 2) :: (62, .putfield 205) :: (65, .goto 61) :: kX7_does_68
def kX7_does_48 : XC := (48, .aload_n 0) :: (49, .iload_n 2) :: (50, .putfield 214) :: (53, .aload_n 0) :: (54, .invokevirtual 321) :: (57, .goto 69) :: kX7_does_60
def kX7_does_13 : XC := (13, .tableswitch 109 0 4 #[35, 47, 55, 70, 87]) :: kX7_does_48
def kX7_does_0 : XC := (0, .aload_n 0) :: (1, .iload_n 1) :: (2, .iconst 1) :: (3, .invokevirtual 311) :: (6, .istore_n 2) :: (7, .aload_n 0) :: (8, .iload_n 1) :: (9, .iconst 0) :: (10, .invokevirtual 311) :: kX7_does_13
def kX7_areTold_27 : XC := (27, .aload_n 0) :: (28, .iconst 2) :: (29, .iload_n 3) :: (30, .invokestatic 172) :: (33, .putfield 305) :: (36, .iconst 1) :: (37, .ireturn) :: []
def kX7_areTold_25 : XC := (25, .iconst 0) :: (26, .ireturn) :: kX7_areTold_27
def kX7_areTold_16 : XC := (16, .aload_n 0) :: (17, .iconst 2) :: (18, .iload_n 3) :: (19, .invokevirtual 144) :: (22, .ifCond .ne 5) :: kX7_areTold_25
def kX7_areTold_8 : XC := (8, .aload_n 0) :: (9, .iload_n 2) :: (10, .invokevirtual 254) :: (13, .ifCond .eq 12) :: kX7_areTold_16
def kX7_areTold_0 : XC := (0, .aload_n 0) :: (1, .iload_n 1) :: (2, .invokevirtual 190) :: (5, .ifCond .eq 20) :: kX7_areTold_8
def kX7_runs_51 : XC := (51, .return_) :: []
def kX7_runs_30 : XC := (30, .aload_n 0) :: (31, .aload_n 0) :: (32, .getfield 293) :: (35, .invokevirtual 327) :: (38, .aload_n 0) :: (39, .dup) :: (40, .getfield 293) :: (43, .iconst 1) :: (44, .iadd) :: (45, .putfield 293) :: (48, .goto (-48)) :: kX7_runs_51
def kX7_runs_19 : XC := (19, .aload_n 0) :: (20, .aload_n 0) :: (21, .getfield 293) :: (24, .invokevirtual 324) :: (27, .ifCond .eq 24) :: kX7_runs_30
def kX7_runs_8 : XC := (8, .aload_n 0) :: (9, .getfield 293) :: (12, .aload_n 0) :: (13, .invokevirtual 308) :: (16, .if_icmp .ge 35) :: kX7_runs_19
def kX7_runs_0 : XC := (0, .aload_n 0) :: (1, .getfield 293) :: (4, .iload_n 1) :: (5, .if_icmp .ge 46) :: kX7_runs_8
def kX7_stop_12 : XC := (12, .aload_n 0) :: (13, .bipush 40) :: (15, .invokevirtual 333) :: (18, .aload_n 0) :: (19, .getfield 293) :: (22, .ireturn) :: []
def kX7_stop_10 : XC := (10, .iconst (-1)) :: (11, .ireturn) :: kX7_stop_12
def kX7_stop_0 : XC := (0, .aload_n 0) :: (1, .iload_n 1) :: (2, .iload_n 2) :: (3, .iload_n 3) :: (4, .invokevirtual 330) :: (7, .ifCond .ne 5) :: kX7_stop_10
def kX7_state_207 : XC := (207, .bipush (-2)) :: (209, .ireturn) :: []
def kX7_state_202 : XC := (202, .aload_n 0) :: (203, .getfield 290) :: (206, .ireturn) :: kX7_state_207
def kX7_state_201 : XC := (201, .ireturn) :: kX7_state_202
def kX7_state_200 : XC := (200, .iconst 0) :: kX7_state_201
def kX7_state_196 : XC := (196, .iconst 1) :: (197, .goto 4) :: kX7_state_200
def kX7_state_180 : XC := (180, .aload_n 0) :: (181, .aload_n 0) :: (182, .getfield 226) :: (185, .invokevirtual 229) :: (188, .aload_n 0) :: (189, .iconst 1) :: (190, .invokevirtual 181) :: (193, .if_icmp .ge 7) :: kX7_state_196
def kX7_state_175 : XC := (175, .aload_n 0) :: (176, .getfield 287) :: (179, .ireturn) :: kX7_state_180
def kX7_state_170 : XC := (170, .aload_n 0) :: (171, .getfield 281) :: (174, .ireturn) :: kX7_state_175
def kX7_state_165 : XC := (165, .aload_n 0) :: (166, .getfield 278) :: (169, .ireturn) :: kX7_state_170
def kX7_state_160 : XC := (160, .aload_n 0) :: (161, .getfield 275) :: (164, .ireturn) :: kX7_state_165
def kX7_state_155 : XC := (155, .aload_n 0) :: (156, .getfield 272) :: (159, .ireturn) :: kX7_state_160
def kX7_state_150 : XC := (150, .aload_n 0) :: (151, .getfield 226) :: (154, .ireturn) :: kX7_state_155
def kX7_state_145 : XC := (145, .aload_n 0) :: (146, .getfield 205) :: (149, .ireturn) :: kX7_state_150
def kX7_state_140 : XC := (140, .aload_n 0) :: (141, .getfield 284) :: (144, .ireturn) :: kX7_state_145
def kX7_state_84 : XC := (84, .tableswitch 123 0 9 #[56, 61, 66, 71, 76, 81, 86, 91, 96, 118]) :: kX7_state_140
def kX7_state_82 : XC := (82, .iload 5) :: kX7_state_84
def kX7_state_71 : XC := (71, .aload_n 0) :: (72, .getfield 20) :: (75, .iload 5) :: (77, .bipush 10) :: (79, .isub) :: (80, .iaload) :: (81, .ireturn) :: kX7_state_82
def kX7_state_59 : XC := (59, .iload 5) :: (61, .bipush 10) :: (63, .bipush 12) :: (65, .invokestatic 93) :: (68, .ifCond .eq 14) :: kX7_state_71
def kX7_state_48 : XC := (48, .aload_n 0) :: (49, .getfield 23) :: (52, .iload 5) :: (54, .bipush 20) :: (56, .isub) :: (57, .iaload) :: (58, .ireturn) :: kX7_state_59
def kX7_state_36 : XC := (36, .aload_n 0) :: (37, .iload 5) :: (39, .bipush 20) :: (41, .isub) :: (42, .invokevirtual 193) :: (45, .ifCond .eq 14) :: kX7_state_48
def kX7_state_33 : XC := (33, .bipush (-2)) :: (35, .ireturn) :: kX7_state_36
def kX7_state_18 : XC := (18, .aload_n 0) :: (19, .iload 4) :: (21, .invokevirtual 333) :: (24, .aload_n 0) :: (25, .getfield 293) :: (28, .iload 4) :: (30, .if_icmp .eq 6) :: kX7_state_33
def kX7_state_15 : XC := (15, .bipush (-2)) :: (17, .ireturn) :: kX7_state_18
def kX7_state_10 : XC := (10, .iload 4) :: (12, .ifCond .ge 6) :: kX7_state_15
def kX7_state_0 : XC := (0, .aload_n 0) :: (1, .iload_n 1) :: (2, .iload_n 2) :: (3, .iload_n 3) :: (4, .invokevirtual 330) :: (7, .ifCond .eq 8) :: kX7_state_10
def kX7_isAgreed_41 : XC := (41, .ireturn) :: []
def kX7_isAgreed_40 : XC := (40, .iconst 0) :: kX7_isAgreed_41
def kX7_isAgreed_36 : XC := (36, .iconst 1) :: (37, .goto 4) :: kX7_isAgreed_40
def kX7_isAgreed_25 : XC := (25, .aload_n 0) :: (26, .aload_n 0) :: (27, .invokevirtual 245) :: (30, .invokevirtual 248) :: (33, .ifCond .eq 7) :: kX7_isAgreed_36
def kX7_isAgreed_16 : XC := (16, .aload_n 0) :: (17, .iconst (-1)) :: (18, .invokevirtual 269) :: (21, .iconst (-1)) :: (22, .if_icmp .ne 18) :: kX7_isAgreed_25
def kX7_isAgreed_12 : XC := (12, .iload_n 2) :: (13, .ifCond .eq 12) :: kX7_isAgreed_16
def kX7_isAgreed_0 : XC := (0, .aload_n 0) :: (1, .iload_n 1) :: (2, .invokevirtual 238) :: (5, .aload_n 0) :: (6, .invokevirtual 317) :: (9, .ifCond .eq 31) :: kX7_isAgreed_12
def kX7_rank_62 : XC := (62, .ireturn) :: []
def kX7_rank_44 : XC := (44, .bipush 100) :: (46, .iload_n 2) :: (47, .imul) :: (48, .bipush 10) :: (50, .bipush 9) :: (52, .iload_n 3) :: (53, .isub) :: (54, .imul) :: (55, .iadd) :: (56, .bipush 9) :: (58, .iadd) :: (59, .iload 4) :: (61, .isub) :: kX7_rank_62
def kX7_rank_23 : XC := (23, .bipush 100) :: (25, .iload 4) :: (27, .imul) :: (28, .bipush 10) :: (30, .bipush 9) :: (32, .iload_n 2) :: (33, .isub) :: (34, .imul) :: (35, .iadd) :: (36, .bipush 9) :: (38, .iadd) :: (39, .iload_n 3) :: (40, .isub) :: (41, .goto 21) :: kX7_rank_44
def kX7_rank_0 : XC := (0, .iload_n 0) :: (1, .bipush 100) :: (3, .idiv) :: (4, .istore_n 2) :: (5, .iload_n 0) :: (6, .bipush 10) :: (8, .idiv) :: (9, .bipush 10) :: (11, .irem) :: (12, .istore_n 3) :: (13, .iload_n 0) :: (14, .bipush 10) :: (16, .irem) :: (17, .istore 4) :: (19, .iload_n 1) :: (20, .ifCond .eq 24) :: kX7_rank_23
def kX7_agreed_150 : XC := (150, .ireturn) :: []
def kX7_agreed_148 : XC := (148, .iload 7) :: kX7_agreed_150
def kX7_agreed_143 : XC := (143, .iload 6) :: (145, .goto 5) :: kX7_agreed_148
def kX7_agreed_138 : XC := (138, .iload 5) :: (140, .ifCond .ne 8) :: kX7_agreed_143
def kX7_agreed_132 : XC := (132, .iinc 8 1) :: (135, .goto (-86)) :: kX7_agreed_138
def kX7_agreed_130 : XC := (130, .istore 7) :: kX7_agreed_132
def kX7_agreed_128 : XC := (128, .iload 7) :: kX7_agreed_130
def kX7_agreed_123 : XC := (123, .iload 8) :: (125, .goto 5) :: kX7_agreed_128
def kX7_agreed_117 : XC := (117, .invokestatic 340) :: (120, .if_icmp .le 8) :: kX7_agreed_123
def kX7_agreed_116 : XC := (116, .iconst 0) :: kX7_agreed_117
def kX7_agreed_112 : XC := (112, .iconst 1) :: (113, .goto 4) :: kX7_agreed_116
def kX7_agreed_101 : XC := (101, .invokestatic 340) :: (104, .iload 7) :: (106, .iload 5) :: (108, .iconst 2) :: (109, .if_icmp .ne 7) :: kX7_agreed_112
def kX7_agreed_100 : XC := (100, .iconst 0) :: kX7_agreed_101
def kX7_agreed_96 : XC := (96, .iconst 1) :: (97, .goto 4) :: kX7_agreed_100
def kX7_agreed_88 : XC := (88, .iload 8) :: (90, .iload 5) :: (92, .iconst 2) :: (93, .if_icmp .ne 7) :: kX7_agreed_96
def kX7_agreed_79 : XC := (79, .iinc 6 1) :: (82, .iload 7) :: (84, .iconst (-1)) :: (85, .if_icmp .eq 38) :: kX7_agreed_88
def kX7_agreed_76 : XC := (76, .goto 56) :: kX7_agreed_79
def kX7_agreed_70 : XC := (70, .invokevirtual 336) :: (73, .ifCond .ne 6) :: kX7_agreed_76
def kX7_agreed_69 : XC := (69, .iconst 0) :: kX7_agreed_70
def kX7_agreed_65 : XC := (65, .iconst 1) :: (66, .goto 4) :: kX7_agreed_69
def kX7_agreed_57 : XC := (57, .aload_n 0) :: (58, .iload 8) :: (60, .iload_n 2) :: (61, .iconst (-1)) :: (62, .if_icmp .eq 7) :: kX7_agreed_65
def kX7_agreed_49 : XC := (49, .iload 8) :: (51, .sipush 1000) :: (54, .if_icmp .ge 84) :: kX7_agreed_57
def kX7_agreed_40 : XC := (40, .iconst 0) :: (41, .istore 6) :: (43, .iconst (-1)) :: (44, .istore 7) :: (46, .iconst 0) :: (47, .istore 8) :: kX7_agreed_49
def kX7_agreed_37 : XC := (37, .bipush (-2)) :: (39, .ireturn) :: kX7_agreed_40
def kX7_agreed_29 : XC := (29, .aload_n 0) :: (30, .iload_n 2) :: (31, .invokevirtual 254) :: (34, .ifCond .ne 6) :: kX7_agreed_37
def kX7_agreed_24 : XC := (24, .iload_n 2) :: (25, .iconst (-1)) :: (26, .if_icmp .eq 14) :: kX7_agreed_29
def kX7_agreed_14 : XC := (14, .iload 5) :: (16, .iconst 0) :: (17, .iconst 2) :: (18, .invokestatic 93) :: (21, .ifCond .eq 16) :: kX7_agreed_24
def kX7_agreed_0 : XC := (0, .aload_n 0) :: (1, .iload_n 1) :: (2, .iload_n 3) :: (3, .iload 4) :: (5, .iconst 0) :: (6, .iconst 0) :: (7, .iconst 0) :: (8, .invokevirtual 241) :: (11, .ifCond .eq 26) :: kX7_agreed_14
def kX7_common_21 : XC := (21, .iload_n 2) :: (22, .ireturn) :: []
def kX7_common_8 : XC := (8, .iload_n 2) :: (9, .iload_n 3) :: (10, .irem) :: (11, .istore 4) :: (13, .iload_n 3) :: (14, .istore_n 2) :: (15, .iload 4) :: (17, .istore_n 3) :: (18, .goto (-14)) :: kX7_common_21
def kX7_common_4 : XC := (4, .iload_n 3) :: (5, .ifCond .eq 16) :: kX7_common_8
def kX7_common_0 : XC := (0, .iload_n 0) :: (1, .istore_n 2) :: (2, .iload_n 1) :: (3, .istore_n 3) :: kX7_common_4
def kX7_part_9 : XC := (9, .iload_n 0) :: (10, .iload_n 1) :: (11, .invokestatic 344) :: (14, .idiv) :: (15, .ireturn) :: []
def kX7_part_8 : XC := (8, .iload_n 0) :: kX7_part_9
def kX7_part_4 : XC := (4, .iload_n 1) :: (5, .goto 4) :: kX7_part_8
def kX7_part_0 : XC := (0, .iload_n 2) :: (1, .ifCond .eq 7) :: kX7_part_4
def kX7_factorial_19 : XC := (19, .iload_n 1) :: (20, .ireturn) :: []
def kX7_factorial_9 : XC := (9, .iload_n 1) :: (10, .iload_n 2) :: (11, .imul) :: (12, .istore_n 1) :: (13, .iinc 2 1) :: (16, .goto (-12)) :: kX7_factorial_19
def kX7_factorial_4 : XC := (4, .iload_n 2) :: (5, .iload_n 0) :: (6, .if_icmp .gt 13) :: kX7_factorial_9
def kX7_factorial_0 : XC := (0, .iconst 1) :: (1, .istore_n 1) :: (2, .iconst 2) :: (3, .istore_n 2) :: kX7_factorial_4
def kX7_bits_24 : XC := (24, .iload_n 1) :: (25, .ireturn) :: []
def kX7_bits_10 : XC := (10, .iload_n 1) :: (11, .iload_n 0) :: (12, .iload_n 2) :: (13, .ishr) :: (14, .iconst 1) :: (15, .iand) :: (16, .iadd) :: (17, .istore_n 1) :: (18, .iinc 2 1) :: (21, .goto (-17)) :: kX7_bits_24
def kX7_bits_4 : XC := (4, .iload_n 2) :: (5, .bipush 31) :: (7, .if_icmp .ge 17) :: kX7_bits_10
def kX7_bits_0 : XC := (0, .iconst 0) :: (1, .istore_n 1) :: (2, .iconst 0) :: (3, .istore_n 2) :: kX7_bits_4
def kX7_everybody_0 : XC := (0, .iconst 1) :: (1, .aload_n 0) :: (2, .invokevirtual 184) :: (5, .ishl) :: (6, .iconst 1) :: (7, .isub) :: (8, .ireturn) :: []
def kX7_isEnough_18 : XC := (18, .ireturn) :: []
def kX7_isEnough_17 : XC := (17, .iconst 0) :: kX7_isEnough_18
def kX7_isEnough_13 : XC := (13, .iconst 1) :: (14, .goto 4) :: kX7_isEnough_17
def kX7_isEnough_0 : XC := (0, .aload_n 0) :: (1, .iload_n 1) :: (2, .invokevirtual 229) :: (5, .aload_n 0) :: (6, .iconst 1) :: (7, .invokevirtual 181) :: (10, .if_icmp .lt 7) :: kX7_isEnough_13
def kX7_power_107 : XC := (107, .iload 5) :: (109, .iload 4) :: (111, .invokestatic 356) :: (114, .iload_n 3) :: (115, .invokestatic 359) :: (118, .ireturn) :: []
def kX7_power_101 : XC := (101, .iinc 6 1) :: (104, .goto (-74)) :: kX7_power_107
def kX7_power_74 : XC := (74, .iload 5) :: (76, .iload 6) :: (78, .invokestatic 353) :: (81, .invokestatic 356) :: (84, .iload 4) :: (86, .iconst 1) :: (87, .isub) :: (88, .iload 6) :: (90, .invokestatic 353) :: (93, .isub) :: (94, .invokestatic 356) :: (97, .imul) :: (98, .iadd) :: (99, .istore 5) :: kX7_power_101
def kX7_power_71 : XC := (71, .goto 30) :: kX7_power_74
def kX7_power_58 : XC := (58, .aload_n 0) :: (59, .iload 6) :: (61, .iconst 1) :: (62, .iload_n 2) :: (63, .ishl) :: (64, .ior) :: (65, .invokevirtual 350) :: (68, .ifCond .ne 6) :: kX7_power_71
def kX7_power_49 : XC := (49, .aload_n 0) :: (50, .iload 6) :: (52, .invokevirtual 350) :: (55, .ifCond .ne 46) :: kX7_power_58
def kX7_power_39 : XC := (39, .iload 6) :: (41, .iload_n 2) :: (42, .ishr) :: (43, .iconst 1) :: (44, .iand) :: (45, .iconst 1) :: (46, .if_icmp .eq 55) :: kX7_power_49
def kX7_power_30 : XC := (30, .iload 6) :: (32, .aload_n 0) :: (33, .invokevirtual 347) :: (36, .if_icmp .gt 71) :: kX7_power_39
def kX7_power_18 : XC := (18, .aload_n 0) :: (19, .invokevirtual 184) :: (22, .istore 4) :: (24, .iconst 0) :: (25, .istore 5) :: (27, .iconst 0) :: (28, .istore 6) :: kX7_power_30
def kX7_power_16 : XC := (16, .iconst (-1)) :: (17, .ireturn) :: kX7_power_18
def kX7_power_8 : XC := (8, .aload_n 0) :: (9, .iload_n 2) :: (10, .invokevirtual 193) :: (13, .ifCond .ne 5) :: kX7_power_16
def kX7_power_0 : XC := (0, .aload_n 0) :: (1, .iload_n 1) :: (2, .invokevirtual 190) :: (5, .ifCond .eq 11) :: kX7_power_8
def kX7_key_45 : XC := (45, .iload_n 1) :: (46, .ireturn) :: []
def kX7_key_37 : XC := (37, .ior) :: (38, .istore_n 1) :: (39, .iinc 2 1) :: (42, .goto (-38)) :: kX7_key_45
def kX7_key_34 : XC := (34, .iconst 1) :: (35, .iload_n 2) :: (36, .ishl) :: kX7_key_37
def kX7_key_30 : XC := (30, .iconst 0) :: (31, .goto 6) :: kX7_key_34
def kX7_key_12 : XC := (12, .iload_n 1) :: (13, .aload_n 0) :: (14, .aload_n 0) :: (15, .invokevirtual 347) :: (18, .iconst 1) :: (19, .iload_n 2) :: (20, .ishl) :: (21, .iconst (-1)) :: (22, .ixor) :: (23, .iand) :: (24, .invokevirtual 350) :: (27, .ifCond .eq 7) :: kX7_key_30
def kX7_key_4 : XC := (4, .iload_n 2) :: (5, .aload_n 0) :: (6, .invokevirtual 184) :: (9, .if_icmp .ge 36) :: kX7_key_12
def kX7_key_0 : XC := (0, .iconst 0) :: (1, .istore_n 1) :: (2, .iconst 0) :: (3, .istore_n 2) :: kX7_key_4
def kX7_isLeast_54 : XC := (54, .iload_n 2) :: (55, .ireturn) :: []
def kX7_isLeast_47 : XC := (47, .istore_n 2) :: (48, .iinc 3 1) :: (51, .goto (-43)) :: kX7_isLeast_54
def kX7_isLeast_46 : XC := (46, .iconst 0) :: kX7_isLeast_47
def kX7_isLeast_42 : XC := (42, .iconst 1) :: (43, .goto 4) :: kX7_isLeast_46
def kX7_isLeast_28 : XC := (28, .aload_n 0) :: (29, .iload_n 1) :: (30, .iconst 1) :: (31, .iload_n 3) :: (32, .ishl) :: (33, .iconst (-1)) :: (34, .ixor) :: (35, .iand) :: (36, .invokevirtual 350) :: (39, .ifCond .ne 7) :: kX7_isLeast_42
def kX7_isLeast_20 : XC := (20, .iload_n 1) :: (21, .iload_n 3) :: (22, .ishr) :: (23, .iconst 1) :: (24, .iand) :: (25, .ifCond .eq 17) :: kX7_isLeast_28
def kX7_isLeast_16 : XC := (16, .iload_n 2) :: (17, .ifCond .eq 29) :: kX7_isLeast_20
def kX7_isLeast_8 : XC := (8, .iload_n 3) :: (9, .aload_n 0) :: (10, .invokevirtual 184) :: (13, .if_icmp .ge 41) :: kX7_isLeast_16
def kX7_isLeast_0 : XC := (0, .aload_n 0) :: (1, .iload_n 1) :: (2, .invokevirtual 350) :: (5, .istore_n 2) :: (6, .iconst 0) :: (7, .istore_n 3) :: kX7_isLeast_8
def kX7_coalition_82 : XC := (82, .ireturn) :: []
def kX7_coalition_80 : XC := (80, .bipush (-3)) :: kX7_coalition_82
def kX7_coalition_76 : XC := (76, .iload_n 3) :: (77, .goto 5) :: kX7_coalition_80
def kX7_coalition_71 : XC := (71, .iload_n 2) :: (72, .iconst (-1)) :: (73, .if_icmp .ne 7) :: kX7_coalition_76
def kX7_coalition_65 : XC := (65, .iinc 4 1) :: (68, .goto (-35)) :: kX7_coalition_71
def kX7_coalition_62 : XC := (62, .iinc 3 1) :: kX7_coalition_65
def kX7_coalition_59 : XC := (59, .iload 4) :: (61, .ireturn) :: kX7_coalition_62
def kX7_coalition_54 : XC := (54, .iload_n 3) :: (55, .iload_n 2) :: (56, .if_icmp .ne 6) :: kX7_coalition_59
def kX7_coalition_51 : XC := (51, .goto 14) :: kX7_coalition_54
def kX7_coalition_42 : XC := (42, .aload_n 0) :: (43, .iload 4) :: (45, .invokevirtual 366) :: (48, .ifCond .ne 6) :: kX7_coalition_51
def kX7_coalition_33 : XC := (33, .iload 4) :: (35, .aload_n 0) :: (36, .invokevirtual 347) :: (39, .if_icmp .gt 32) :: kX7_coalition_42
def kX7_coalition_28 : XC := (28, .iconst 0) :: (29, .istore_n 3) :: (30, .iconst 0) :: (31, .istore 4) :: kX7_coalition_33
def kX7_coalition_23 : XC := (23, .aload_n 0) :: (24, .invokevirtual 363) :: (27, .ireturn) :: kX7_coalition_28
def kX7_coalition_17 : XC := (17, .iload_n 2) :: (18, .bipush (-2)) :: (20, .if_icmp .ne 8) :: kX7_coalition_23
def kX7_coalition_14 : XC := (14, .bipush (-3)) :: (16, .ireturn) :: kX7_coalition_17
def kX7_coalition_8 : XC := (8, .iload_n 2) :: (9, .bipush (-2)) :: (11, .if_icmp .ge 6) :: kX7_coalition_14
def kX7_coalition_0 : XC := (0, .aload_n 0) :: (1, .iload_n 1) :: (2, .invokevirtual 190) :: (5, .ifCond .eq 9) :: kX7_coalition_8
def kX7_costOf_52 : XC := (52, .iload_n 2) :: (53, .ireturn) :: []
def kX7_costOf_44 : XC := (44, .iadd) :: (45, .istore_n 2) :: (46, .iinc 3 1) :: (49, .goto (-45)) :: kX7_costOf_52
def kX7_costOf_43 : XC := (43, .iconst 0) :: kX7_costOf_44
def kX7_costOf_22 : XC := (22, .aload_n 0) :: (23, .iload_n 3) :: (24, .iconst 3) :: (25, .invokevirtual 187) :: (28, .aload_n 0) :: (29, .iload_n 3) :: (30, .invokevirtual 217) :: (33, .aload_n 0) :: (34, .iload_n 3) :: (35, .invokevirtual 220) :: (38, .isub) :: (39, .imul) :: (40, .goto 4) :: kX7_costOf_43
def kX7_costOf_12 : XC := (12, .iload_n 2) :: (13, .iload_n 1) :: (14, .iload_n 3) :: (15, .ishr) :: (16, .iconst 1) :: (17, .iand) :: (18, .iconst 1) :: (19, .if_icmp .ne 24) :: kX7_costOf_22
def kX7_costOf_4 : XC := (4, .iload_n 3) :: (5, .aload_n 0) :: (6, .invokevirtual 184) :: (9, .if_icmp .ge 43) :: kX7_costOf_12
def kX7_costOf_0 : XC := (0, .iconst 0) :: (1, .istore_n 2) :: (2, .iconst 0) :: (3, .istore_n 3) :: kX7_costOf_4
def kX7_bribe_123 : XC := (123, .ireturn) :: []
def kX7_bribe_121 : XC := (121, .iload 10) :: kX7_bribe_123
def kX7_bribe_116 : XC := (116, .iload 9) :: (118, .goto 5) :: kX7_bribe_121
def kX7_bribe_111 : XC := (111, .iload 7) :: (113, .ifCond .eq 8) :: kX7_bribe_116
def kX7_bribe_107 : XC := (107, .iconst (-1)) :: (108, .goto 15) :: kX7_bribe_111
def kX7_bribe_102 : XC := (102, .iload 9) :: (104, .ifCond .ge 7) :: kX7_bribe_107
def kX7_bribe_96 : XC := (96, .iinc 11 1) :: (99, .goto (-66)) :: kX7_bribe_102
def kX7_bribe_88 : XC := (88, .iload 11) :: (90, .istore 9) :: (92, .iload 12) :: (94, .istore 10) :: kX7_bribe_96
def kX7_bribe_85 : XC := (85, .goto 11) :: kX7_bribe_88
def kX7_bribe_78 : XC := (78, .iload 12) :: (80, .iload 10) :: (82, .if_icmp .lt 6) :: kX7_bribe_85
def kX7_bribe_65 : XC := (65, .aload_n 0) :: (66, .iload 11) :: (68, .invokevirtual 369) :: (71, .istore 12) :: (73, .iload 9) :: (75, .ifCond .lt 13) :: kX7_bribe_78
def kX7_bribe_62 : XC := (62, .goto 34) :: kX7_bribe_65
def kX7_bribe_50 : XC := (50, .aload_n 0) :: (51, .iload 8) :: (53, .iload 11) :: (55, .ior) :: (56, .invokevirtual 248) :: (59, .ifCond .ne 6) :: kX7_bribe_62
def kX7_bribe_42 : XC := (42, .iload 11) :: (44, .iload 8) :: (46, .iand) :: (47, .ifCond .ne 49) :: kX7_bribe_50
def kX7_bribe_33 : XC := (33, .iload 11) :: (35, .aload_n 0) :: (36, .invokevirtual 347) :: (39, .if_icmp .gt 63) :: kX7_bribe_42
def kX7_bribe_18 : XC := (18, .aload_n 0) :: (19, .invokevirtual 245) :: (22, .istore 8) :: (24, .iconst (-1)) :: (25, .istore 9) :: (27, .iconst 0) :: (28, .istore 10) :: (30, .iconst 0) :: (31, .istore 11) :: kX7_bribe_33
def kX7_bribe_16 : XC := (16, .iconst (-1)) :: (17, .ireturn) :: kX7_bribe_18
def kX7_bribe_0 : XC := (0, .aload_n 0) :: (1, .iload_n 1) :: (2, .iload_n 2) :: (3, .iload_n 3) :: (4, .iload 4) :: (6, .iload 5) :: (8, .iload 6) :: (10, .invokevirtual 241) :: (13, .ifCond .ne 5) :: kX7_bribe_16
def kX7_priceOf_18 : XC := (18, .ireturn) :: []
def kX7_priceOf_12 : XC := (12, .aload_n 0) :: (13, .iload_n 1) :: (14, .iconst 3) :: (15, .invokevirtual 187) :: kX7_priceOf_18
def kX7_priceOf_8 : XC := (8, .iconst 0) :: (9, .goto 9) :: kX7_priceOf_12
def kX7_priceOf_0 : XC := (0, .iload_n 1) :: (1, .aload_n 0) :: (2, .invokevirtual 184) :: (5, .if_icmp .ne 7) :: kX7_priceOf_8
def kX7_gainOf_80 : XC := (80, .invokevirtual 372) :: (83, .isub) :: (84, .ireturn) :: []
def kX7_gainOf_79 : XC := (79, .iload_n 2) :: kX7_gainOf_80
def kX7_gainOf_75 : XC := (75, .iload_n 1) :: (76, .goto 4) :: kX7_gainOf_79
def kX7_gainOf_70 : XC := (70, .aload_n 0) :: (71, .iload_n 3) :: (72, .ifCond .eq 7) :: kX7_gainOf_75
def kX7_gainOf_69 : XC := (69, .iconst 0) :: kX7_gainOf_70
def kX7_gainOf_64 : XC := (64, .bipush 20) :: (66, .goto 4) :: kX7_gainOf_69
def kX7_gainOf_50 : XC := (50, .aload_n 0) :: (51, .iload 4) :: (53, .invokevirtual 248) :: (56, .istore 5) :: (58, .iload 5) :: (60, .iload_n 3) :: (61, .if_icmp .ne 8) :: kX7_gainOf_64
def kX7_gainOf_40 : XC := (40, .iload 4) :: (42, .iconst 1) :: (43, .iload_n 2) :: (44, .ishl) :: (45, .iconst (-1)) :: (46, .ixor) :: (47, .iand) :: (48, .istore 4) :: kX7_gainOf_50
def kX7_gainOf_32 : XC := (32, .iload_n 2) :: (33, .aload_n 0) :: (34, .invokevirtual 184) :: (37, .if_icmp .ge 13) :: kX7_gainOf_40
def kX7_gainOf_27 : XC := (27, .iload_n 1) :: (28, .iload_n 2) :: (29, .if_icmp .eq 21) :: kX7_gainOf_32
def kX7_gainOf_19 : XC := (19, .iload 4) :: (21, .iconst 1) :: (22, .iload_n 1) :: (23, .ishl) :: (24, .ior) :: (25, .istore 4) :: kX7_gainOf_27
def kX7_gainOf_11 : XC := (11, .iload_n 1) :: (12, .aload_n 0) :: (13, .invokevirtual 184) :: (16, .if_icmp .ge 11) :: kX7_gainOf_19
def kX7_gainOf_0 : XC := (0, .aload_n 0) :: (1, .invokevirtual 245) :: (4, .istore 4) :: (6, .iload_n 1) :: (7, .iload_n 2) :: (8, .if_icmp .eq 19) :: kX7_gainOf_11
def kX7_isRest_66 : XC := (66, .iload_n 3) :: (67, .ireturn) :: []
def kX7_isRest_59 : XC := (59, .istore_n 3) :: (60, .iinc 4 1) :: (63, .goto (-58)) :: kX7_isRest_66
def kX7_isRest_58 : XC := (58, .iconst 0) :: kX7_isRest_59
def kX7_isRest_54 : XC := (54, .iconst 1) :: (55, .goto 4) :: kX7_isRest_58
def kX7_isRest_36 : XC := (36, .aload_n 0) :: (37, .iload_n 1) :: (38, .iload 4) :: (40, .iconst 0) :: (41, .invokevirtual 375) :: (44, .aload_n 0) :: (45, .iload_n 1) :: (46, .iload_n 2) :: (47, .iconst 0) :: (48, .invokevirtual 375) :: (51, .if_icmp .gt 7) :: kX7_isRest_54
def kX7_isRest_18 : XC := (18, .aload_n 0) :: (19, .iload 4) :: (21, .iload_n 2) :: (22, .iconst 1) :: (23, .invokevirtual 375) :: (26, .aload_n 0) :: (27, .iload_n 1) :: (28, .iload_n 2) :: (29, .iconst 1) :: (30, .invokevirtual 375) :: (33, .if_icmp .gt 25) :: kX7_isRest_36
def kX7_isRest_14 : XC := (14, .iload_n 3) :: (15, .ifCond .eq 43) :: kX7_isRest_18
def kX7_isRest_5 : XC := (5, .iload 4) :: (7, .aload_n 0) :: (8, .invokevirtual 184) :: (11, .if_icmp .gt 55) :: kX7_isRest_14
def kX7_isRest_0 : XC := (0, .iconst 1) :: (1, .istore_n 3) :: (2, .iconst 0) :: (3, .istore 4) :: kX7_isRest_5
def kX7_lobby_108 : XC := (108, .ireturn) :: []
def kX7_lobby_107 : XC := (107, .iconst (-1)) :: kX7_lobby_108
def kX7_lobby_102 : XC := (102, .iload 8) :: (104, .goto 4) :: kX7_lobby_107
def kX7_lobby_96 : XC := (96, .iload 7) :: (98, .iconst (-1)) :: (99, .if_icmp .ne 8) :: kX7_lobby_102
def kX7_lobby_90 : XC := (90, .iinc 9 1) :: (93, .goto (-63)) :: kX7_lobby_96
def kX7_lobby_84 : XC := (84, .iinc 10 1) :: (87, .goto (-45)) :: kX7_lobby_90
def kX7_lobby_81 : XC := (81, .iinc 8 1) :: kX7_lobby_84
def kX7_lobby_72 : XC := (72, .bipush 7) :: (74, .iload 9) :: (76, .imul) :: (77, .iload 10) :: (79, .iadd) :: (80, .ireturn) :: kX7_lobby_81
def kX7_lobby_65 : XC := (65, .iload 8) :: (67, .iload 7) :: (69, .if_icmp .ne 12) :: kX7_lobby_72
def kX7_lobby_62 : XC := (62, .goto 22) :: kX7_lobby_65
def kX7_lobby_51 : XC := (51, .aload_n 0) :: (52, .iload 9) :: (54, .iload 10) :: (56, .invokevirtual 378) :: (59, .ifCond .ne 6) :: kX7_lobby_62
def kX7_lobby_42 : XC := (42, .iload 10) :: (44, .aload_n 0) :: (45, .invokevirtual 184) :: (48, .if_icmp .gt 42) :: kX7_lobby_51
def kX7_lobby_39 : XC := (39, .iconst 0) :: (40, .istore 10) :: kX7_lobby_42
def kX7_lobby_30 : XC := (30, .iload 9) :: (32, .aload_n 0) :: (33, .invokevirtual 184) :: (36, .if_icmp .gt 60) :: kX7_lobby_39
def kX7_lobby_24 : XC := (24, .iconst 0) :: (25, .istore 8) :: (27, .iconst 0) :: (28, .istore 9) :: kX7_lobby_30
def kX7_lobby_22 : XC := (22, .iconst (-1)) :: (23, .ireturn) :: kX7_lobby_24
def kX7_lobby_16 : XC := (16, .iload 7) :: (18, .iconst (-1)) :: (19, .if_icmp .ge 5) :: kX7_lobby_22
def kX7_lobby_0 : XC := (0, .aload_n 0) :: (1, .iload_n 1) :: (2, .iload_n 2) :: (3, .iload_n 3) :: (4, .iload 4) :: (6, .iload 5) :: (8, .iload 6) :: (10, .invokevirtual 241) :: (13, .ifCond .eq 9) :: kX7_lobby_16
def kX7_bargain_184 : XC := (184, .ireturn) :: []
def kX7_bargain_182 : XC := (182, .iload 5) :: kX7_bargain_184
def kX7_bargain_177 : XC := (177, .iload 6) :: (179, .goto 5) :: kX7_bargain_182
def kX7_bargain_171 : XC := (171, .iload_n 3) :: (172, .bipush 10) :: (174, .if_icmp .ne 8) :: kX7_bargain_177
def kX7_bargain_165 : XC := (165, .iinc 7 1) :: (168, .goto (-99)) :: kX7_bargain_171
def kX7_bargain_160 : XC := (160, .istore 6) :: (162, .iinc 5 1) :: kX7_bargain_165
def kX7_bargain_158 : XC := (158, .iload 6) :: kX7_bargain_160
def kX7_bargain_153 : XC := (153, .iload 7) :: (155, .goto 5) :: kX7_bargain_158
def kX7_bargain_148 : XC := (148, .iload 5) :: (150, .ifCond .ne 8) :: kX7_bargain_153
def kX7_bargain_145 : XC := (145, .goto 20) :: kX7_bargain_148
def kX7_bargain_138 : XC := (138, .iload 8) :: (140, .bipush 100) :: (142, .if_icmp .lt 6) :: kX7_bargain_145
def kX7_bargain_129 : XC := (129, .aload_n 0) :: (130, .iload 7) :: (132, .invokevirtual 350) :: (135, .ifCond .eq 30) :: kX7_bargain_138
def kX7_bargain_120 : XC := (120, .iadd) :: (121, .istore 8) :: (123, .iinc 9 1) :: (126, .goto (-42)) :: kX7_bargain_129
def kX7_bargain_119 : XC := (119, .iconst 0) :: kX7_bargain_120
def kX7_bargain_106 : XC := (106, .aload_n 0) :: (107, .getfield 7) :: (110, .iload 4) :: (112, .iload 9) :: (114, .iadd) :: (115, .iaload) :: (116, .goto 4) :: kX7_bargain_119
def kX7_bargain_93 : XC := (93, .iload 8) :: (95, .iload 7) :: (97, .iload 9) :: (99, .ishr) :: (100, .iconst 1) :: (101, .iand) :: (102, .iconst 1) :: (103, .if_icmp .ne 16) :: kX7_bargain_106
def kX7_bargain_84 : XC := (84, .iload 9) :: (86, .aload_n 0) :: (87, .invokevirtual 184) :: (90, .if_icmp .ge 39) :: kX7_bargain_93
def kX7_bargain_78 : XC := (78, .iconst 0) :: (79, .istore 8) :: (81, .iconst 0) :: (82, .istore 9) :: kX7_bargain_84
def kX7_bargain_69 : XC := (69, .iload 7) :: (71, .aload_n 0) :: (72, .invokevirtual 347) :: (75, .if_icmp .gt 96) :: kX7_bargain_78
def kX7_bargain_60 : XC := (60, .iconst 0) :: (61, .istore 5) :: (63, .iconst (-1)) :: (64, .istore 6) :: (66, .iconst 0) :: (67, .istore 7) :: kX7_bargain_69
def kX7_bargain_57 : XC := (57, .bipush (-2)) :: (59, .ireturn) :: kX7_bargain_60
def kX7_bargain_46 : XC := (46, .iload_n 3) :: (47, .bipush 10) :: (49, .bipush 11) :: (51, .invokestatic 93) :: (54, .ifCond .ne 6) :: kX7_bargain_57
def kX7_bargain_36 : XC := (36, .aload_n 0) :: (37, .getfield 7) :: (40, .iload 4) :: (42, .iload_n 3) :: (43, .iadd) :: (44, .iaload) :: (45, .ireturn) :: kX7_bargain_46
def kX7_bargain_20 : XC := (20, .iconst 5) :: (21, .iload_n 2) :: (22, .invokestatic 172) :: (25, .istore 4) :: (27, .iload_n 3) :: (28, .iconst 0) :: (29, .iconst 5) :: (30, .invokestatic 93) :: (33, .ifCond .eq 13) :: kX7_bargain_36
def kX7_bargain_17 : XC := (17, .bipush (-2)) :: (19, .ireturn) :: kX7_bargain_20
def kX7_bargain_9 : XC := (9, .aload_n 0) :: (10, .iload_n 1) :: (11, .invokevirtual 190) :: (14, .ifCond .ne 6) :: kX7_bargain_17
def kX7_bargain_0 : XC := (0, .aload_n 0) :: (1, .iconst 5) :: (2, .iload_n 2) :: (3, .invokevirtual 144) :: (6, .ifCond .eq 11) :: kX7_bargain_9
def kX7_isSummer_11 : XC := (11, .aload_n 0) :: (12, .iconst 4) :: (13, .iload_n 1) :: (14, .invokestatic 172) :: (17, .putfield 381) :: (20, .iconst 1) :: (21, .ireturn) :: []
def kX7_isSummer_9 : XC := (9, .iconst 0) :: (10, .ireturn) :: kX7_isSummer_11
def kX7_isSummer_0 : XC := (0, .aload_n 0) :: (1, .iconst 4) :: (2, .iload_n 1) :: (3, .invokevirtual 144) :: (6, .ifCond .ne 5) :: kX7_isSummer_9
def kX7_summerDays_0 : XC := (0, .aload_n 0) :: (1, .getfield 7) :: (4, .aload_n 0) :: (5, .getfield 381) :: (8, .iaload) :: (9, .ireturn) :: []
def kX7_dayOf_0 : XC := (0, .aload_n 0) :: (1, .getfield 7) :: (4, .aload_n 0) :: (5, .getfield 381) :: (8, .iconst 1) :: (9, .iadd) :: (10, .iconst 4) :: (11, .iload_n 1) :: (12, .imul) :: (13, .iadd) :: (14, .iload_n 2) :: (15, .iadd) :: (16, .iaload) :: (17, .ireturn) :: []
def kX7_numberOf_0 : XC := (0, .bipush 100) :: (2, .aload_n 0) :: (3, .iload_n 1) :: (4, .iconst 1) :: (5, .invokevirtual 384) :: (8, .imul) :: (9, .bipush 10) :: (11, .aload_n 0) :: (12, .iload_n 1) :: (13, .iconst 2) :: (14, .invokevirtual 384) :: (17, .imul) :: (18, .iadd) :: (19, .aload_n 0) :: (20, .iload_n 1) :: (21, .iconst 3) :: (22, .invokevirtual 384) :: (25, .iadd) :: (26, .ireturn) :: []
def kX7_was_64 : XC := (64, .ireturn) :: []
def kX7_was_62 : XC := (62, .bipush (-2)) :: kX7_was_64
def kX7_was_53 : XC := (53, .aload_n 0) :: (54, .iload_n 2) :: (55, .iload_n 3) :: (56, .invokevirtual 384) :: (59, .goto 5) :: kX7_was_62
def kX7_was_44 : XC := (44, .iload_n 3) :: (45, .iconst 0) :: (46, .iconst 3) :: (47, .invokestatic 93) :: (50, .ifCond .eq 12) :: kX7_was_53
def kX7_was_30 : XC := (30, .iload_n 2) :: (31, .iconst 0) :: (32, .aload_n 0) :: (33, .invokevirtual 390) :: (36, .iconst 1) :: (37, .isub) :: (38, .invokestatic 93) :: (41, .ifCond .eq 21) :: kX7_was_44
def kX7_was_29 : XC := (29, .ireturn) :: kX7_was_30
def kX7_was_27 : XC := (27, .bipush (-2)) :: kX7_was_29
def kX7_was_20 : XC := (20, .aload_n 0) :: (21, .invokevirtual 390) :: (24, .goto 5) :: kX7_was_27
def kX7_was_16 : XC := (16, .iload_n 3) :: (17, .ifCond .ne 10) :: kX7_was_20
def kX7_was_11 : XC := (11, .iload_n 2) :: (12, .iconst (-1)) :: (13, .if_icmp .ne 17) :: kX7_was_16
def kX7_was_8 : XC := (8, .bipush (-2)) :: (10, .ireturn) :: kX7_was_11
def kX7_was_0 : XC := (0, .aload_n 0) :: (1, .iload_n 1) :: (2, .invokevirtual 387) :: (5, .ifCond .ne 6) :: kX7_was_8
def kX7_wrongDay_38 : XC := (38, .iconst (-1)) :: (39, .ireturn) :: []
def kX7_wrongDay_28 : XC := (28, .aload_n 0) :: (29, .invokevirtual 296) :: (32, .iinc 1 1) :: (35, .goto (-33)) :: kX7_wrongDay_38
def kX7_wrongDay_26 : XC := (26, .iload_n 1) :: (27, .ireturn) :: kX7_wrongDay_28
def kX7_wrongDay_10 : XC := (10, .aload_n 0) :: (11, .aload_n 0) :: (12, .iload_n 1) :: (13, .invokevirtual 393) :: (16, .invokevirtual 238) :: (19, .aload_n 0) :: (20, .invokevirtual 317) :: (23, .ifCond .ne 5) :: kX7_wrongDay_26
def kX7_wrongDay_2 : XC := (2, .iload_n 1) :: (3, .aload_n 0) :: (4, .invokevirtual 390) :: (7, .if_icmp .ge 31) :: kX7_wrongDay_10
def kX7_wrongDay_0 : XC := (0, .iconst 0) :: (1, .istore_n 1) :: kX7_wrongDay_2
def kX7_isHeatRight_60 : XC := (60, .iload_n 2) :: (61, .ireturn) :: []
def kX7_isHeatRight_53 : XC := (53, .istore_n 2) :: (54, .iinc 3 1) :: (57, .goto (-47)) :: kX7_isHeatRight_60
def kX7_isHeatRight_52 : XC := (52, .iconst 0) :: kX7_isHeatRight_53
def kX7_isHeatRight_48 : XC := (48, .iconst 1) :: (49, .goto 4) :: kX7_isHeatRight_52
def kX7_isHeatRight_38 : XC := (38, .iload_n 1) :: (39, .iconst 0) :: (40, .bipush 99) :: (42, .invokestatic 93) :: (45, .ifCond .eq 7) :: kX7_isHeatRight_48
def kX7_isHeatRight_18 : XC := (18, .iload_n 1) :: (19, .aload_n 0) :: (20, .iload_n 3) :: (21, .iconst 3) :: (22, .invokevirtual 384) :: (25, .aload_n 0) :: (26, .iload_n 3) :: (27, .iconst 2) :: (28, .invokevirtual 384) :: (31, .isub) :: (32, .iadd) :: (33, .istore_n 1) :: (34, .iload_n 2) :: (35, .ifCond .eq 17) :: kX7_isHeatRight_38
def kX7_isHeatRight_10 : XC := (10, .iload_n 3) :: (11, .aload_n 0) :: (12, .invokevirtual 390) :: (15, .if_icmp .ge 45) :: kX7_isHeatRight_18
def kX7_isHeatRight_0 : XC := (0, .aload_n 0) :: (1, .iconst 5) :: (2, .invokevirtual 181) :: (5, .istore_n 1) :: (6, .iconst 1) :: (7, .istore_n 2) :: (8, .iconst 0) :: (9, .istore_n 3) :: kX7_isHeatRight_10
def kX7_cloudAfter_39 : XC := (39, .istore 5) :: (41, .iload_n 1) :: (42, .iload_n 2) :: (43, .isub) :: (44, .iload 5) :: (46, .iadd) :: (47, .ireturn) :: []
def kX7_cloudAfter_37 : XC := (37, .iload 4) :: kX7_cloudAfter_39
def kX7_cloudAfter_28 : XC := (28, .aload_n 0) :: (29, .iload_n 3) :: (30, .iconst 3) :: (31, .invokevirtual 384) :: (34, .goto 5) :: kX7_cloudAfter_37
def kX7_cloudAfter_0 : XC := (0, .aload_n 0) :: (1, .iconst 3) :: (2, .invokevirtual 181) :: (5, .aload_n 0) :: (6, .iconst 4) :: (7, .invokevirtual 181) :: (10, .iadd) :: (11, .iload_n 1) :: (12, .isub) :: (13, .iload_n 2) :: (14, .iadd) :: (15, .istore 4) :: (17, .aload_n 0) :: (18, .iload_n 3) :: (19, .iconst 3) :: (20, .invokevirtual 384) :: (23, .iload 4) :: (25, .if_icmp .ge 12) :: kX7_cloudAfter_28
def kX7_mends_164 : XC := (164, .return_) :: []
def kX7_mends_158 : XC := (158, .iinc 2 (-1)) :: (161, .goto (-124)) :: kX7_mends_164
def kX7_mends_138 : XC := (138, .aload_n 0) :: (139, .getfield 26) :: (142, .sipush 199) :: (145, .iload_n 2) :: (146, .imul) :: (147, .iload_n 3) :: (148, .iadd) :: (149, .iload 4) :: (151, .iastore) :: (152, .iinc 3 1) :: (155, .goto (-112)) :: kX7_mends_158
def kX7_mends_130 : XC := (130, .istore 4) :: (132, .iinc 5 1) :: (135, .goto (-69)) :: kX7_mends_138
def kX7_mends_128 : XC := (128, .iload 4) :: kX7_mends_130
def kX7_mends_123 : XC := (123, .iload 6) :: (125, .goto 5) :: kX7_mends_128
def kX7_mends_83 : XC := (83, .aload_n 0) :: (84, .iload_n 2) :: (85, .iconst 1) :: (86, .invokevirtual 384) :: (89, .iload 5) :: (91, .isub) :: (92, .aload_n 0) :: (93, .getfield 26) :: (96, .sipush 199) :: (99, .iload_n 2) :: (100, .iconst 1) :: (101, .iadd) :: (102, .imul) :: (103, .aload_n 0) :: (104, .iload_n 3) :: (105, .iload 5) :: (107, .iload_n 2) :: (108, .invokevirtual 396) :: (111, .iadd) :: (112, .iaload) :: (113, .iadd) :: (114, .istore 6) :: (116, .iload 6) :: (118, .iload 4) :: (120, .if_icmp .ge 8) :: kX7_mends_123
def kX7_mends_77 : XC := (77, .iload 5) :: (79, .iload_n 3) :: (80, .if_icmp .gt 58) :: kX7_mends_83
def kX7_mends_66 : XC := (66, .iload 5) :: (68, .aload_n 0) :: (69, .iload_n 2) :: (70, .iconst 1) :: (71, .invokevirtual 384) :: (74, .if_icmp .gt 64) :: kX7_mends_77
def kX7_mends_58 : XC := (58, .sipush 1000) :: (61, .istore 4) :: (63, .iconst 0) :: (64, .istore 5) :: kX7_mends_66
def kX7_mends_43 : XC := (43, .iload_n 3) :: (44, .aload_n 0) :: (45, .iconst 3) :: (46, .invokevirtual 181) :: (49, .aload_n 0) :: (50, .iconst 4) :: (51, .invokevirtual 181) :: (54, .iadd) :: (55, .if_icmp .gt 103) :: kX7_mends_58
def kX7_mends_41 : XC := (41, .iconst 0) :: (42, .istore_n 3) :: kX7_mends_43
def kX7_mends_37 : XC := (37, .iload_n 2) :: (38, .ifCond .lt 126) :: kX7_mends_41
def kX7_mends_33 : XC := (33, .iload_n 1) :: (34, .iconst 1) :: (35, .isub) :: (36, .istore_n 2) :: kX7_mends_37
def kX7_mends_14 : XC := (14, .aload_n 0) :: (15, .getfield 26) :: (18, .sipush 199) :: (21, .iload_n 1) :: (22, .imul) :: (23, .iload_n 2) :: (24, .iadd) :: (25, .iconst 0) :: (26, .iastore) :: (27, .iinc 2 1) :: (30, .goto (-23)) :: kX7_mends_33
def kX7_mends_7 : XC := (7, .iload_n 2) :: (8, .sipush 199) :: (11, .if_icmp .ge 22) :: kX7_mends_14
def kX7_mends_0 : XC := (0, .aload_n 0) :: (1, .invokevirtual 390) :: (4, .istore_n 1) :: (5, .iconst 0) :: (6, .istore_n 2) :: kX7_mends_7
def kX7_fallsOn_109 : XC := (109, .iload_n 3) :: (110, .ireturn) :: []
def kX7_fallsOn_94 : XC := (94, .aload_n 0) :: (95, .iload_n 2) :: (96, .iload_n 3) :: (97, .iload 4) :: (99, .invokevirtual 396) :: (102, .istore_n 2) :: (103, .iinc 4 1) :: (106, .goto (-95)) :: kX7_fallsOn_109
def kX7_fallsOn_88 : XC := (88, .iinc 3 (-1)) :: (91, .goto (-51)) :: kX7_fallsOn_94
def kX7_fallsOn_40 : XC := (40, .aload_n 0) :: (41, .iload 4) :: (43, .iconst 1) :: (44, .invokevirtual 384) :: (47, .iload_n 3) :: (48, .isub) :: (49, .aload_n 0) :: (50, .getfield 26) :: (53, .sipush 199) :: (56, .iload 4) :: (58, .iconst 1) :: (59, .iadd) :: (60, .imul) :: (61, .aload_n 0) :: (62, .iload_n 2) :: (63, .iload_n 3) :: (64, .iload 4) :: (66, .invokevirtual 396) :: (69, .iadd) :: (70, .iaload) :: (71, .iadd) :: (72, .aload_n 0) :: (73, .getfield 26) :: (76, .sipush 199) :: (79, .iload 4) :: (81, .imul) :: (82, .iload_n 2) :: (83, .iadd) :: (84, .iaload) :: (85, .if_icmp .le 9) :: kX7_fallsOn_88
def kX7_fallsOn_39 : XC := (39, .istore_n 3) :: kX7_fallsOn_40
def kX7_fallsOn_38 : XC := (38, .iload_n 2) :: kX7_fallsOn_39
def kX7_fallsOn_28 : XC := (28, .aload_n 0) :: (29, .iload 4) :: (31, .iconst 1) :: (32, .invokevirtual 384) :: (35, .goto 4) :: kX7_fallsOn_38
def kX7_fallsOn_17 : XC := (17, .aload_n 0) :: (18, .iload 4) :: (20, .iconst 1) :: (21, .invokevirtual 384) :: (24, .iload_n 2) :: (25, .if_icmp .ge 13) :: kX7_fallsOn_28
def kX7_fallsOn_11 : XC := (11, .iload 4) :: (13, .iload_n 1) :: (14, .if_icmp .gt 95) :: kX7_fallsOn_17
def kX7_fallsOn_0 : XC := (0, .aload_n 0) :: (1, .iconst 3) :: (2, .invokevirtual 181) :: (5, .istore_n 2) :: (6, .iconst 0) :: (7, .istore_n 3) :: (8, .iconst 0) :: (9, .istore 4) :: kX7_fallsOn_11
def kX7_nature_105 : XC := (105, .ireturn) :: []
def kX7_nature_97 : XC := (97, .aload_n 0) :: (98, .iload_n 3) :: (99, .bipush 10) :: (101, .isub) :: (102, .invokevirtual 408) :: kX7_nature_105
def kX7_nature_84 : XC := (84, .aload_n 0) :: (85, .getfield 26) :: (88, .aload_n 0) :: (89, .iconst 3) :: (90, .invokevirtual 181) :: (93, .iaload) :: (94, .goto 11) :: kX7_nature_97
def kX7_nature_75 : XC := (75, .aload_n 0) :: (76, .invokevirtual 405) :: (79, .iload_n 3) :: (80, .iconst 1) :: (81, .if_icmp .ne 16) :: kX7_nature_84
def kX7_nature_72 : XC := (72, .bipush (-2)) :: (74, .ireturn) :: kX7_nature_75
def kX7_nature_56 : XC := (56, .iload_n 3) :: (57, .bipush 10) :: (59, .bipush 9) :: (61, .aload_n 0) :: (62, .invokevirtual 390) :: (65, .iadd) :: (66, .invokestatic 93) :: (69, .ifCond .ne 6) :: kX7_nature_72
def kX7_nature_51 : XC := (51, .iload 4) :: (53, .ifCond .eq 19) :: kX7_nature_56
def kX7_nature_46 : XC := (46, .iload_n 3) :: (47, .iconst 1) :: (48, .if_icmp .eq 27) :: kX7_nature_51
def kX7_nature_44 : XC := (44, .iconst (-1)) :: (45, .ireturn) :: kX7_nature_46
def kX7_nature_39 : XC := (39, .iload 4) :: (41, .ifCond .ne 5) :: kX7_nature_44
def kX7_nature_28 : XC := (28, .aload_n 0) :: (29, .invokevirtual 402) :: (32, .istore 4) :: (34, .iload_n 3) :: (35, .iconst 1) :: (36, .if_icmp .ne 10) :: kX7_nature_39
def kX7_nature_23 : XC := (23, .aload_n 0) :: (24, .invokevirtual 399) :: (27, .ireturn) :: kX7_nature_28
def kX7_nature_19 : XC := (19, .iload_n 3) :: (20, .ifCond .ne 8) :: kX7_nature_23
def kX7_nature_16 : XC := (16, .bipush (-2)) :: (18, .ireturn) :: kX7_nature_19
def kX7_nature_8 : XC := (8, .aload_n 0) :: (9, .iload_n 2) :: (10, .invokevirtual 387) :: (13, .ifCond .ne 6) :: kX7_nature_16
def kX7_nature_0 : XC := (0, .aload_n 0) :: (1, .iload_n 1) :: (2, .invokevirtual 190) :: (5, .ifCond .eq 11) :: kX7_nature_8
def kX7_areSeats_66 : XC := (66, .ireturn) :: []
def kX7_areSeats_65 : XC := (65, .iconst 0) :: kX7_areSeats_66
def kX7_areSeats_61 : XC := (61, .iconst 1) :: (62, .goto 4) :: kX7_areSeats_65
def kX7_areSeats_55 : XC := (55, .iload_n 2) :: (56, .iload 4) :: (58, .if_icmp .eq 7) :: kX7_areSeats_61
def kX7_areSeats_49 : XC := (49, .iload_n 3) :: (50, .iload 4) :: (52, .if_icmp .eq 13) :: kX7_areSeats_55
def kX7_areSeats_44 : XC := (44, .iload_n 2) :: (45, .iload_n 3) :: (46, .if_icmp .eq 19) :: kX7_areSeats_49
def kX7_areSeats_35 : XC := (35, .aload_n 0) :: (36, .iload 4) :: (38, .invokevirtual 193) :: (41, .ifCond .eq 24) :: kX7_areSeats_44
def kX7_areSeats_27 : XC := (27, .aload_n 0) :: (28, .iload_n 3) :: (29, .invokevirtual 193) :: (32, .ifCond .eq 33) :: kX7_areSeats_35
def kX7_areSeats_0 : XC := (0, .iload_n 1) :: (1, .bipush 36) :: (3, .idiv) :: (4, .istore_n 2) :: (5, .iload_n 1) :: (6, .bipush 6) :: (8, .idiv) :: (9, .bipush 6) :: (11, .irem) :: (12, .istore_n 3) :: (13, .iload_n 1) :: (14, .bipush 6) :: (16, .irem) :: (17, .istore 4) :: (19, .aload_n 0) :: (20, .iload_n 2) :: (21, .invokevirtual 193) :: (24, .ifCond .eq 41) :: kX7_areSeats_27
def kX7_proposal_0 : XC := (0, .bipush 100) :: (2, .aload_n 0) :: (3, .iload_n 1) :: (4, .bipush 36) :: (6, .idiv) :: (7, .iload_n 2) :: (8, .iconst 0) :: (9, .invokevirtual 208) :: (12, .imul) :: (13, .bipush 10) :: (15, .aload_n 0) :: (16, .iload_n 1) :: (17, .bipush 6) :: (19, .idiv) :: (20, .bipush 6) :: (22, .irem) :: (23, .iload_n 2) :: (24, .iconst 1) :: (25, .invokevirtual 208) :: (28, .imul) :: (29, .iadd) :: (30, .aload_n 0) :: (31, .iload_n 1) :: (32, .bipush 6) :: (34, .irem) :: (35, .iload_n 2) :: (36, .iconst 2) :: (37, .invokevirtual 208) :: (40, .iadd) :: (41, .ireturn) :: []
def kX7_isSat_51 : XC := (51, .iload_n 2) :: (52, .ireturn) :: []
def kX7_isSat_44 : XC := (44, .istore_n 2) :: (45, .iinc 3 1) :: (48, .goto (-40)) :: kX7_isSat_51
def kX7_isSat_43 : XC := (43, .iconst 0) :: kX7_isSat_44
def kX7_isSat_39 : XC := (39, .iconst 1) :: (40, .goto 4) :: kX7_isSat_43
def kX7_isSat_20 : XC := (20, .aload_n 0) :: (21, .iload_n 1) :: (22, .aload_n 0) :: (23, .iload_n 3) :: (24, .iconst 0) :: (25, .invokevirtual 384) :: (28, .invokevirtual 414) :: (31, .aload_n 0) :: (32, .iload_n 3) :: (33, .invokevirtual 393) :: (36, .if_icmp .ne 7) :: kX7_isSat_39
def kX7_isSat_16 : XC := (16, .iload_n 2) :: (17, .ifCond .eq 34) :: kX7_isSat_20
def kX7_isSat_8 : XC := (8, .iload_n 3) :: (9, .aload_n 0) :: (10, .invokevirtual 390) :: (13, .if_icmp .ge 38) :: kX7_isSat_16
def kX7_isSat_0 : XC := (0, .aload_n 0) :: (1, .iload_n 1) :: (2, .invokevirtual 411) :: (5, .istore_n 2) :: (6, .iconst 0) :: (7, .istore_n 3) :: kX7_isSat_8
def kX7_unlike_84 : XC := (84, .iload_n 2) :: (85, .ireturn) :: []
def kX7_unlike_78 : XC := (78, .iinc 3 1) :: (81, .goto (-55)) :: kX7_unlike_84
def kX7_unlike_68 : XC := (68, .iadd) :: (69, .istore_n 2) :: (70, .aload_n 0) :: (71, .getfield 29) :: (74, .iload 4) :: (76, .iconst 1) :: (77, .bastore) :: kX7_unlike_78
def kX7_unlike_67 : XC := (67, .iconst 1) :: kX7_unlike_68
def kX7_unlike_63 : XC := (63, .iconst 0) :: (64, .goto 4) :: kX7_unlike_67
def kX7_unlike_44 : XC := (44, .aload_n 0) :: (45, .iload_n 3) :: (46, .iload_n 1) :: (47, .invokevirtual 414) :: (50, .istore 4) :: (52, .iload_n 2) :: (53, .aload_n 0) :: (54, .getfield 29) :: (57, .iload 4) :: (59, .baload) :: (60, .ifCond .eq 7) :: kX7_unlike_63
def kX7_unlike_41 : XC := (41, .goto 37) :: kX7_unlike_44
def kX7_unlike_33 : XC := (33, .aload_n 0) :: (34, .iload_n 3) :: (35, .invokevirtual 417) :: (38, .ifCond .ne 6) :: kX7_unlike_41
def kX7_unlike_26 : XC := (26, .iload_n 3) :: (27, .sipush 216) :: (30, .if_icmp .ge 54) :: kX7_unlike_33
def kX7_unlike_22 : XC := (22, .iconst 0) :: (23, .istore_n 2) :: (24, .iconst 0) :: (25, .istore_n 3) :: kX7_unlike_26
def kX7_unlike_9 : XC := (9, .aload_n 0) :: (10, .getfield 29) :: (13, .iload_n 2) :: (14, .iconst 0) :: (15, .bastore) :: (16, .iinc 2 1) :: (19, .goto (-17)) :: kX7_unlike_22
def kX7_unlike_2 : XC := (2, .iload_n 2) :: (3, .sipush 1000) :: (6, .if_icmp .ge 16) :: kX7_unlike_9
def kX7_unlike_0 : XC := (0, .iconst 0) :: (1, .istore_n 2) :: kX7_unlike_2
def kX7_seats_159 : XC := (159, .ireturn) :: []
def kX7_seats_157 : XC := (157, .bipush (-4)) :: kX7_seats_159
def kX7_seats_152 : XC := (152, .iload 4) :: (154, .goto 5) :: kX7_seats_157
def kX7_seats_147 : XC := (147, .iload_n 3) :: (148, .iconst (-1)) :: (149, .if_icmp .ne 8) :: kX7_seats_152
def kX7_seats_141 : XC := (141, .iinc 5 1) :: (144, .goto (-35)) :: kX7_seats_147
def kX7_seats_138 : XC := (138, .iinc 4 1) :: kX7_seats_141
def kX7_seats_135 : XC := (135, .iload 5) :: (137, .ireturn) :: kX7_seats_138
def kX7_seats_129 : XC := (129, .iload 4) :: (131, .iload_n 3) :: (132, .if_icmp .ne 6) :: kX7_seats_135
def kX7_seats_126 : XC := (126, .goto 15) :: kX7_seats_129
def kX7_seats_117 : XC := (117, .aload_n 0) :: (118, .iload 5) :: (120, .invokevirtual 417) :: (123, .ifCond .ne 6) :: kX7_seats_126
def kX7_seats_109 : XC := (109, .iload 5) :: (111, .sipush 216) :: (114, .if_icmp .ge 33) :: kX7_seats_117
def kX7_seats_103 : XC := (103, .iconst 0) :: (104, .istore 4) :: (106, .iconst 0) :: (107, .istore 5) :: kX7_seats_109
def kX7_seats_102 : XC := (102, .ireturn) :: kX7_seats_103
def kX7_seats_96 : XC := (96, .aload_n 0) :: (97, .iload 4) :: (99, .invokevirtual 420) :: kX7_seats_102
def kX7_seats_91 : XC := (91, .iload 4) :: (93, .goto 9) :: kX7_seats_96
def kX7_seats_85 : XC := (85, .iload_n 3) :: (86, .bipush (-2)) :: (88, .if_icmp .ne 8) :: kX7_seats_91
def kX7_seats_81 : XC := (81, .iconst (-1)) :: (82, .goto 20) :: kX7_seats_85
def kX7_seats_72 : XC := (72, .aload_n 0) :: (73, .iload 4) :: (75, .invokevirtual 420) :: (78, .ifCond .ne 7) :: kX7_seats_81
def kX7_seats_64 : XC := (64, .istore 4) :: (66, .iinc 5 1) :: (69, .goto (-33)) :: kX7_seats_72
def kX7_seats_62 : XC := (62, .iload 4) :: kX7_seats_64
def kX7_seats_57 : XC := (57, .iload 5) :: (59, .goto 5) :: kX7_seats_62
def kX7_seats_42 : XC := (42, .aload_n 0) :: (43, .iload 5) :: (45, .invokevirtual 420) :: (48, .aload_n 0) :: (49, .iload 4) :: (51, .invokevirtual 420) :: (54, .if_icmp .le 8) :: kX7_seats_57
def kX7_seats_36 : XC := (36, .iload 5) :: (38, .iconst 4) :: (39, .if_icmp .ge 33) :: kX7_seats_42
def kX7_seats_30 : XC := (30, .iconst 0) :: (31, .istore 4) :: (33, .iconst 1) :: (34, .istore 5) :: kX7_seats_36
def kX7_seats_25 : XC := (25, .iload_n 3) :: (26, .iconst (-1)) :: (27, .if_icmp .ge 76) :: kX7_seats_30
def kX7_seats_22 : XC := (22, .bipush (-4)) :: (24, .ireturn) :: kX7_seats_25
def kX7_seats_16 : XC := (16, .iload_n 3) :: (17, .bipush (-3)) :: (19, .if_icmp .ge 6) :: kX7_seats_22
def kX7_seats_8 : XC := (8, .aload_n 0) :: (9, .iload_n 2) :: (10, .invokevirtual 387) :: (13, .ifCond .eq 9) :: kX7_seats_16
def kX7_seats_0 : XC := (0, .aload_n 0) :: (1, .iload_n 1) :: (2, .invokevirtual 190) :: (5, .ifCond .eq 17) :: kX7_seats_8
def kX7_rainy_75 : XC := (75, .iload_n 2) :: (76, .ireturn) :: []
def kX7_rainy_60 : XC := (60, .iadd) :: (61, .istore_n 2) :: (62, .aload_n 0) :: (63, .dup) :: (64, .getfield 205) :: (67, .iconst 1) :: (68, .iadd) :: (69, .putfield 205) :: (72, .goto (-57)) :: kX7_rainy_75
def kX7_rainy_59 : XC := (59, .iconst 0) :: kX7_rainy_60
def kX7_rainy_55 : XC := (55, .iconst 1) :: (56, .goto 4) :: kX7_rainy_59
def kX7_rainy_44 : XC := (44, .aload_n 0) :: (45, .aload_n 0) :: (46, .invokevirtual 245) :: (49, .invokevirtual 248) :: (52, .ifCond .eq 7) :: kX7_rainy_55
def kX7_rainy_23 : XC := (23, .aload_n 0) :: (24, .aload_n 0) :: (25, .iload_n 1) :: (26, .aload_n 0) :: (27, .getfield 205) :: (30, .invokevirtual 414) :: (33, .invokevirtual 238) :: (36, .iload_n 2) :: (37, .aload_n 0) :: (38, .getfield 196) :: (41, .ifCond .le 18) :: kX7_rainy_44
def kX7_rainy_15 : XC := (15, .aload_n 0) :: (16, .getfield 205) :: (19, .iconst 4) :: (20, .if_icmp .ge 55) :: kX7_rainy_23
def kX7_rainy_0 : XC := (0, .iconst 0) :: (1, .istore_n 2) :: (2, .aload_n 0) :: (3, .iload_n 1) :: (4, .bipush 36) :: (6, .idiv) :: (7, .putfield 214) :: (10, .aload_n 0) :: (11, .iconst 0) :: (12, .putfield 205) :: kX7_rainy_15
def kX7_reshuffle_92 : XC := (92, .ireturn) :: []
def kX7_reshuffle_91 : XC := (91, .iload_n 3) :: kX7_reshuffle_92
def kX7_reshuffle_86 : XC := (86, .iload 4) :: (88, .goto 4) :: kX7_reshuffle_91
def kX7_reshuffle_82 : XC := (82, .iload_n 2) :: (83, .ifCond .eq 8) :: kX7_reshuffle_86
def kX7_reshuffle_76 : XC := (76, .iinc 5 1) :: (79, .goto (-61)) :: kX7_reshuffle_82
def kX7_reshuffle_74 : XC := (74, .istore 4) :: kX7_reshuffle_76
def kX7_reshuffle_72 : XC := (72, .iload 4) :: kX7_reshuffle_74
def kX7_reshuffle_67 : XC := (67, .iload 6) :: (69, .goto 5) :: kX7_reshuffle_72
def kX7_reshuffle_59 : XC := (59, .istore_n 3) :: (60, .iload 6) :: (62, .iload 4) :: (64, .if_icmp .le 8) :: kX7_reshuffle_67
def kX7_reshuffle_58 : XC := (58, .iload_n 3) :: kX7_reshuffle_59
def kX7_reshuffle_53 : XC := (53, .iload 5) :: (55, .goto 4) :: kX7_reshuffle_58
def kX7_reshuffle_38 : XC := (38, .aload_n 0) :: (39, .iload 5) :: (41, .invokevirtual 423) :: (44, .istore 6) :: (46, .iload 6) :: (48, .iload 4) :: (50, .if_icmp .le 8) :: kX7_reshuffle_53
def kX7_reshuffle_35 : XC := (35, .goto 41) :: kX7_reshuffle_38
def kX7_reshuffle_26 : XC := (26, .aload_n 0) :: (27, .iload 5) :: (29, .invokevirtual 411) :: (32, .ifCond .ne 6) :: kX7_reshuffle_35
def kX7_reshuffle_18 : XC := (18, .iload 5) :: (20, .sipush 216) :: (23, .if_icmp .ge 59) :: kX7_reshuffle_26
def kX7_reshuffle_10 : XC := (10, .iconst (-1)) :: (11, .istore_n 3) :: (12, .iconst (-1)) :: (13, .istore 4) :: (15, .iconst 0) :: (16, .istore 5) :: kX7_reshuffle_18
def kX7_reshuffle_8 : XC := (8, .iconst (-1)) :: (9, .ireturn) :: kX7_reshuffle_10
def kX7_reshuffle_0 : XC := (0, .aload_n 0) :: (1, .iload_n 1) :: (2, .invokevirtual 190) :: (5, .ifCond .ne 5) :: kX7_reshuffle_8
def kX7_leakOf_0 : XC := (0, .aload_n 0) :: (1, .getfield 7) :: (4, .aload_n 0) :: (5, .getfield 426) :: (8, .iconst 1) :: (9, .iadd) :: (10, .iconst 2) :: (11, .iload_n 1) :: (12, .imul) :: (13, .iadd) :: (14, .iload_n 2) :: (15, .iadd) :: (16, .iaload) :: (17, .ireturn) :: []
def kX7_leak_84 : XC := (84, .ireturn) :: []
def kX7_leak_82 : XC := (82, .bipush (-2)) :: kX7_leak_84
def kX7_leak_73 : XC := (73, .aload_n 0) :: (74, .iload_n 2) :: (75, .iload_n 3) :: (76, .invokevirtual 429) :: (79, .goto 5) :: kX7_leak_82
def kX7_leak_64 : XC := (64, .iload_n 3) :: (65, .iconst 0) :: (66, .iconst 1) :: (67, .invokestatic 93) :: (70, .ifCond .eq 12) :: kX7_leak_73
def kX7_leak_45 : XC := (45, .iload_n 2) :: (46, .iconst 0) :: (47, .aload_n 0) :: (48, .getfield 7) :: (51, .aload_n 0) :: (52, .getfield 426) :: (55, .iaload) :: (56, .iconst 1) :: (57, .isub) :: (58, .invokestatic 93) :: (61, .ifCond .eq 21) :: kX7_leak_64
def kX7_leak_44 : XC := (44, .ireturn) :: kX7_leak_45
def kX7_leak_42 : XC := (42, .bipush (-2)) :: kX7_leak_44
def kX7_leak_30 : XC := (30, .aload_n 0) :: (31, .getfield 7) :: (34, .aload_n 0) :: (35, .getfield 426) :: (38, .iaload) :: (39, .goto 5) :: kX7_leak_42
def kX7_leak_26 : XC := (26, .iload_n 3) :: (27, .ifCond .ne 15) :: kX7_leak_30
def kX7_leak_12 : XC := (12, .aload_n 0) :: (13, .iconst 3) :: (14, .iload_n 1) :: (15, .invokestatic 172) :: (18, .putfield 426) :: (21, .iload_n 2) :: (22, .iconst (-1)) :: (23, .if_icmp .ne 22) :: kX7_leak_26
def kX7_leak_9 : XC := (9, .bipush (-2)) :: (11, .ireturn) :: kX7_leak_12
def kX7_leak_0 : XC := (0, .aload_n 0) :: (1, .iconst 3) :: (2, .iload_n 1) :: (3, .invokevirtual 144) :: (6, .ifCond .ne 6) :: kX7_leak_9
def kX7_isFit_76 : XC := (76, .iload_n 3) :: (77, .ireturn) :: []
def kX7_isFit_69 : XC := (69, .istore_n 3) :: (70, .iinc 4 1) :: (73, .goto (-63)) :: kX7_isFit_76
def kX7_isFit_68 : XC := (68, .iconst 0) :: kX7_isFit_69
def kX7_isFit_64 : XC := (64, .iconst 1) :: (65, .goto 4) :: kX7_isFit_68
def kX7_isFit_61 : XC := (61, .if_icmp .ne 7) :: kX7_isFit_64
def kX7_isFit_60 : XC := (60, .iconst 0) :: kX7_isFit_61
def kX7_isFit_56 : XC := (56, .iconst 1) :: (57, .goto 4) :: kX7_isFit_60
def kX7_isFit_34 : XC := (34, .aload_n 0) :: (35, .aload_n 0) :: (36, .iload 4) :: (38, .iconst 0) :: (39, .invokevirtual 429) :: (42, .invokevirtual 223) :: (45, .aload_n 0) :: (46, .iload 4) :: (48, .iconst 1) :: (49, .invokevirtual 429) :: (52, .iconst 1) :: (53, .if_icmp .ne 7) :: kX7_isFit_56
def kX7_isFit_28 : XC := (28, .iload 4) :: (30, .iload_n 2) :: (31, .if_icmp .eq 33) :: kX7_isFit_34
def kX7_isFit_24 : XC := (24, .iload_n 3) :: (25, .ifCond .eq 51) :: kX7_isFit_28
def kX7_isFit_10 : XC := (10, .iload 4) :: (12, .aload_n 0) :: (13, .getfield 7) :: (16, .aload_n 0) :: (17, .getfield 426) :: (20, .iaload) :: (21, .if_icmp .ge 55) :: kX7_isFit_24
def kX7_isFit_0 : XC := (0, .aload_n 0) :: (1, .iload_n 1) :: (2, .invokevirtual 238) :: (5, .iconst 1) :: (6, .istore_n 3) :: (7, .iconst 0) :: (8, .istore 4) :: kX7_isFit_10
def kX7_fitting_34 : XC := (34, .iload_n 2) :: (35, .ireturn) :: []
def kX7_fitting_26 : XC := (26, .iadd) :: (27, .istore_n 2) :: (28, .iinc 3 1) :: (31, .goto (-27)) :: kX7_fitting_34
def kX7_fitting_25 : XC := (25, .iconst 0) :: kX7_fitting_26
def kX7_fitting_21 : XC := (21, .iconst 1) :: (22, .goto 4) :: kX7_fitting_25
def kX7_fitting_11 : XC := (11, .iload_n 2) :: (12, .aload_n 0) :: (13, .iload_n 3) :: (14, .iload_n 1) :: (15, .invokevirtual 432) :: (18, .ifCond .eq 7) :: kX7_fitting_21
def kX7_fitting_4 : XC := (4, .iload_n 3) :: (5, .sipush 1000) :: (8, .if_icmp .ge 26) :: kX7_fitting_11
def kX7_fitting_0 : XC := (0, .iconst 0) :: (1, .istore_n 2) :: (2, .iconst 0) :: (3, .istore_n 3) :: kX7_fitting_4
def kX7_extreme_70 : XC := (70, .iload_n 3) :: (71, .ireturn) :: []
def kX7_extreme_64 : XC := (64, .iinc 4 1) :: (67, .goto (-62)) :: kX7_extreme_70
def kX7_extreme_63 : XC := (63, .istore_n 3) :: kX7_extreme_64
def kX7_extreme_62 : XC := (62, .iload_n 3) :: kX7_extreme_63
def kX7_extreme_57 : XC := (57, .iload 5) :: (59, .goto 4) :: kX7_extreme_62
def kX7_extreme_51 : XC := (51, .iload 5) :: (53, .iload_n 3) :: (54, .if_icmp .ge 8) :: kX7_extreme_57
def kX7_extreme_48 : XC := (48, .goto 9) :: kX7_extreme_51
def kX7_extreme_42 : XC := (42, .iload 5) :: (44, .iload_n 3) :: (45, .if_icmp .le 17) :: kX7_extreme_48
def kX7_extreme_38 : XC := (38, .iload_n 2) :: (39, .ifCond .eq 12) :: kX7_extreme_42
def kX7_extreme_26 : XC := (26, .iload 4) :: (28, .iload_n 1) :: (29, .invokestatic 263) :: (32, .istore 5) :: (34, .iload_n 3) :: (35, .ifCond .lt 22) :: kX7_extreme_38
def kX7_extreme_23 : XC := (23, .goto 41) :: kX7_extreme_26
def kX7_extreme_13 : XC := (13, .aload_n 0) :: (14, .iload 4) :: (16, .iconst (-1)) :: (17, .invokevirtual 432) :: (20, .ifCond .ne 6) :: kX7_extreme_23
def kX7_extreme_5 : XC := (5, .iload 4) :: (7, .sipush 1000) :: (10, .if_icmp .ge 60) :: kX7_extreme_13
def kX7_extreme_0 : XC := (0, .iconst (-1)) :: (1, .istore_n 3) :: (2, .iconst 0) :: (3, .istore 4) :: kX7_extreme_5
def kX7_rainyFit_35 : XC := (35, .iload_n 1) :: (36, .ireturn) :: []
def kX7_rainyFit_27 : XC := (27, .iadd) :: (28, .istore_n 1) :: (29, .iinc 2 1) :: (32, .goto (-27)) :: kX7_rainyFit_35
def kX7_rainyFit_26 : XC := (26, .iconst 0) :: kX7_rainyFit_27
def kX7_rainyFit_22 : XC := (22, .iconst 1) :: (23, .goto 4) :: kX7_rainyFit_26
def kX7_rainyFit_12 : XC := (12, .iload_n 1) :: (13, .aload_n 0) :: (14, .iload_n 2) :: (15, .iconst (-1)) :: (16, .invokevirtual 432) :: (19, .ifCond .eq 7) :: kX7_rainyFit_22
def kX7_rainyFit_5 : XC := (5, .iload_n 2) :: (6, .sipush 1000) :: (9, .if_icmp .ge 26) :: kX7_rainyFit_12
def kX7_rainyFit_0 : XC := (0, .iconst 0) :: (1, .istore_n 1) :: (2, .bipush 100) :: (4, .istore_n 2) :: kX7_rainyFit_5
def kX7_fits_246 : XC := (246, .ireturn) :: []
def kX7_fits_244 : XC := (244, .bipush (-2)) :: kX7_fits_246
def kX7_fits_231 : XC := (231, .aload_n 0) :: (232, .iload 5) :: (234, .bipush 20) :: (236, .isub) :: (237, .iconst 1) :: (238, .invokevirtual 441) :: (241, .goto 5) :: kX7_fits_244
def kX7_fits_219 : XC := (219, .iload 5) :: (221, .bipush 20) :: (223, .bipush 22) :: (225, .invokestatic 93) :: (228, .ifCond .eq 16) :: kX7_fits_231
def kX7_fits_206 : XC := (206, .aload_n 0) :: (207, .iload 5) :: (209, .bipush 10) :: (211, .isub) :: (212, .iconst 0) :: (213, .invokevirtual 441) :: (216, .goto 30) :: kX7_fits_219
def kX7_fits_194 : XC := (194, .iload 5) :: (196, .bipush 10) :: (198, .bipush 12) :: (200, .invokestatic 93) :: (203, .ifCond .eq 16) :: kX7_fits_206
def kX7_fits_191 : XC := (191, .iload 7) :: (193, .ireturn) :: kX7_fits_194
def kX7_fits_182 : XC := (182, .ior) :: (183, .istore 7) :: (185, .iinc 8 1) :: (188, .goto (-44)) :: kX7_fits_191
def kX7_fits_181 : XC := (181, .iconst 0) :: kX7_fits_182
def kX7_fits_174 : XC := (174, .iconst 1) :: (175, .iload 8) :: (177, .ishl) :: (178, .goto 4) :: kX7_fits_181
def kX7_fits_163 : XC := (163, .iload 7) :: (165, .aload_n 0) :: (166, .iload 8) :: (168, .invokevirtual 435) :: (171, .ifCond .le 10) :: kX7_fits_174
def kX7_fits_158 : XC := (158, .iload 6) :: (160, .ifCond .ne 31) :: kX7_fits_163
def kX7_fits_144 : XC := (144, .iload 8) :: (146, .aload_n 0) :: (147, .getfield 7) :: (150, .aload_n 0) :: (151, .getfield 426) :: (154, .iaload) :: (155, .if_icmp .ge 36) :: kX7_fits_158
def kX7_fits_138 : XC := (138, .iconst 0) :: (139, .istore 7) :: (141, .iconst 0) :: (142, .istore 8) :: kX7_fits_144
def kX7_fits_132 : XC := (132, .iload 5) :: (134, .iconst 3) :: (135, .if_icmp .ne 59) :: kX7_fits_138
def kX7_fits_131 : XC := (131, .ireturn) :: kX7_fits_132
def kX7_fits_128 : XC := (128, .invokestatic 359) :: kX7_fits_131
def kX7_fits_127 : XC := (127, .iconst 0) :: kX7_fits_128
def kX7_fits_123 : XC := (123, .iconst 1) :: (124, .goto 4) :: kX7_fits_127
def kX7_fits_111 : XC := (111, .aload_n 0) :: (112, .invokevirtual 438) :: (115, .iload 6) :: (117, .iload 5) :: (119, .iconst 2) :: (120, .if_icmp .ne 7) :: kX7_fits_123
def kX7_fits_107 : XC := (107, .iconst (-1)) :: (108, .goto 23) :: kX7_fits_111
def kX7_fits_102 : XC := (102, .iload 6) :: (104, .ifCond .ne 7) :: kX7_fits_107
def kX7_fits_96 : XC := (96, .iload 5) :: (98, .iconst 2) :: (99, .if_icmp .ne 33) :: kX7_fits_102
def kX7_fits_90 : XC := (90, .iload 5) :: (92, .iconst 1) :: (93, .if_icmp .eq 9) :: kX7_fits_96
def kX7_fits_87 : XC := (87, .iload 6) :: (89, .ireturn) :: kX7_fits_90
def kX7_fits_75 : XC := (75, .aload_n 0) :: (76, .iconst (-1)) :: (77, .invokevirtual 435) :: (80, .istore 6) :: (82, .iload 5) :: (84, .ifCond .ne 6) :: kX7_fits_87
def kX7_fits_69 : XC := (69, .iinc 6 1) :: (72, .goto (-34)) :: kX7_fits_75
def kX7_fits_66 : XC := (66, .bipush (-2)) :: (68, .ireturn) :: kX7_fits_69
def kX7_fits_52 : XC := (52, .aload_n 0) :: (53, .aload_n 0) :: (54, .iload 6) :: (56, .iconst 0) :: (57, .invokevirtual 429) :: (60, .invokevirtual 193) :: (63, .ifCond .ne 6) :: kX7_fits_66
def kX7_fits_38 : XC := (38, .iload 6) :: (40, .aload_n 0) :: (41, .getfield 7) :: (44, .aload_n 0) :: (45, .getfield 426) :: (48, .iaload) :: (49, .if_icmp .ge 26) :: kX7_fits_52
def kX7_fits_26 : XC := (26, .aload_n 0) :: (27, .iconst 3) :: (28, .iload_n 2) :: (29, .invokestatic 172) :: (32, .putfield 426) :: (35, .iconst 0) :: (36, .istore 6) :: kX7_fits_38
def kX7_fits_23 : XC := (23, .bipush (-2)) :: (25, .ireturn) :: kX7_fits_26
def kX7_fits_14 : XC := (14, .aload_n 0) :: (15, .iconst 3) :: (16, .iload_n 2) :: (17, .invokevirtual 144) :: (20, .ifCond .ne 6) :: kX7_fits_23
def kX7_fits_0 : XC := (0, .aload_n 0) :: (1, .iload_n 1) :: (2, .iload_n 3) :: (3, .iload 4) :: (5, .iconst 0) :: (6, .iconst 0) :: (7, .iconst 0) :: (8, .invokevirtual 241) :: (11, .ifCond .eq 12) :: kX7_fits_14
def kX7_below_0 : XC := (0, .aload_n 0) :: (1, .aload_n 0) :: (2, .getfield 444) :: (5, .ldc_w 447) :: (8, .imul) :: (9, .sipush 12345) :: (12, .iadd) :: (13, .putfield 444) :: (16, .aload_n 0) :: (17, .getfield 444) :: (20, .bipush 16) :: (22, .iushr) :: (23, .iload_n 1) :: (24, .irem) :: (25, .ireturn) :: []
def kX7_thereAt_36 : XC := (36, .iload_n 3) :: (37, .ireturn) :: []
def kX7_thereAt_19 : XC := (19, .iload_n 2) :: (20, .aload_n 0) :: (21, .getfield 226) :: (24, .iload_n 3) :: (25, .ishr) :: (26, .iconst 1) :: (27, .iand) :: (28, .isub) :: (29, .istore_n 2) :: (30, .iinc 3 1) :: (33, .goto (-29)) :: kX7_thereAt_36
def kX7_thereAt_15 : XC := (15, .iload_n 2) :: (16, .ifCond .le 20) :: kX7_thereAt_19
def kX7_thereAt_4 : XC := (4, .aload_n 0) :: (5, .getfield 226) :: (8, .iload_n 3) :: (9, .ishr) :: (10, .iconst 1) :: (11, .iand) :: (12, .ifCond .eq 7) :: kX7_thereAt_15
def kX7_thereAt_0 : XC := (0, .iload_n 1) :: (1, .istore_n 2) :: (2, .iconst 0) :: (3, .istore_n 3) :: kX7_thereAt_4
def kX7_drawn_284 : XC := (284, .iload 7) :: (286, .ireturn) :: []
def kX7_drawn_281 : XC := (281, .iload 5) :: (283, .ireturn) :: kX7_drawn_284
def kX7_drawn_276 : XC := (276, .aload_n 0) :: (277, .getfield 287) :: (280, .ireturn) :: kX7_drawn_281
def kX7_drawn_271 : XC := (271, .aload_n 0) :: (272, .getfield 226) :: (275, .ireturn) :: kX7_drawn_276
def kX7_drawn_266 : XC := (266, .aload_n 0) :: (267, .getfield 281) :: (270, .ireturn) :: kX7_drawn_271
def kX7_drawn_261 : XC := (261, .aload_n 0) :: (262, .getfield 278) :: (265, .ireturn) :: kX7_drawn_266
def kX7_drawn_256 : XC := (256, .aload_n 0) :: (257, .getfield 275) :: (260, .ireturn) :: kX7_drawn_261
def kX7_drawn_218 : XC := (218, .tableswitch 66 0 5 #[38, 43, 48, 53, 58, 63]) :: kX7_drawn_256
def kX7_drawn_216 : XC := (216, .iload 4) :: kX7_drawn_218
def kX7_drawn_208 : XC := (208, .istore 7) :: (210, .iinc 8 1) :: (213, .goto (-164)) :: kX7_drawn_216
def kX7_drawn_206 : XC := (206, .iload 7) :: kX7_drawn_208
def kX7_drawn_201 : XC := (201, .iload 6) :: (203, .goto 5) :: kX7_drawn_206
def kX7_drawn_192 : XC := (192, .istore 6) :: (194, .iload 6) :: (196, .iload 7) :: (198, .if_icmp .le 8) :: kX7_drawn_201
def kX7_drawn_191 : XC := (191, .iconst 0) :: kX7_drawn_192
def kX7_drawn_184 : XC := (184, .iload 6) :: (186, .iconst 1) :: (187, .iadd) :: (188, .goto 4) :: kX7_drawn_191
def kX7_drawn_163 : XC := (163, .iload 5) :: (165, .aload_n 0) :: (166, .getfield 290) :: (169, .bipush 100) :: (171, .idiv) :: (172, .iadd) :: (173, .istore 5) :: (175, .aload_n 0) :: (176, .getfield 290) :: (179, .bipush 100) :: (181, .if_icmp .ge 10) :: kX7_drawn_184
def kX7_drawn_159 : XC := (159, .aload_n 0) :: (160, .invokevirtual 299) :: kX7_drawn_163
def kX7_drawn_152 : XC := (152, .aload_n 0) :: (153, .invokevirtual 321) :: (156, .goto 7) :: kX7_drawn_159
def kX7_drawn_147 : XC := (147, .iload 9) :: (149, .ifCond .eq 10) :: kX7_drawn_152
def kX7_drawn_84 : XC := (84, .aload_n 0) :: (85, .aload_n 0) :: (86, .aload_n 0) :: (87, .aload_n 0) :: (88, .getfield 226) :: (91, .invokestatic 353) :: (94, .invokevirtual 448) :: (97, .invokevirtual 451) :: (100, .putfield 214) :: (103, .aload_n 0) :: (104, .bipush 10) :: (106, .invokevirtual 448) :: (109, .istore 10) :: (111, .aload_n 0) :: (112, .bipush 10) :: (114, .invokevirtual 448) :: (117, .istore 11) :: (119, .aload_n 0) :: (120, .bipush 100) :: (122, .iload 10) :: (124, .imul) :: (125, .bipush 10) :: (127, .iload 11) :: (129, .imul) :: (130, .iadd) :: (131, .aload_n 0) :: (132, .bipush 10) :: (134, .invokevirtual 448) :: (137, .iadd) :: (138, .invokevirtual 238) :: (141, .aload_n 0) :: (142, .invokevirtual 317) :: (145, .istore 9) :: kX7_drawn_147
def kX7_drawn_77 : XC := (77, .istore 9) :: (79, .iload 9) :: (81, .ifCond .eq 66) :: kX7_drawn_84
def kX7_drawn_76 : XC := (76, .iconst 0) :: kX7_drawn_77
def kX7_drawn_72 : XC := (72, .iconst 1) :: (73, .goto 4) :: kX7_drawn_76
def kX7_drawn_55 : XC := (55, .aload_n 0) :: (56, .iload 8) :: (58, .iconst 5) :: (59, .idiv) :: (60, .iconst 4) :: (61, .irem) :: (62, .putfield 205) :: (65, .aload_n 0) :: (66, .getfield 226) :: (69, .ifCond .eq 7) :: kX7_drawn_72
def kX7_drawn_49 : XC := (49, .iload 8) :: (51, .iload_n 3) :: (52, .if_icmp .ge 164) :: kX7_drawn_55
def kX7_drawn_32 : XC := (32, .aload_n 0) :: (33, .iload_n 2) :: (34, .putfield 444) :: (37, .iconst 0) :: (38, .istore 5) :: (40, .iconst 0) :: (41, .istore 6) :: (43, .iconst 0) :: (44, .istore 7) :: (46, .iconst 0) :: (47, .istore 8) :: kX7_drawn_49
def kX7_drawn_29 : XC := (29, .bipush (-2)) :: (31, .ireturn) :: kX7_drawn_32
def kX7_drawn_18 : XC := (18, .iload 4) :: (20, .iconst 0) :: (21, .bipush 6) :: (23, .invokestatic 93) :: (26, .ifCond .ne 6) :: kX7_drawn_29
def kX7_drawn_8 : XC := (8, .iload_n 3) :: (9, .iconst 0) :: (10, .bipush 60) :: (12, .invokestatic 93) :: (15, .ifCond .eq 14) :: kX7_drawn_18
def kX7_drawn_0 : XC := (0, .aload_n 0) :: (1, .iload_n 1) :: (2, .invokevirtual 190) :: (5, .ifCond .eq 24) :: kX7_drawn_8
def kX7_count_20 : XC := (20, .ireturn) :: []
def kX7_count_18 : XC := (18, .bipush (-2)) :: kX7_count_20
def kX7_count_9 : XC := (9, .aload_n 0) :: (10, .getfield 7) :: (13, .iload_n 1) :: (14, .iaload) :: (15, .goto 5) :: kX7_count_18
def kX7_count_0 : XC := (0, .iload_n 1) :: (1, .iconst 0) :: (2, .iconst 5) :: (3, .invokestatic 93) :: (6, .ifCond .eq 12) :: kX7_count_9
def kX7_image_53 : XC := (53, .iconst 1) :: (54, .ireturn) :: []
def kX7_image_27 : XC := (27, .aload_n 0) :: (28, .getfield 7) :: (31, .sipush 1442) :: (34, .iload_n 1) :: (35, .iconst 1) :: (36, .iadd) :: (37, .imul) :: (38, .iload_n 2) :: (39, .iadd) :: (40, .aload_n 0) :: (41, .getfield 7) :: (44, .iload_n 2) :: (45, .iaload) :: (46, .iastore) :: (47, .iinc 2 1) :: (50, .goto (-30)) :: kX7_image_53
def kX7_image_20 : XC := (20, .iload_n 2) :: (21, .sipush 1442) :: (24, .if_icmp .ge 29) :: kX7_image_27
def kX7_image_11 : XC := (11, .aload_n 0) :: (12, .getfield 13) :: (15, .iload_n 1) :: (16, .iconst 1) :: (17, .bastore) :: (18, .iconst 0) :: (19, .istore_n 2) :: kX7_image_20
def kX7_image_9 : XC := (9, .iconst 0) :: (10, .ireturn) :: kX7_image_11
def kX7_image_0 : XC := (0, .iload_n 1) :: (1, .iconst 0) :: (2, .iconst 2) :: (3, .invokestatic 93) :: (6, .ifCond .ne 5) :: kX7_image_9
def kX7_again_55 : XC := (55, .iconst 1) :: (56, .ireturn) :: []
def kX7_again_29 : XC := (29, .aload_n 0) :: (30, .getfield 7) :: (33, .iload_n 2) :: (34, .aload_n 0) :: (35, .getfield 7) :: (38, .sipush 1442) :: (41, .iload_n 1) :: (42, .iconst 1) :: (43, .iadd) :: (44, .imul) :: (45, .iload_n 2) :: (46, .iadd) :: (47, .iaload) :: (48, .iastore) :: (49, .iinc 2 1) :: (52, .goto (-30)) :: kX7_again_55
def kX7_again_22 : XC := (22, .iload_n 2) :: (23, .sipush 1442) :: (26, .if_icmp .ge 29) :: kX7_again_29
def kX7_again_20 : XC := (20, .iconst 0) :: (21, .istore_n 2) :: kX7_again_22
def kX7_again_18 : XC := (18, .iconst 0) :: (19, .ireturn) :: kX7_again_20
def kX7_again_9 : XC := (9, .aload_n 0) :: (10, .getfield 13) :: (13, .iload_n 1) :: (14, .baload) :: (15, .ifCond .ne 5) :: kX7_again_18
def kX7_again_0 : XC := (0, .iload_n 1) :: (1, .iconst 0) :: (2, .iconst 2) :: (3, .invokestatic 93) :: (6, .ifCond .eq 12) :: kX7_again_9
def kJ0_length_8abf5_0 : XC := (0, .aload_n 0) :: (1, .getfield 9) :: (4, .arraylength) :: (5, .aload_n 0) :: (6, .invokevirtual 335) :: (9, .ishr) :: (10, .ireturn) :: []
def kJ0_isEmpty_aae02_13 : XC := (13, .ireturn) :: []
def kJ0_isEmpty_aae02_12 : XC := (12, .iconst 0) :: kJ0_isEmpty_aae02_13
def kJ0_isEmpty_aae02_8 : XC := (8, .iconst 1) :: (9, .goto 4) :: kJ0_isEmpty_aae02_12
def kJ0_isEmpty_aae02_0 : XC := (0, .aload_n 0) :: (1, .getfield 9) :: (4, .arraylength) :: (5, .ifCond .ne 7) :: kJ0_isEmpty_aae02_8
def kJ0_charAt_5068e_16 : XC := (16, .aload_n 0) :: (17, .getfield 9) :: (20, .iload_n 1) :: (21, .invokestatic 498) :: (24, .ireturn) :: []
def kJ0_charAt_5068e_7 : XC := (7, .aload_n 0) :: (8, .getfield 9) :: (11, .iload_n 1) :: (12, .invokestatic 495) :: (15, .ireturn) :: kJ0_charAt_5068e_16
def kJ0_charAt_5068e_0 : XC := (0, .aload_n 0) :: (1, .invokevirtual 492) :: (4, .ifCond .eq 12) :: kJ0_charAt_5068e_7
def kJ0_coder_7d493_14 : XC := (14, .ireturn) :: []
def kJ0_coder_7d493_13 : XC := (13, .iconst 1) :: kJ0_coder_7d493_14
def kJ0_coder_7d493_6 : XC := (6, .aload_n 0) :: (7, .getfield 15) :: (10, .goto 4) :: kJ0_coder_7d493_13
def kJ0_coder_7d493_0 : XC := (0, .getstatic 38) :: (3, .ifCond .eq 10) :: kJ0_coder_7d493_6
def kJ0_isLatin1_aae02_18 : XC := (18, .ireturn) :: []
def kJ0_isLatin1_aae02_17 : XC := (17, .iconst 0) :: kJ0_isLatin1_aae02_18
def kJ0_isLatin1_aae02_13 : XC := (13, .iconst 1) :: (14, .goto 4) :: kJ0_isLatin1_aae02_17
def kJ0_isLatin1_aae02_6 : XC := (6, .aload_n 0) :: (7, .getfield 15) :: (10, .ifCond .ne 7) :: kJ0_isLatin1_aae02_13
def kJ0_isLatin1_aae02_0 : XC := (0, .getstatic 38) :: (3, .ifCond .eq 14) :: kJ0_isLatin1_aae02_6
def kJ0_checkIndex_df160_0 : XC := (0, .iload_n 0) :: (1, .iload_n 1) :: (2, .getstatic 1053) :: (5, .invokestatic 1059) :: (8, .pop) :: (9, .return_) :: []
def kJ1_charAt_3b067_0 : XC := (0, .iload_n 1) :: (1, .aload_n 0) :: (2, .arraylength) :: (3, .invokestatic 9) :: (6, .aload_n 0) :: (7, .iload_n 1) :: (8, .baload) :: (9, .sipush 255) :: (12, .iand) :: (13, .i2c) :: (14, .ireturn) :: []
def kJ3_checkIndex_8e157_16 : XC := (16, .iload_n 0) :: (17, .ireturn) :: []
def kJ3_checkIndex_8e157_9 : XC := (9, .aload_n 2) :: (10, .iload_n 0) :: (11, .iload_n 1) :: (12, .invokestatic 95) :: (15, .athrow) :: kJ3_checkIndex_8e157_16
def kJ3_checkIndex_8e157_4 : XC := (4, .iload_n 0) :: (5, .iload_n 1) :: (6, .if_icmp .lt 10) :: kJ3_checkIndex_8e157_9
def kJ3_checkIndex_8e157_0 : XC := (0, .iload_n 0) :: (1, .ifCond .lt 8) :: kJ3_checkIndex_8e157_4
def kJ6_bitCount_0f7a4_0 : XC := (0, .iload_n 0) :: (1, .iload_n 0) :: (2, .iconst 1) :: (3, .iushr) :: (4, .ldc_w 265) :: (7, .iand) :: (8, .isub) :: (9, .istore_n 0) :: (10, .iload_n 0) :: (11, .ldc_w 266) :: (14, .iand) :: (15, .iload_n 0) :: (16, .iconst 2) :: (17, .iushr) :: (18, .ldc_w 266) :: (21, .iand) :: (22, .iadd) :: (23, .istore_n 0) :: (24, .iload_n 0) :: (25, .iload_n 0) :: (26, .iconst 4) :: (27, .iushr) :: (28, .iadd) :: (29, .ldc_w 267) :: (32, .iand) :: (33, .istore_n 0) :: (34, .iload_n 0) :: (35, .iload_n 0) :: (36, .bipush 8) :: (38, .iushr) :: (39, .iadd) :: (40, .istore_n 0) :: (41, .iload_n 0) :: (42, .iload_n 0) :: (43, .bipush 16) :: (45, .iushr) :: (46, .iadd) :: (47, .istore_n 0) :: (48, .iload_n 0) :: (49, .bipush 63) :: (51, .iand) :: (52, .ireturn) :: []
def kJ7_fill_53178_20 : XC := (20, .return_) :: []
def kJ7_fill_53178_10 : XC := (10, .aload_n 0) :: (11, .iload_n 2) :: (12, .iload_n 1) :: (13, .iastore) :: (14, .iinc 2 1) :: (17, .goto (-12)) :: kJ7_fill_53178_20
def kJ7_fill_53178_5 : XC := (5, .iload_n 2) :: (6, .iload_n 3) :: (7, .if_icmp .ge 13) :: kJ7_fill_53178_10
def kJ7_fill_53178_0 : XC := (0, .iconst 0) :: (1, .istore_n 2) :: (2, .aload_n 0) :: (3, .arraylength) :: (4, .istore_n 3) :: kJ7_fill_53178_5
def kL_law_1627 : XC := (1627, .iconst 1) :: (1628, .ireturn) :: []
def kL_law_1621 : XC := (1621, .iinc 3 8) :: (1624, .goto (-1606)) :: kL_law_1627
def kL_law_1598 : XC := (1598, .aload_n 1) :: (1599, .aload_n 0) :: (1600, .iload_n 3) :: (1601, .iconst 1) :: (1602, .iadd) :: (1603, .iaload) :: (1604, .invokevirtual 136) :: (1607, .pop) :: (1608, .aload_n 2) :: (1609, .aload_n 0) :: (1610, .iload_n 3) :: (1611, .iconst 1) :: (1612, .iadd) :: (1613, .iaload) :: (1614, .invokevirtual 139) :: (1617, .pop) :: (1618, .goto 3) :: kL_law_1621
def kL_law_1596 : XC := (1596, .iconst 0) :: (1597, .ireturn) :: kL_law_1598
def kL_law_1575 : XC := (1575, .aload_n 1) :: (1576, .aload_n 0) :: (1577, .iload_n 3) :: (1578, .iconst 1) :: (1579, .iadd) :: (1580, .iaload) :: (1581, .invokevirtual 131) :: (1584, .aload_n 2) :: (1585, .aload_n 0) :: (1586, .iload_n 3) :: (1587, .iconst 1) :: (1588, .iadd) :: (1589, .iaload) :: (1590, .invokevirtual 135) :: (1593, .if_icmp .eq 28) :: kL_law_1596
def kL_law_1552 : XC := (1552, .aload_n 1) :: (1553, .aload_n 0) :: (1554, .iload_n 3) :: (1555, .iconst 1) :: (1556, .iadd) :: (1557, .iaload) :: (1558, .invokevirtual 127) :: (1561, .pop) :: (1562, .aload_n 2) :: (1563, .aload_n 0) :: (1564, .iload_n 3) :: (1565, .iconst 1) :: (1566, .iadd) :: (1567, .iaload) :: (1568, .invokevirtual 130) :: (1571, .pop) :: (1572, .goto 49) :: kL_law_1575
def kL_law_1499 : XC := (1499, .aload_n 1) :: (1500, .aload_n 0) :: (1501, .iload_n 3) :: (1502, .iconst 1) :: (1503, .iadd) :: (1504, .iaload) :: (1505, .aload_n 0) :: (1506, .iload_n 3) :: (1507, .iconst 2) :: (1508, .iadd) :: (1509, .iaload) :: (1510, .aload_n 0) :: (1511, .iload_n 3) :: (1512, .iconst 3) :: (1513, .iadd) :: (1514, .iaload) :: (1515, .aload_n 0) :: (1516, .iload_n 3) :: (1517, .iconst 4) :: (1518, .iadd) :: (1519, .iaload) :: (1520, .invokevirtual 122) :: (1523, .pop) :: (1524, .aload_n 2) :: (1525, .aload_n 0) :: (1526, .iload_n 3) :: (1527, .iconst 1) :: (1528, .iadd) :: (1529, .iaload) :: (1530, .aload_n 0) :: (1531, .iload_n 3) :: (1532, .iconst 2) :: (1533, .iadd) :: (1534, .iaload) :: (1535, .aload_n 0) :: (1536, .iload_n 3) :: (1537, .iconst 3) :: (1538, .iadd) :: (1539, .iaload) :: (1540, .aload_n 0) :: (1541, .iload_n 3) :: (1542, .iconst 4) :: (1543, .iadd) :: (1544, .iaload) :: (1545, .invokevirtual 126) :: (1548, .pop) :: (1549, .goto 72) :: kL_law_1552
def kL_law_1436 : XC := (1436, .aload_n 1) :: (1437, .aload_n 0) :: (1438, .iload_n 3) :: (1439, .iconst 1) :: (1440, .iadd) :: (1441, .iaload) :: (1442, .aload_n 0) :: (1443, .iload_n 3) :: (1444, .iconst 2) :: (1445, .iadd) :: (1446, .iaload) :: (1447, .aload_n 0) :: (1448, .iload_n 3) :: (1449, .iconst 3) :: (1450, .iadd) :: (1451, .iaload) :: (1452, .aload_n 0) :: (1453, .iload_n 3) :: (1454, .iconst 4) :: (1455, .iadd) :: (1456, .iaload) :: (1457, .aload_n 0) :: (1458, .iload_n 3) :: (1459, .iconst 5) :: (1460, .iadd) :: (1461, .iaload) :: (1462, .invokevirtual 118) :: (1465, .pop) :: (1466, .aload_n 2) :: (1467, .aload_n 0) :: (1468, .iload_n 3) :: (1469, .iconst 1) :: (1470, .iadd) :: (1471, .iaload) :: (1472, .aload_n 0) :: (1473, .iload_n 3) :: (1474, .iconst 2) :: (1475, .iadd) :: (1476, .iaload) :: (1477, .aload_n 0) :: (1478, .iload_n 3) :: (1479, .iconst 3) :: (1480, .iadd) :: (1481, .iaload) :: (1482, .aload_n 0) :: (1483, .iload_n 3) :: (1484, .iconst 4) :: (1485, .iadd) :: (1486, .iaload) :: (1487, .aload_n 0) :: (1488, .iload_n 3) :: (1489, .iconst 5) :: (1490, .iadd) :: (1491, .iaload) :: (1492, .invokevirtual 121) :: (1495, .pop) :: (1496, .goto 125) :: kL_law_1499
def kL_law_1393 : XC := (1393, .aload_n 1) :: (1394, .aload_n 0) :: (1395, .iload_n 3) :: (1396, .iconst 1) :: (1397, .iadd) :: (1398, .iaload) :: (1399, .aload_n 0) :: (1400, .iload_n 3) :: (1401, .iconst 2) :: (1402, .iadd) :: (1403, .iaload) :: (1404, .aload_n 0) :: (1405, .iload_n 3) :: (1406, .iconst 3) :: (1407, .iadd) :: (1408, .iaload) :: (1409, .invokevirtual 114) :: (1412, .pop) :: (1413, .aload_n 2) :: (1414, .aload_n 0) :: (1415, .iload_n 3) :: (1416, .iconst 1) :: (1417, .iadd) :: (1418, .iaload) :: (1419, .aload_n 0) :: (1420, .iload_n 3) :: (1421, .iconst 2) :: (1422, .iadd) :: (1423, .iaload) :: (1424, .aload_n 0) :: (1425, .iload_n 3) :: (1426, .iconst 3) :: (1427, .iadd) :: (1428, .iaload) :: (1429, .invokevirtual 117) :: (1432, .pop) :: (1433, .goto 188) :: kL_law_1436
def kL_law_1386 : XC := (1386, .invokevirtual 113) :: (1389, .pop) :: (1390, .goto 231) :: kL_law_1393
def kL_law_1385 : XC := (1385, .iconst 0) :: kL_law_1386
def kL_law_1381 : XC := (1381, .iconst 1) :: (1382, .goto 4) :: kL_law_1385
def kL_law_1363 : XC := (1363, .invokevirtual 109) :: (1366, .pop) :: (1367, .aload_n 2) :: (1368, .aload_n 0) :: (1369, .iload_n 3) :: (1370, .iconst 1) :: (1371, .iadd) :: (1372, .iaload) :: (1373, .aload_n 0) :: (1374, .iload_n 3) :: (1375, .iconst 2) :: (1376, .iadd) :: (1377, .iaload) :: (1378, .ifCond .eq 7) :: kL_law_1381
def kL_law_1362 : XC := (1362, .iconst 0) :: kL_law_1363
def kL_law_1358 : XC := (1358, .iconst 1) :: (1359, .goto 4) :: kL_law_1362
def kL_law_1344 : XC := (1344, .aload_n 1) :: (1345, .aload_n 0) :: (1346, .iload_n 3) :: (1347, .iconst 1) :: (1348, .iadd) :: (1349, .iaload) :: (1350, .aload_n 0) :: (1351, .iload_n 3) :: (1352, .iconst 2) :: (1353, .iadd) :: (1354, .iaload) :: (1355, .ifCond .eq 7) :: kL_law_1358
def kL_law_1301 : XC := (1301, .aload_n 1) :: (1302, .aload_n 0) :: (1303, .iload_n 3) :: (1304, .iconst 1) :: (1305, .iadd) :: (1306, .iaload) :: (1307, .aload_n 0) :: (1308, .iload_n 3) :: (1309, .iconst 2) :: (1310, .iadd) :: (1311, .iaload) :: (1312, .aload_n 0) :: (1313, .iload_n 3) :: (1314, .iconst 3) :: (1315, .iadd) :: (1316, .iaload) :: (1317, .invokevirtual 105) :: (1320, .pop) :: (1321, .aload_n 2) :: (1322, .aload_n 0) :: (1323, .iload_n 3) :: (1324, .iconst 1) :: (1325, .iadd) :: (1326, .iaload) :: (1327, .aload_n 0) :: (1328, .iload_n 3) :: (1329, .iconst 2) :: (1330, .iadd) :: (1331, .iaload) :: (1332, .aload_n 0) :: (1333, .iload_n 3) :: (1334, .iconst 3) :: (1335, .iadd) :: (1336, .iaload) :: (1337, .invokevirtual 108) :: (1340, .pop) :: (1341, .goto 280) :: kL_law_1344
def kL_law_1258 : XC := (1258, .aload_n 1) :: (1259, .aload_n 0) :: (1260, .iload_n 3) :: (1261, .iconst 1) :: (1262, .iadd) :: (1263, .iaload) :: (1264, .aload_n 0) :: (1265, .iload_n 3) :: (1266, .iconst 2) :: (1267, .iadd) :: (1268, .iaload) :: (1269, .aload_n 0) :: (1270, .iload_n 3) :: (1271, .iconst 3) :: (1272, .iadd) :: (1273, .iaload) :: (1274, .invokevirtual 101) :: (1277, .pop) :: (1278, .aload_n 2) :: (1279, .aload_n 0) :: (1280, .iload_n 3) :: (1281, .iconst 1) :: (1282, .iadd) :: (1283, .iaload) :: (1284, .aload_n 0) :: (1285, .iload_n 3) :: (1286, .iconst 2) :: (1287, .iadd) :: (1288, .iaload) :: (1289, .aload_n 0) :: (1290, .iload_n 3) :: (1291, .iconst 3) :: (1292, .iadd) :: (1293, .iaload) :: (1294, .invokevirtual 104) :: (1297, .pop) :: (1298, .goto 323) :: kL_law_1301
def kL_law_1215 : XC := (1215, .aload_n 1) :: (1216, .aload_n 0) :: (1217, .iload_n 3) :: (1218, .iconst 1) :: (1219, .iadd) :: (1220, .iaload) :: (1221, .aload_n 0) :: (1222, .iload_n 3) :: (1223, .iconst 2) :: (1224, .iadd) :: (1225, .iaload) :: (1226, .aload_n 0) :: (1227, .iload_n 3) :: (1228, .iconst 3) :: (1229, .iadd) :: (1230, .iaload) :: (1231, .invokevirtual 97) :: (1234, .pop) :: (1235, .aload_n 2) :: (1236, .aload_n 0) :: (1237, .iload_n 3) :: (1238, .iconst 1) :: (1239, .iadd) :: (1240, .iaload) :: (1241, .aload_n 0) :: (1242, .iload_n 3) :: (1243, .iconst 2) :: (1244, .iadd) :: (1245, .iaload) :: (1246, .aload_n 0) :: (1247, .iload_n 3) :: (1248, .iconst 3) :: (1249, .iadd) :: (1250, .iaload) :: (1251, .invokevirtual 100) :: (1254, .pop) :: (1255, .goto 366) :: kL_law_1258
def kL_law_1172 : XC := (1172, .aload_n 1) :: (1173, .aload_n 0) :: (1174, .iload_n 3) :: (1175, .iconst 1) :: (1176, .iadd) :: (1177, .iaload) :: (1178, .aload_n 0) :: (1179, .iload_n 3) :: (1180, .iconst 2) :: (1181, .iadd) :: (1182, .iaload) :: (1183, .aload_n 0) :: (1184, .iload_n 3) :: (1185, .iconst 3) :: (1186, .iadd) :: (1187, .iaload) :: (1188, .invokevirtual 93) :: (1191, .pop) :: (1192, .aload_n 2) :: (1193, .aload_n 0) :: (1194, .iload_n 3) :: (1195, .iconst 1) :: (1196, .iadd) :: (1197, .iaload) :: (1198, .aload_n 0) :: (1199, .iload_n 3) :: (1200, .iconst 2) :: (1201, .iadd) :: (1202, .iaload) :: (1203, .aload_n 0) :: (1204, .iload_n 3) :: (1205, .iconst 3) :: (1206, .iadd) :: (1207, .iaload) :: (1208, .invokevirtual 96) :: (1211, .pop) :: (1212, .goto 409) :: kL_law_1215
def kL_law_1085 : XC := (1085, .aload_n 1) :: (1086, .aload_n 0) :: (1087, .iload_n 3) :: (1088, .iconst 1) :: (1089, .iadd) :: (1090, .iaload) :: (1091, .aload_n 0) :: (1092, .iload_n 3) :: (1093, .iconst 2) :: (1094, .iadd) :: (1095, .iaload) :: (1096, .aload_n 0) :: (1097, .iload_n 3) :: (1098, .iconst 3) :: (1099, .iadd) :: (1100, .iaload) :: (1101, .aload_n 0) :: (1102, .iload_n 3) :: (1103, .iconst 4) :: (1104, .iadd) :: (1105, .iaload) :: (1106, .aload_n 0) :: (1107, .iload_n 3) :: (1108, .iconst 5) :: (1109, .iadd) :: (1110, .iaload) :: (1111, .aload_n 0) :: (1112, .iload_n 3) :: (1113, .bipush 6) :: (1115, .iadd) :: (1116, .iaload) :: (1117, .aload_n 0) :: (1118, .iload_n 3) :: (1119, .bipush 7) :: (1121, .iadd) :: (1122, .iaload) :: (1123, .invokevirtual 88) :: (1126, .pop) :: (1127, .aload_n 2) :: (1128, .aload_n 0) :: (1129, .iload_n 3) :: (1130, .iconst 1) :: (1131, .iadd) :: (1132, .iaload) :: (1133, .aload_n 0) :: (1134, .iload_n 3) :: (1135, .iconst 2) :: (1136, .iadd) :: (1137, .iaload) :: (1138, .aload_n 0) :: (1139, .iload_n 3) :: (1140, .iconst 3) :: (1141, .iadd) :: (1142, .iaload) :: (1143, .aload_n 0) :: (1144, .iload_n 3) :: (1145, .iconst 4) :: (1146, .iadd) :: (1147, .iaload) :: (1148, .aload_n 0) :: (1149, .iload_n 3) :: (1150, .iconst 5) :: (1151, .iadd) :: (1152, .iaload) :: (1153, .aload_n 0) :: (1154, .iload_n 3) :: (1155, .bipush 6) :: (1157, .iadd) :: (1158, .iaload) :: (1159, .aload_n 0) :: (1160, .iload_n 3) :: (1161, .bipush 7) :: (1163, .iadd) :: (1164, .iaload) :: (1165, .invokevirtual 92) :: (1168, .pop) :: (1169, .goto 452) :: kL_law_1172
def kL_law_1078 : XC := (1078, .invokevirtual 87) :: (1081, .pop) :: (1082, .goto 539) :: kL_law_1085
def kL_law_1077 : XC := (1077, .iconst 0) :: kL_law_1078
def kL_law_1073 : XC := (1073, .iconst 1) :: (1074, .goto 4) :: kL_law_1077
def kL_law_1028 : XC := (1028, .invokevirtual 84) :: (1031, .pop) :: (1032, .aload_n 2) :: (1033, .aload_n 0) :: (1034, .iload_n 3) :: (1035, .iconst 1) :: (1036, .iadd) :: (1037, .iaload) :: (1038, .aload_n 0) :: (1039, .iload_n 3) :: (1040, .iconst 2) :: (1041, .iadd) :: (1042, .iaload) :: (1043, .aload_n 0) :: (1044, .iload_n 3) :: (1045, .iconst 3) :: (1046, .iadd) :: (1047, .iaload) :: (1048, .aload_n 0) :: (1049, .iload_n 3) :: (1050, .iconst 4) :: (1051, .iadd) :: (1052, .iaload) :: (1053, .aload_n 0) :: (1054, .iload_n 3) :: (1055, .iconst 5) :: (1056, .iadd) :: (1057, .iaload) :: (1058, .aload_n 0) :: (1059, .iload_n 3) :: (1060, .bipush 6) :: (1062, .iadd) :: (1063, .iaload) :: (1064, .aload_n 0) :: (1065, .iload_n 3) :: (1066, .bipush 7) :: (1068, .iadd) :: (1069, .iaload) :: (1070, .ifCond .eq 7) :: kL_law_1073
def kL_law_1027 : XC := (1027, .iconst 0) :: kL_law_1028
def kL_law_1023 : XC := (1023, .iconst 1) :: (1024, .goto 4) :: kL_law_1027
def kL_law_982 : XC := (982, .aload_n 1) :: (983, .aload_n 0) :: (984, .iload_n 3) :: (985, .iconst 1) :: (986, .iadd) :: (987, .iaload) :: (988, .aload_n 0) :: (989, .iload_n 3) :: (990, .iconst 2) :: (991, .iadd) :: (992, .iaload) :: (993, .aload_n 0) :: (994, .iload_n 3) :: (995, .iconst 3) :: (996, .iadd) :: (997, .iaload) :: (998, .aload_n 0) :: (999, .iload_n 3) :: (1000, .iconst 4) :: (1001, .iadd) :: (1002, .iaload) :: (1003, .aload_n 0) :: (1004, .iload_n 3) :: (1005, .iconst 5) :: (1006, .iadd) :: (1007, .iaload) :: (1008, .aload_n 0) :: (1009, .iload_n 3) :: (1010, .bipush 6) :: (1012, .iadd) :: (1013, .iaload) :: (1014, .aload_n 0) :: (1015, .iload_n 3) :: (1016, .bipush 7) :: (1018, .iadd) :: (1019, .iaload) :: (1020, .ifCond .eq 7) :: kL_law_1023
def kL_law_949 : XC := (949, .aload_n 1) :: (950, .aload_n 0) :: (951, .iload_n 3) :: (952, .iconst 1) :: (953, .iadd) :: (954, .iaload) :: (955, .aload_n 0) :: (956, .iload_n 3) :: (957, .iconst 2) :: (958, .iadd) :: (959, .iaload) :: (960, .invokevirtual 80) :: (963, .pop) :: (964, .aload_n 2) :: (965, .aload_n 0) :: (966, .iload_n 3) :: (967, .iconst 1) :: (968, .iadd) :: (969, .iaload) :: (970, .aload_n 0) :: (971, .iload_n 3) :: (972, .iconst 2) :: (973, .iadd) :: (974, .iaload) :: (975, .invokevirtual 83) :: (978, .pop) :: (979, .goto 642) :: kL_law_982
def kL_law_942 : XC := (942, .invokevirtual 79) :: (945, .pop) :: (946, .goto 675) :: kL_law_949
def kL_law_941 : XC := (941, .iconst 0) :: kL_law_942
def kL_law_937 : XC := (937, .iconst 1) :: (938, .goto 4) :: kL_law_941
def kL_law_914 : XC := (914, .invokevirtual 75) :: (917, .pop) :: (918, .aload_n 2) :: (919, .aload_n 0) :: (920, .iload_n 3) :: (921, .iconst 1) :: (922, .iadd) :: (923, .iaload) :: (924, .aload_n 0) :: (925, .iload_n 3) :: (926, .iconst 2) :: (927, .iadd) :: (928, .iaload) :: (929, .aload_n 0) :: (930, .iload_n 3) :: (931, .iconst 3) :: (932, .iadd) :: (933, .iaload) :: (934, .ifCond .eq 7) :: kL_law_937
def kL_law_913 : XC := (913, .iconst 0) :: kL_law_914
def kL_law_909 : XC := (909, .iconst 1) :: (910, .goto 4) :: kL_law_913
def kL_law_890 : XC := (890, .aload_n 1) :: (891, .aload_n 0) :: (892, .iload_n 3) :: (893, .iconst 1) :: (894, .iadd) :: (895, .iaload) :: (896, .aload_n 0) :: (897, .iload_n 3) :: (898, .iconst 2) :: (899, .iadd) :: (900, .iaload) :: (901, .aload_n 0) :: (902, .iload_n 3) :: (903, .iconst 3) :: (904, .iadd) :: (905, .iaload) :: (906, .ifCond .eq 7) :: kL_law_909
def kL_law_827 : XC := (827, .aload_n 1) :: (828, .aload_n 0) :: (829, .iload_n 3) :: (830, .iconst 1) :: (831, .iadd) :: (832, .iaload) :: (833, .aload_n 0) :: (834, .iload_n 3) :: (835, .iconst 2) :: (836, .iadd) :: (837, .iaload) :: (838, .aload_n 0) :: (839, .iload_n 3) :: (840, .iconst 3) :: (841, .iadd) :: (842, .iaload) :: (843, .aload_n 0) :: (844, .iload_n 3) :: (845, .iconst 4) :: (846, .iadd) :: (847, .iaload) :: (848, .aload_n 0) :: (849, .iload_n 3) :: (850, .iconst 5) :: (851, .iadd) :: (852, .iaload) :: (853, .invokevirtual 71) :: (856, .pop) :: (857, .aload_n 2) :: (858, .aload_n 0) :: (859, .iload_n 3) :: (860, .iconst 1) :: (861, .iadd) :: (862, .iaload) :: (863, .aload_n 0) :: (864, .iload_n 3) :: (865, .iconst 2) :: (866, .iadd) :: (867, .iaload) :: (868, .aload_n 0) :: (869, .iload_n 3) :: (870, .iconst 3) :: (871, .iadd) :: (872, .iaload) :: (873, .aload_n 0) :: (874, .iload_n 3) :: (875, .iconst 4) :: (876, .iadd) :: (877, .iaload) :: (878, .aload_n 0) :: (879, .iload_n 3) :: (880, .iconst 5) :: (881, .iadd) :: (882, .iaload) :: (883, .invokevirtual 74) :: (886, .pop) :: (887, .goto 734) :: kL_law_890
def kL_law_764 : XC := (764, .aload_n 1) :: (765, .aload_n 0) :: (766, .iload_n 3) :: (767, .iconst 1) :: (768, .iadd) :: (769, .iaload) :: (770, .aload_n 0) :: (771, .iload_n 3) :: (772, .iconst 2) :: (773, .iadd) :: (774, .iaload) :: (775, .aload_n 0) :: (776, .iload_n 3) :: (777, .iconst 3) :: (778, .iadd) :: (779, .iaload) :: (780, .aload_n 0) :: (781, .iload_n 3) :: (782, .iconst 4) :: (783, .iadd) :: (784, .iaload) :: (785, .aload_n 0) :: (786, .iload_n 3) :: (787, .iconst 5) :: (788, .iadd) :: (789, .iaload) :: (790, .invokevirtual 67) :: (793, .pop) :: (794, .aload_n 2) :: (795, .aload_n 0) :: (796, .iload_n 3) :: (797, .iconst 1) :: (798, .iadd) :: (799, .iaload) :: (800, .aload_n 0) :: (801, .iload_n 3) :: (802, .iconst 2) :: (803, .iadd) :: (804, .iaload) :: (805, .aload_n 0) :: (806, .iload_n 3) :: (807, .iconst 3) :: (808, .iadd) :: (809, .iaload) :: (810, .aload_n 0) :: (811, .iload_n 3) :: (812, .iconst 4) :: (813, .iadd) :: (814, .iaload) :: (815, .aload_n 0) :: (816, .iload_n 3) :: (817, .iconst 5) :: (818, .iadd) :: (819, .iaload) :: (820, .invokevirtual 70) :: (823, .pop) :: (824, .goto 797) :: kL_law_827
def kL_law_721 : XC := (721, .aload_n 1) :: (722, .aload_n 0) :: (723, .iload_n 3) :: (724, .iconst 1) :: (725, .iadd) :: (726, .iaload) :: (727, .aload_n 0) :: (728, .iload_n 3) :: (729, .iconst 2) :: (730, .iadd) :: (731, .iaload) :: (732, .aload_n 0) :: (733, .iload_n 3) :: (734, .iconst 3) :: (735, .iadd) :: (736, .iaload) :: (737, .invokevirtual 63) :: (740, .pop) :: (741, .aload_n 2) :: (742, .aload_n 0) :: (743, .iload_n 3) :: (744, .iconst 1) :: (745, .iadd) :: (746, .iaload) :: (747, .aload_n 0) :: (748, .iload_n 3) :: (749, .iconst 2) :: (750, .iadd) :: (751, .iaload) :: (752, .aload_n 0) :: (753, .iload_n 3) :: (754, .iconst 3) :: (755, .iadd) :: (756, .iaload) :: (757, .invokevirtual 66) :: (760, .pop) :: (761, .goto 860) :: kL_law_764
def kL_law_678 : XC := (678, .aload_n 1) :: (679, .aload_n 0) :: (680, .iload_n 3) :: (681, .iconst 1) :: (682, .iadd) :: (683, .iaload) :: (684, .aload_n 0) :: (685, .iload_n 3) :: (686, .iconst 2) :: (687, .iadd) :: (688, .iaload) :: (689, .aload_n 0) :: (690, .iload_n 3) :: (691, .iconst 3) :: (692, .iadd) :: (693, .iaload) :: (694, .invokevirtual 59) :: (697, .pop) :: (698, .aload_n 2) :: (699, .aload_n 0) :: (700, .iload_n 3) :: (701, .iconst 1) :: (702, .iadd) :: (703, .iaload) :: (704, .aload_n 0) :: (705, .iload_n 3) :: (706, .iconst 2) :: (707, .iadd) :: (708, .iaload) :: (709, .aload_n 0) :: (710, .iload_n 3) :: (711, .iconst 3) :: (712, .iadd) :: (713, .iaload) :: (714, .invokevirtual 62) :: (717, .pop) :: (718, .goto 903) :: kL_law_721
def kL_law_603 : XC := (603, .aload_n 1) :: (604, .aload_n 0) :: (605, .iload_n 3) :: (606, .iconst 1) :: (607, .iadd) :: (608, .iaload) :: (609, .aload_n 0) :: (610, .iload_n 3) :: (611, .iconst 2) :: (612, .iadd) :: (613, .iaload) :: (614, .aload_n 0) :: (615, .iload_n 3) :: (616, .iconst 3) :: (617, .iadd) :: (618, .iaload) :: (619, .aload_n 0) :: (620, .iload_n 3) :: (621, .iconst 4) :: (622, .iadd) :: (623, .iaload) :: (624, .aload_n 0) :: (625, .iload_n 3) :: (626, .iconst 5) :: (627, .iadd) :: (628, .iaload) :: (629, .aload_n 0) :: (630, .iload_n 3) :: (631, .bipush 6) :: (633, .iadd) :: (634, .iaload) :: (635, .invokevirtual 55) :: (638, .pop) :: (639, .aload_n 2) :: (640, .aload_n 0) :: (641, .iload_n 3) :: (642, .iconst 1) :: (643, .iadd) :: (644, .iaload) :: (645, .aload_n 0) :: (646, .iload_n 3) :: (647, .iconst 2) :: (648, .iadd) :: (649, .iaload) :: (650, .aload_n 0) :: (651, .iload_n 3) :: (652, .iconst 3) :: (653, .iadd) :: (654, .iaload) :: (655, .aload_n 0) :: (656, .iload_n 3) :: (657, .iconst 4) :: (658, .iadd) :: (659, .iaload) :: (660, .aload_n 0) :: (661, .iload_n 3) :: (662, .iconst 5) :: (663, .iadd) :: (664, .iaload) :: (665, .aload_n 0) :: (666, .iload_n 3) :: (667, .bipush 6) :: (669, .iadd) :: (670, .iaload) :: (671, .invokevirtual 58) :: (674, .pop) :: (675, .goto 946) :: kL_law_678
def kL_law_560 : XC := (560, .aload_n 1) :: (561, .aload_n 0) :: (562, .iload_n 3) :: (563, .iconst 1) :: (564, .iadd) :: (565, .iaload) :: (566, .aload_n 0) :: (567, .iload_n 3) :: (568, .iconst 2) :: (569, .iadd) :: (570, .iaload) :: (571, .aload_n 0) :: (572, .iload_n 3) :: (573, .iconst 3) :: (574, .iadd) :: (575, .iaload) :: (576, .invokevirtual 51) :: (579, .pop) :: (580, .aload_n 2) :: (581, .aload_n 0) :: (582, .iload_n 3) :: (583, .iconst 1) :: (584, .iadd) :: (585, .iaload) :: (586, .aload_n 0) :: (587, .iload_n 3) :: (588, .iconst 2) :: (589, .iadd) :: (590, .iaload) :: (591, .aload_n 0) :: (592, .iload_n 3) :: (593, .iconst 3) :: (594, .iadd) :: (595, .iaload) :: (596, .invokevirtual 54) :: (599, .pop) :: (600, .goto 1021) :: kL_law_603
def kL_law_553 : XC := (553, .invokevirtual 50) :: (556, .pop) :: (557, .goto 1064) :: kL_law_560
def kL_law_552 : XC := (552, .iconst 0) :: kL_law_553
def kL_law_548 : XC := (548, .iconst 1) :: (549, .goto 4) :: kL_law_552
def kL_law_503 : XC := (503, .invokevirtual 46) :: (506, .pop) :: (507, .aload_n 2) :: (508, .aload_n 0) :: (509, .iload_n 3) :: (510, .iconst 1) :: (511, .iadd) :: (512, .iaload) :: (513, .aload_n 0) :: (514, .iload_n 3) :: (515, .iconst 2) :: (516, .iadd) :: (517, .iaload) :: (518, .aload_n 0) :: (519, .iload_n 3) :: (520, .iconst 3) :: (521, .iadd) :: (522, .iaload) :: (523, .aload_n 0) :: (524, .iload_n 3) :: (525, .iconst 4) :: (526, .iadd) :: (527, .iaload) :: (528, .aload_n 0) :: (529, .iload_n 3) :: (530, .iconst 5) :: (531, .iadd) :: (532, .iaload) :: (533, .aload_n 0) :: (534, .iload_n 3) :: (535, .bipush 6) :: (537, .iadd) :: (538, .iaload) :: (539, .aload_n 0) :: (540, .iload_n 3) :: (541, .bipush 7) :: (543, .iadd) :: (544, .iaload) :: (545, .ifCond .eq 7) :: kL_law_548
def kL_law_502 : XC := (502, .iconst 0) :: kL_law_503
def kL_law_498 : XC := (498, .iconst 1) :: (499, .goto 4) :: kL_law_502
def kL_law_457 : XC := (457, .aload_n 1) :: (458, .aload_n 0) :: (459, .iload_n 3) :: (460, .iconst 1) :: (461, .iadd) :: (462, .iaload) :: (463, .aload_n 0) :: (464, .iload_n 3) :: (465, .iconst 2) :: (466, .iadd) :: (467, .iaload) :: (468, .aload_n 0) :: (469, .iload_n 3) :: (470, .iconst 3) :: (471, .iadd) :: (472, .iaload) :: (473, .aload_n 0) :: (474, .iload_n 3) :: (475, .iconst 4) :: (476, .iadd) :: (477, .iaload) :: (478, .aload_n 0) :: (479, .iload_n 3) :: (480, .iconst 5) :: (481, .iadd) :: (482, .iaload) :: (483, .aload_n 0) :: (484, .iload_n 3) :: (485, .bipush 6) :: (487, .iadd) :: (488, .iaload) :: (489, .aload_n 0) :: (490, .iload_n 3) :: (491, .bipush 7) :: (493, .iadd) :: (494, .iaload) :: (495, .ifCond .eq 7) :: kL_law_498
def kL_law_382 : XC := (382, .aload_n 1) :: (383, .aload_n 0) :: (384, .iload_n 3) :: (385, .iconst 1) :: (386, .iadd) :: (387, .iaload) :: (388, .aload_n 0) :: (389, .iload_n 3) :: (390, .iconst 2) :: (391, .iadd) :: (392, .iaload) :: (393, .aload_n 0) :: (394, .iload_n 3) :: (395, .iconst 3) :: (396, .iadd) :: (397, .iaload) :: (398, .aload_n 0) :: (399, .iload_n 3) :: (400, .iconst 4) :: (401, .iadd) :: (402, .iaload) :: (403, .aload_n 0) :: (404, .iload_n 3) :: (405, .iconst 5) :: (406, .iadd) :: (407, .iaload) :: (408, .aload_n 0) :: (409, .iload_n 3) :: (410, .bipush 6) :: (412, .iadd) :: (413, .iaload) :: (414, .invokevirtual 41) :: (417, .pop) :: (418, .aload_n 2) :: (419, .aload_n 0) :: (420, .iload_n 3) :: (421, .iconst 1) :: (422, .iadd) :: (423, .iaload) :: (424, .aload_n 0) :: (425, .iload_n 3) :: (426, .iconst 2) :: (427, .iadd) :: (428, .iaload) :: (429, .aload_n 0) :: (430, .iload_n 3) :: (431, .iconst 3) :: (432, .iadd) :: (433, .iaload) :: (434, .aload_n 0) :: (435, .iload_n 3) :: (436, .iconst 4) :: (437, .iadd) :: (438, .iaload) :: (439, .aload_n 0) :: (440, .iload_n 3) :: (441, .iconst 5) :: (442, .iadd) :: (443, .iaload) :: (444, .aload_n 0) :: (445, .iload_n 3) :: (446, .bipush 6) :: (448, .iadd) :: (449, .iaload) :: (450, .invokevirtual 45) :: (453, .pop) :: (454, .goto 1167) :: kL_law_457
def kL_law_339 : XC := (339, .aload_n 1) :: (340, .aload_n 0) :: (341, .iload_n 3) :: (342, .iconst 1) :: (343, .iadd) :: (344, .iaload) :: (345, .aload_n 0) :: (346, .iload_n 3) :: (347, .iconst 2) :: (348, .iadd) :: (349, .iaload) :: (350, .aload_n 0) :: (351, .iload_n 3) :: (352, .iconst 3) :: (353, .iadd) :: (354, .iaload) :: (355, .invokevirtual 36) :: (358, .pop) :: (359, .aload_n 2) :: (360, .aload_n 0) :: (361, .iload_n 3) :: (362, .iconst 1) :: (363, .iadd) :: (364, .iaload) :: (365, .aload_n 0) :: (366, .iload_n 3) :: (367, .iconst 2) :: (368, .iadd) :: (369, .iaload) :: (370, .aload_n 0) :: (371, .iload_n 3) :: (372, .iconst 3) :: (373, .iadd) :: (374, .iaload) :: (375, .invokevirtual 40) :: (378, .pop) :: (379, .goto 1242) :: kL_law_382
def kL_law_306 : XC := (306, .aload_n 1) :: (307, .aload_n 0) :: (308, .iload_n 3) :: (309, .iconst 1) :: (310, .iadd) :: (311, .iaload) :: (312, .aload_n 0) :: (313, .iload_n 3) :: (314, .iconst 2) :: (315, .iadd) :: (316, .iaload) :: (317, .invokevirtual 32) :: (320, .pop) :: (321, .aload_n 2) :: (322, .aload_n 0) :: (323, .iload_n 3) :: (324, .iconst 1) :: (325, .iadd) :: (326, .iaload) :: (327, .aload_n 0) :: (328, .iload_n 3) :: (329, .iconst 2) :: (330, .iadd) :: (331, .iaload) :: (332, .invokevirtual 35) :: (335, .pop) :: (336, .goto 1285) :: kL_law_339
def kL_law_283 : XC := (283, .aload_n 1) :: (284, .aload_n 0) :: (285, .iload_n 3) :: (286, .iconst 1) :: (287, .iadd) :: (288, .iaload) :: (289, .invokevirtual 28) :: (292, .pop) :: (293, .aload_n 2) :: (294, .aload_n 0) :: (295, .iload_n 3) :: (296, .iconst 1) :: (297, .iadd) :: (298, .iaload) :: (299, .invokevirtual 31) :: (302, .pop) :: (303, .goto 1318) :: kL_law_306
def kL_law_250 : XC := (250, .aload_n 1) :: (251, .aload_n 0) :: (252, .iload_n 3) :: (253, .iconst 1) :: (254, .iadd) :: (255, .iaload) :: (256, .aload_n 0) :: (257, .iload_n 3) :: (258, .iconst 2) :: (259, .iadd) :: (260, .iaload) :: (261, .invokevirtual 23) :: (264, .pop) :: (265, .aload_n 2) :: (266, .aload_n 0) :: (267, .iload_n 3) :: (268, .iconst 1) :: (269, .iadd) :: (270, .iaload) :: (271, .aload_n 0) :: (272, .iload_n 3) :: (273, .iconst 2) :: (274, .iadd) :: (275, .iaload) :: (276, .invokevirtual 27) :: (279, .pop) :: (280, .goto 1341) :: kL_law_283
def kL_law_227 : XC := (227, .aload_n 1) :: (228, .aload_n 0) :: (229, .iload_n 3) :: (230, .iconst 1) :: (231, .iadd) :: (232, .iaload) :: (233, .invokevirtual 18) :: (236, .pop) :: (237, .aload_n 2) :: (238, .aload_n 0) :: (239, .iload_n 3) :: (240, .iconst 1) :: (241, .iadd) :: (242, .iaload) :: (243, .invokevirtual 22) :: (246, .pop) :: (247, .goto 1374) :: kL_law_250
def kL_law_164 : XC := (164, .aload_n 1) :: (165, .aload_n 0) :: (166, .iload_n 3) :: (167, .iconst 1) :: (168, .iadd) :: (169, .iaload) :: (170, .aload_n 0) :: (171, .iload_n 3) :: (172, .iconst 2) :: (173, .iadd) :: (174, .iaload) :: (175, .aload_n 0) :: (176, .iload_n 3) :: (177, .iconst 3) :: (178, .iadd) :: (179, .iaload) :: (180, .aload_n 0) :: (181, .iload_n 3) :: (182, .iconst 4) :: (183, .iadd) :: (184, .iaload) :: (185, .aload_n 0) :: (186, .iload_n 3) :: (187, .iconst 5) :: (188, .iadd) :: (189, .iaload) :: (190, .invokevirtual 13) :: (193, .pop) :: (194, .aload_n 2) :: (195, .aload_n 0) :: (196, .iload_n 3) :: (197, .iconst 1) :: (198, .iadd) :: (199, .iaload) :: (200, .aload_n 0) :: (201, .iload_n 3) :: (202, .iconst 2) :: (203, .iadd) :: (204, .iaload) :: (205, .aload_n 0) :: (206, .iload_n 3) :: (207, .iconst 3) :: (208, .iadd) :: (209, .iaload) :: (210, .aload_n 0) :: (211, .iload_n 3) :: (212, .iconst 4) :: (213, .iadd) :: (214, .iaload) :: (215, .aload_n 0) :: (216, .iload_n 3) :: (217, .iconst 5) :: (218, .iadd) :: (219, .iaload) :: (220, .invokevirtual 17) :: (223, .pop) :: (224, .goto 1397) :: kL_law_227
def kL_law_33 : XC := (33, .tableswitch 1588 0 28 #[131, 194, 217, 250, 273, 306, 349, 424, 527, 570, 645, 688, 731, 794, 857, 916, 949, 1052, 1139, 1182, 1225, 1268, 1311, 1360, 1403, 1466, 1519, 1542, 1565]) :: kL_law_164
def kL_law_27 : XC := (27, .aload_n 0) :: (28, .iload_n 3) :: (29, .iaload) :: (30, .bipush 31) :: (32, .iand) :: kL_law_33
def kL_law_18 : XC := (18, .iload_n 3) :: (19, .aload_n 0) :: (20, .arraylength) :: (21, .bipush 8) :: (23, .isub) :: (24, .if_icmp .gt 1603) :: kL_law_27
def kL_law_0 : XC := (0, .new 7) :: (3, .dup) :: (4, .invokespecial 9) :: (7, .astore_n 1) :: (8, .new 10) :: (11, .dup) :: (12, .invokespecial 12) :: (15, .astore_n 2) :: (16, .iconst 0) :: (17, .istore_n 3) :: kL_law_18
def TT0 : List (Nat × XM) := [(0, 0, 0, true, kX0_init_0), (1, 0, 0, false, kX0_open_0), (2, 0, 1, false, kX0_run_0), (3, 0, 4, false, kX0_happens_0), (4, 0, 4, false, kX0_takesOffice_0), (5, 0, 4, false, kX0_isDismissed_0), (6, 0, 4, false, kX0_isRecalled_0), (7, 0, 0, false, kX0_decide_0), (8, 0, 0, false, kX0_bear_0), (9, 0, 0, false, kX0_committee_0), (10, 0, 0, false, kX0_record_0), (11, 0, 0, false, kX0_draw_0), (12, 0, 0, false, kX0_drawMotion_0), (13, 0, 1, false, kX0_oneThere_0), (14, 0, 1, false, kX0_drawBelow_0), (15, 1, 0, true, kX1_init_0), (16, 1, 0, false, kX1_read_0), (17, 1, 0, false, kX1_startOn_0), (18, 1, 0, false, kX1_note_0), (19, 1, 4, false, kX1_refuse_0), (20, 1, 3, false, kX1_wordsOf_0), (21, 1, 3, false, kX1_formsOf_0), (22, 1, 4, false, kX1_readLine_0), (23, 1, 0, false, kX1_countLine_0), (24, 1, 4, false, kX1_readPart_0), (25, 1, 3, false, kX1_choicesOf_0), (26, 1, 4, false, kX1_readSemicolon_0), (27, 1, 4, false, kX1_readNumber_0), (28, 1, 1, false, kX1_leastOf_0), (29, 1, 1, false, kX1_mostOf_0), (30, 1, 0, false, kX1_take_0), (31, 1, 0, false, kX1_takeToldOf_0), (32, 1, 0, false, kX1_takeOrder_0), (33, 1, 1, false, kX1_chosen_0), (34, 1, 4, false, kX1_isToken_0), (35, 1, 1, false, kX1_startOf_0), (36, 1, 0, false, kX1_advance_0), (37, 1, 4, false, kX1_isBlank_0), (38, 1, 4, false, kX1_isLetter_0), (39, 1, 4, false, kX1_isDigit_0), (40, 2, 0, true, kX2_init_0), (41, 2, 0, false, kX2_clear_0), (42, 2, 0, false, kX2_copyRepublic_0), (43, 2, 0, false, kX2_takeLine_0), (44, 2, 0, false, kX2_addMinister_0), (45, 2, 0, false, kX2_setNumber_0), (46, 2, 4, false, kX2_isMinister_0), (47, 2, 1, false, kX2_everybody_0), (48, 2, 1, false, kX2_want_0), (49, 2, 1, false, kX2_distance_0)]
def TT1 : List (Nat × XM) := [(50, 2, 1, false, kX2_patience_0), (51, 2, 1, false, kX2_agreeing_0), (52, 2, 1, false, kX2_votesOf_0), (53, 2, 4, false, kX2_isPassed_0), (54, 2, 4, false, kX2_areSeats_0), (55, 2, 1, false, kX2_proposal_0), (56, 3, 0, true, kX3_init_0), (57, 3, 0, false, kX3_clear_0), (58, 3, 0, false, kX3_copyRows_0), (59, 3, 1, false, kX3_part_0), (60, 3, 0, false, kX3_set_0), (61, 3, 1, false, kX3_dayFrom_0), (62, 3, 0, false, kX3_add_0), (63, 4, 0, true, kX4_init_0), (64, 4, 0, false, kX4_settle_0), (65, 4, 4, false, kX4_can_0), (66, 4, 0, false, kX4_bring_0), (67, 5, 0, true, kX5_init_0), (68, 5, 3, false, kX5_republicKept_0), (69, 5, 3, false, kX5_rowsKept_0), (70, 5, 0, false, kX5_copyTold_0), (71, 6, 0, true, kX6_init_0), (72, 6, 1, false, kX6_feed_0), (73, 6, 0, false, kX6_feedNumber_0), (74, 6, 1, false, kX6_end_0), (75, 6, 1, false, kX6_text_0), (76, 6, 1, false, kX6_placeFor_0), (77, 6, 0, false, kX6_keep_0), (78, 6, 1, false, kX6_fault_0), (79, 6, 1, false, kX6_count_0), (80, 6, 4, false, kX6_image_0), (81, 6, 4, false, kX6_again_0), (82, 6, 3, false, kX6_republicAt_0), (83, 6, 3, false, kX6_rowsAt_0), (84, 6, 1, false, kX6_republic_0), (85, 6, 1, false, kX6_minister_0), (86, 6, 1, false, kX6_order_0), (87, 6, 1, false, kX6_deed_0), (88, 6, 1, false, kX6_leak_0), (89, 6, 1, false, kX6_was_0), (90, 6, 1, false, kX6_rowTold_0), (91, 6, 3, false, kX6_movedIn_0), (92, 6, 1, false, kX6_off_0), (93, 6, 1, false, kX6_vote_0), (94, 6, 1, false, kX6_broken_0), (95, 6, 1, false, kX6_firstBroken_0), (96, 6, 4, false, kX6_isBroken_0), (97, 6, 1, false, kX6_stop_0), (98, 6, 1, false, kX6_state_0), (99, 6, 1, false, kX6_stateTold_0)]
def TT2 : List (Nat × XM) := [(100, 6, 1, false, kX6_drawn_0), (101, 6, 1, false, kX6_agreed_0), (102, 6, 4, false, kX6_isAgreed_0), (103, 6, 1, false, kX6_manyAgreed_0), (104, 6, 1, false, kX6_bestAgreed_0), (105, 6, 1, false, kX6_rank_0), (106, 6, 1, false, kX6_power_0), (107, 6, 1, false, kX6_rowsDecided_0), (108, 6, 1, false, kX6_coalition_0), (109, 6, 1, false, kX6_keyMinisters_0), (110, 6, 1, false, kX6_leastCoalition_0), (111, 6, 4, false, kX6_isLeastCoalition_0), (112, 6, 1, false, kX6_bribe_0), (113, 6, 1, false, kX6_bribeOf_0), (114, 6, 1, false, kX6_lobby_0), (115, 6, 4, false, kX6_isRest_0), (116, 6, 1, false, kX6_gain_0), (117, 6, 1, false, kX6_boughtBy_0), (118, 6, 1, false, kX6_bargain_0), (119, 6, 1, false, kX6_leavers_0), (120, 6, 1, false, kX6_sharesOf_0), (121, 6, 1, false, kX6_nature_0), (122, 6, 1, false, kX6_firstWrong_0), (123, 6, 1, false, kX6_mend_0), (124, 6, 1, false, kX6_seats_0), (125, 6, 1, false, kX6_findFitting_0), (126, 6, 4, false, kX6_isFit_0), (127, 6, 1, false, kX6_tellingSeason_0), (128, 6, 1, false, kX6_unlikeProposals_0), (129, 6, 1, false, kX6_reshuffle_0), (130, 6, 1, false, kX6_wetSeasons_0), (131, 6, 1, false, kX6_fits_0), (132, 6, 4, false, kX6_areThere_0), (133, 6, 1, false, kX6_unfit_0), (134, 6, 1, false, kX6_manyFitting_0), (135, 6, 1, false, kX6_likelyRain_0), (136, 6, 1, false, kX6_extreme_0), (137, 6, 1, false, kX6_lies_0), (138, 6, 4, false, kX6_isSeason_0), (139, 6, 4, false, kX6_isAmount_0), (140, 6, 1, false, kX6_dayOf_0), (141, 6, 1, false, kX6_numberOf_0), (142, 6, 1, false, kX6_amount_0), (143, 6, 4, false, kX6_has_0), (144, 6, 1, false, kX6_cell_0), (145, 6, 0, false, kX6_put_0), (146, 6, 0, false, kX6_copy_0), (147, 6, 1, false, kX6_fraction_0), (148, 6, 1, false, kX6_commonDivisor_0), (149, 7, 0, true, kX7_init_0)]
def TT3 : List (Nat × XM) := [(150, 7, 4, false, kX7_isIn_0), (151, 7, 1, false, kX7_feed_0), (152, 7, 1, false, kX7_end_0), (153, 7, 1, false, kX7_byteAt_0), (154, 7, 4, false, kX7_isLetter_0), (155, 7, 4, false, kX7_isDigit_0), (156, 7, 2, false, kX7_four_0), (157, 7, 2, false, kX7_eight_0), (158, 7, 1, false, kX7_wordOf_0), (159, 7, 1, false, kX7_kindOrSeason_0), (160, 7, 1, false, kX7_otherWord_0), (161, 7, 0, false, kX7_advance_0), (162, 7, 0, false, kX7_ends_0), (163, 7, 0, false, kX7_also_0), (164, 7, 1, false, kX7_numbered_0), (165, 7, 1, false, kX7_takes_0), (166, 7, 0, false, kX7_endsLine_0), (167, 7, 1, false, kX7_kindTold_0), (168, 7, 1, false, kX7_seasonTold_0), (169, 7, 1, false, kX7_ministerTold_0), (170, 7, 0, false, kX7_ministerLine_0), (171, 7, 0, false, kX7_wantLine_0), (172, 7, 0, false, kX7_feudLine_0), (173, 7, 0, false, kX7_republicLine_0), (174, 7, 0, false, kX7_adds_0), (175, 7, 0, false, kX7_noLine_0), (176, 7, 0, false, kX7_orderLine_0), (177, 7, 0, false, kX7_yearLine_0), (178, 7, 0, false, kX7_leakLine_0), (179, 7, 0, false, kX7_summerLine_0), (180, 7, 0, false, kX7_bargainLine_0), (181, 7, 1, false, kX7_placeOf_0), (182, 7, 1, false, kX7_sizeOf_0), (183, 7, 4, false, kX7_isOf_0), (184, 7, 0, false, kX7_clears_0), (185, 7, 1, false, kX7_text_0), (186, 7, 1, false, kX7_fault_0), (187, 7, 4, false, kX7_isRepublic_0), (188, 7, 1, false, kX7_of_0), (189, 7, 1, false, kX7_ministers_0), (190, 7, 4, false, kX7_isMinister_0), (191, 7, 1, false, kX7_ofMinister_0), (192, 7, 1, false, kX7_wants_0), (193, 7, 1, false, kX7_republic_0), (194, 7, 1, false, kX7_minister_0), (195, 7, 1, false, kX7_amountOf_0), (196, 7, 0, false, kX7_talksOf_0), (197, 7, 1, false, kX7_size_0), (198, 7, 1, false, kX7_offOf_0), (199, 7, 1, false, kX7_yields_0)]
def TT4 : List (Nat × XM) := [(200, 7, 4, false, kX7_agrees_0), (201, 7, 1, false, kX7_agreeing_0), (202, 7, 1, false, kX7_votesOf_0), (203, 7, 1, false, kX7_vetoes_0), (204, 7, 4, false, kX7_isPassed_0), (205, 7, 4, false, kX7_areAmounts_0), (206, 7, 4, false, kX7_isMotion_0), (207, 7, 1, false, kX7_off_0), (208, 7, 1, false, kX7_vote_0), (209, 7, 4, false, kX7_areOrders_0), (210, 7, 1, false, kX7_orderOf_0), (211, 7, 1, false, kX7_order_0), (212, 7, 1, false, kX7_amount_0), (213, 7, 4, false, kX7_isBroken_0), (214, 7, 1, false, kX7_firstBroken_0), (215, 7, 1, false, kX7_broken_0), (216, 7, 0, false, kX7_begins_0), (217, 7, 4, false, kX7_canNature_0), (218, 7, 0, false, kX7_goes_0), (219, 7, 0, false, kX7_committee_0), (220, 7, 0, false, kX7_angers_0), (221, 7, 0, false, kX7_moves_0), (222, 7, 1, false, kX7_deeds_0), (223, 7, 1, false, kX7_deedOf_0), (224, 7, 1, false, kX7_deed_0), (225, 7, 4, false, kX7_isThere_0), (226, 7, 4, false, kX7_can_0), (227, 7, 0, false, kX7_does_0), (228, 7, 4, false, kX7_areTold_0), (229, 7, 0, false, kX7_runs_0), (230, 7, 1, false, kX7_stop_0), (231, 7, 1, false, kX7_state_0), (232, 7, 4, false, kX7_isAgreed_0), (233, 7, 1, false, kX7_rank_0), (234, 7, 1, false, kX7_agreed_0), (235, 7, 1, false, kX7_common_0), (236, 7, 1, false, kX7_part_0), (237, 7, 1, false, kX7_factorial_0), (238, 7, 1, false, kX7_bits_0), (239, 7, 1, false, kX7_everybody_0), (240, 7, 4, false, kX7_isEnough_0), (241, 7, 1, false, kX7_power_0), (242, 7, 1, false, kX7_key_0), (243, 7, 4, false, kX7_isLeast_0), (244, 7, 1, false, kX7_coalition_0), (245, 7, 1, false, kX7_costOf_0), (246, 7, 1, false, kX7_bribe_0), (247, 7, 1, false, kX7_priceOf_0), (248, 7, 1, false, kX7_gainOf_0), (249, 7, 4, false, kX7_isRest_0)]
def TT5 : List (Nat × XM) := [(250, 7, 1, false, kX7_lobby_0), (251, 7, 1, false, kX7_bargain_0), (252, 7, 4, false, kX7_isSummer_0), (253, 7, 1, false, kX7_summerDays_0), (254, 7, 1, false, kX7_dayOf_0), (255, 7, 1, false, kX7_numberOf_0), (256, 7, 1, false, kX7_was_0), (257, 7, 1, false, kX7_wrongDay_0), (258, 7, 4, false, kX7_isHeatRight_0), (259, 7, 1, false, kX7_cloudAfter_0), (260, 7, 0, false, kX7_mends_0), (261, 7, 1, false, kX7_fallsOn_0), (262, 7, 1, false, kX7_nature_0), (263, 7, 4, false, kX7_areSeats_0), (264, 7, 1, false, kX7_proposal_0), (265, 7, 4, false, kX7_isSat_0), (266, 7, 1, false, kX7_unlike_0), (267, 7, 1, false, kX7_seats_0), (268, 7, 1, false, kX7_rainy_0), (269, 7, 1, false, kX7_reshuffle_0), (270, 7, 1, false, kX7_leakOf_0), (271, 7, 1, false, kX7_leak_0), (272, 7, 4, false, kX7_isFit_0), (273, 7, 1, false, kX7_fitting_0), (274, 7, 1, false, kX7_extreme_0), (275, 7, 1, false, kX7_rainyFit_0), (276, 7, 1, false, kX7_fits_0), (277, 7, 1, false, kX7_below_0), (278, 7, 1, false, kX7_thereAt_0), (279, 7, 1, false, kX7_drawn_0), (280, 7, 1, false, kX7_count_0), (281, 7, 4, false, kX7_image_0), (282, 7, 4, false, kX7_again_0), (283, 10, 1, false, kJ0_length_8abf5_0), (284, 10, 4, false, kJ0_isEmpty_aae02_0), (285, 10, 5, false, kJ0_charAt_5068e_0), (286, 10, 6, false, kJ0_coder_7d493_0), (287, 10, 4, false, kJ0_isLatin1_aae02_0), (288, 10, 0, false, kJ0_checkIndex_df160_0), (289, 11, 5, false, kJ1_charAt_3b067_0), (290, 13, 1, false, kJ3_checkIndex_8e157_0), (291, 16, 1, false, kJ6_bitCount_0f7a4_0), (292, 17, 0, false, kJ7_fill_53178_0), (293, 8, 4, false, kL_law_0)]
def TT : List (Nat × XM) := TT0 ++ (TT1 ++ (TT2 ++ (TT3 ++ (TT4 ++ (TT5)))))
set_option maxRecDepth 100000 in
theorem oTX0_init : okT (0, 0, 0, true, kX0_init_0) := ⟨by decide +kernel, rfl, rfl, fun _ => rfl, by decide +kernel⟩
set_option maxRecDepth 100000 in
theorem oTX0_open : okT (1, 0, 0, false, kX0_open_0) := ⟨by decide +kernel, rfl, rfl, fun h => absurd h (by decide), by decide +kernel⟩
set_option maxRecDepth 100000 in
theorem oTX0_run : okT (2, 0, 1, false, kX0_run_0) := ⟨by decide +kernel, rfl, rfl, fun h => absurd h (by decide), by decide +kernel⟩
set_option maxRecDepth 100000 in
theorem oTX0_happens : okT (3, 0, 4, false, kX0_happens_0) := ⟨by decide +kernel, rfl, rfl, fun h => absurd h (by decide), by decide +kernel⟩
set_option maxRecDepth 100000 in
theorem oTX0_takesOffice : okT (4, 0, 4, false, kX0_takesOffice_0) := ⟨by decide +kernel, rfl, rfl, fun h => absurd h (by decide), by decide +kernel⟩
set_option maxRecDepth 100000 in
theorem oTX0_isDismissed : okT (5, 0, 4, false, kX0_isDismissed_0) := ⟨by decide +kernel, rfl, rfl, fun h => absurd h (by decide), by decide +kernel⟩
set_option maxRecDepth 100000 in
theorem oTX0_isRecalled : okT (6, 0, 4, false, kX0_isRecalled_0) := ⟨by decide +kernel, rfl, rfl, fun h => absurd h (by decide), by decide +kernel⟩
set_option maxRecDepth 100000 in
theorem oTX0_decide : okT (7, 0, 0, false, kX0_decide_0) := ⟨by decide +kernel, rfl, rfl, fun h => absurd h (by decide), by decide +kernel⟩
set_option maxRecDepth 100000 in
theorem oTX0_bear : okT (8, 0, 0, false, kX0_bear_0) := ⟨by decide +kernel, rfl, rfl, fun h => absurd h (by decide), by decide +kernel⟩
set_option maxRecDepth 100000 in
theorem oTX0_committee : okT (9, 0, 0, false, kX0_committee_0) := ⟨by decide +kernel, rfl, rfl, fun h => absurd h (by decide), by decide +kernel⟩
set_option maxRecDepth 100000 in
theorem oTX0_record : okT (10, 0, 0, false, kX0_record_0) := ⟨by decide +kernel, rfl, rfl, fun h => absurd h (by decide), by decide +kernel⟩
set_option maxRecDepth 100000 in
theorem oTX0_draw : okT (11, 0, 0, false, kX0_draw_0) := ⟨by decide +kernel, rfl, rfl, fun h => absurd h (by decide), by decide +kernel⟩
set_option maxRecDepth 100000 in
theorem oTX0_drawMotion : okT (12, 0, 0, false, kX0_drawMotion_0) := ⟨by decide +kernel, rfl, rfl, fun h => absurd h (by decide), by decide +kernel⟩
set_option maxRecDepth 100000 in
theorem oTX0_oneThere : okT (13, 0, 1, false, kX0_oneThere_0) := ⟨by decide +kernel, rfl, rfl, fun h => absurd h (by decide), by decide +kernel⟩
set_option maxRecDepth 100000 in
theorem oTX0_drawBelow : okT (14, 0, 1, false, kX0_drawBelow_0) := ⟨by decide +kernel, rfl, rfl, fun h => absurd h (by decide), by decide +kernel⟩
set_option maxRecDepth 100000 in
theorem oTX1_init : okT (15, 1, 0, true, kX1_init_0) := ⟨by decide +kernel, rfl, rfl, fun _ => rfl, by decide +kernel⟩
set_option maxRecDepth 100000 in
theorem oTX1_read : okT (16, 1, 0, false, kX1_read_0) := ⟨by decide +kernel, rfl, rfl, fun h => absurd h (by decide), by decide +kernel⟩
set_option maxRecDepth 100000 in
theorem oTX1_startOn : okT (17, 1, 0, false, kX1_startOn_0) := ⟨by decide +kernel, rfl, rfl, fun h => absurd h (by decide), by decide +kernel⟩
set_option maxRecDepth 100000 in
theorem oTX1_note : okT (18, 1, 0, false, kX1_note_0) := ⟨by decide +kernel, rfl, rfl, fun h => absurd h (by decide), by decide +kernel⟩
set_option maxRecDepth 100000 in
theorem oTX1_refuse : okT (19, 1, 4, false, kX1_refuse_0) := ⟨by decide +kernel, rfl, rfl, fun h => absurd h (by decide), by decide +kernel⟩
set_option maxRecDepth 100000 in
theorem oTX1_wordsOf : okT (20, 1, 3, false, kX1_wordsOf_0) := ⟨by decide +kernel, rfl, Or.inl ⟨_, rfl⟩, fun h => absurd h (by decide), by decide +kernel⟩
set_option maxRecDepth 100000 in
theorem oTX1_formsOf : okT (21, 1, 3, false, kX1_formsOf_0) := ⟨by decide +kernel, rfl, Or.inl ⟨_, rfl⟩, fun h => absurd h (by decide), by decide +kernel⟩
set_option maxRecDepth 100000 in
theorem oTX1_readLine : okT (22, 1, 4, false, kX1_readLine_0) := ⟨by decide +kernel, rfl, rfl, fun h => absurd h (by decide), by decide +kernel⟩
set_option maxRecDepth 100000 in
theorem oTX1_countLine : okT (23, 1, 0, false, kX1_countLine_0) := ⟨by decide +kernel, rfl, rfl, fun h => absurd h (by decide), by decide +kernel⟩
set_option maxRecDepth 100000 in
theorem oTX1_readPart : okT (24, 1, 4, false, kX1_readPart_0) := ⟨by decide +kernel, rfl, rfl, fun h => absurd h (by decide), by decide +kernel⟩
set_option maxRecDepth 100000 in
theorem oTX1_choicesOf : okT (25, 1, 3, false, kX1_choicesOf_0) := ⟨by decide +kernel, rfl, Or.inl ⟨_, rfl⟩, fun h => absurd h (by decide), by decide +kernel⟩
set_option maxRecDepth 100000 in
theorem oTX1_readSemicolon : okT (26, 1, 4, false, kX1_readSemicolon_0) := ⟨by decide +kernel, rfl, rfl, fun h => absurd h (by decide), by decide +kernel⟩
set_option maxRecDepth 100000 in
theorem oTX1_readNumber : okT (27, 1, 4, false, kX1_readNumber_0) := ⟨by decide +kernel, rfl, rfl, fun h => absurd h (by decide), by decide +kernel⟩
set_option maxRecDepth 100000 in
theorem oTX1_leastOf : okT (28, 1, 1, false, kX1_leastOf_0) := ⟨by decide +kernel, rfl, rfl, fun h => absurd h (by decide), by decide +kernel⟩
set_option maxRecDepth 100000 in
theorem oTX1_mostOf : okT (29, 1, 1, false, kX1_mostOf_0) := ⟨by decide +kernel, rfl, rfl, fun h => absurd h (by decide), by decide +kernel⟩
set_option maxRecDepth 100000 in
theorem oTX1_take : okT (30, 1, 0, false, kX1_take_0) := ⟨by decide +kernel, rfl, rfl, fun h => absurd h (by decide), by decide +kernel⟩
set_option maxRecDepth 100000 in
theorem oTX1_takeToldOf : okT (31, 1, 0, false, kX1_takeToldOf_0) := ⟨by decide +kernel, rfl, rfl, fun h => absurd h (by decide), by decide +kernel⟩
set_option maxRecDepth 100000 in
theorem oTX1_takeOrder : okT (32, 1, 0, false, kX1_takeOrder_0) := ⟨by decide +kernel, rfl, rfl, fun h => absurd h (by decide), by decide +kernel⟩
set_option maxRecDepth 100000 in
theorem oTX1_chosen : okT (33, 1, 1, false, kX1_chosen_0) := ⟨by decide +kernel, rfl, rfl, fun h => absurd h (by decide), by decide +kernel⟩
set_option maxRecDepth 100000 in
theorem oTX1_isToken : okT (34, 1, 4, false, kX1_isToken_0) := ⟨by decide +kernel, rfl, rfl, fun h => absurd h (by decide), by decide +kernel⟩
set_option maxRecDepth 100000 in
theorem oTX1_startOf : okT (35, 1, 1, false, kX1_startOf_0) := ⟨by decide +kernel, rfl, rfl, fun h => absurd h (by decide), by decide +kernel⟩
set_option maxRecDepth 100000 in
theorem oTX1_advance : okT (36, 1, 0, false, kX1_advance_0) := ⟨by decide +kernel, rfl, rfl, fun h => absurd h (by decide), by decide +kernel⟩
set_option maxRecDepth 100000 in
theorem oTX1_isBlank : okT (37, 1, 4, false, kX1_isBlank_0) := ⟨by decide +kernel, rfl, rfl, fun h => absurd h (by decide), by decide +kernel⟩
set_option maxRecDepth 100000 in
theorem oTX1_isLetter : okT (38, 1, 4, false, kX1_isLetter_0) := ⟨by decide +kernel, rfl, rfl, fun h => absurd h (by decide), by decide +kernel⟩
set_option maxRecDepth 100000 in
theorem oTX1_isDigit : okT (39, 1, 4, false, kX1_isDigit_0) := ⟨by decide +kernel, rfl, rfl, fun h => absurd h (by decide), by decide +kernel⟩
set_option maxRecDepth 100000 in
theorem oTX2_init : okT (40, 2, 0, true, kX2_init_0) := ⟨by decide +kernel, rfl, rfl, fun _ => rfl, by decide +kernel⟩
set_option maxRecDepth 100000 in
theorem oTX2_clear : okT (41, 2, 0, false, kX2_clear_0) := ⟨by decide +kernel, rfl, rfl, fun h => absurd h (by decide), by decide +kernel⟩
set_option maxRecDepth 100000 in
theorem oTX2_copyRepublic : okT (42, 2, 0, false, kX2_copyRepublic_0) := ⟨by decide +kernel, rfl, rfl, fun h => absurd h (by decide), by decide +kernel⟩
set_option maxRecDepth 100000 in
theorem oTX2_takeLine : okT (43, 2, 0, false, kX2_takeLine_0) := ⟨by decide +kernel, rfl, rfl, fun h => absurd h (by decide), by decide +kernel⟩
set_option maxRecDepth 100000 in
theorem oTX2_addMinister : okT (44, 2, 0, false, kX2_addMinister_0) := ⟨by decide +kernel, rfl, rfl, fun h => absurd h (by decide), by decide +kernel⟩
set_option maxRecDepth 100000 in
theorem oTX2_setNumber : okT (45, 2, 0, false, kX2_setNumber_0) := ⟨by decide +kernel, rfl, rfl, fun h => absurd h (by decide), by decide +kernel⟩
set_option maxRecDepth 100000 in
theorem oTX2_isMinister : okT (46, 2, 4, false, kX2_isMinister_0) := ⟨by decide +kernel, rfl, rfl, fun h => absurd h (by decide), by decide +kernel⟩
set_option maxRecDepth 100000 in
theorem oTX2_everybody : okT (47, 2, 1, false, kX2_everybody_0) := ⟨by decide +kernel, rfl, rfl, fun h => absurd h (by decide), by decide +kernel⟩
set_option maxRecDepth 100000 in
theorem oTX2_want : okT (48, 2, 1, false, kX2_want_0) := ⟨by decide +kernel, rfl, rfl, fun h => absurd h (by decide), by decide +kernel⟩
set_option maxRecDepth 100000 in
theorem oTX2_distance : okT (49, 2, 1, false, kX2_distance_0) := ⟨by decide +kernel, rfl, rfl, fun h => absurd h (by decide), by decide +kernel⟩
set_option maxRecDepth 100000 in
theorem oTX2_patience : okT (50, 2, 1, false, kX2_patience_0) := ⟨by decide +kernel, rfl, rfl, fun h => absurd h (by decide), by decide +kernel⟩
set_option maxRecDepth 100000 in
theorem oTX2_agreeing : okT (51, 2, 1, false, kX2_agreeing_0) := ⟨by decide +kernel, rfl, rfl, fun h => absurd h (by decide), by decide +kernel⟩
set_option maxRecDepth 100000 in
theorem oTX2_votesOf : okT (52, 2, 1, false, kX2_votesOf_0) := ⟨by decide +kernel, rfl, rfl, fun h => absurd h (by decide), by decide +kernel⟩
set_option maxRecDepth 100000 in
theorem oTX2_isPassed : okT (53, 2, 4, false, kX2_isPassed_0) := ⟨by decide +kernel, rfl, rfl, fun h => absurd h (by decide), by decide +kernel⟩
set_option maxRecDepth 100000 in
theorem oTX2_areSeats : okT (54, 2, 4, false, kX2_areSeats_0) := ⟨by decide +kernel, rfl, rfl, fun h => absurd h (by decide), by decide +kernel⟩
set_option maxRecDepth 100000 in
theorem oTX2_proposal : okT (55, 2, 1, false, kX2_proposal_0) := ⟨by decide +kernel, rfl, rfl, fun h => absurd h (by decide), by decide +kernel⟩
set_option maxRecDepth 100000 in
theorem oTX3_init : okT (56, 3, 0, true, kX3_init_0) := ⟨by decide +kernel, rfl, rfl, fun _ => rfl, by decide +kernel⟩
set_option maxRecDepth 100000 in
theorem oTX3_clear : okT (57, 3, 0, false, kX3_clear_0) := ⟨by decide +kernel, rfl, rfl, fun h => absurd h (by decide), by decide +kernel⟩
set_option maxRecDepth 100000 in
theorem oTX3_copyRows : okT (58, 3, 0, false, kX3_copyRows_0) := ⟨by decide +kernel, rfl, rfl, fun h => absurd h (by decide), by decide +kernel⟩
set_option maxRecDepth 100000 in
theorem oTX3_part : okT (59, 3, 1, false, kX3_part_0) := ⟨by decide +kernel, rfl, rfl, fun h => absurd h (by decide), by decide +kernel⟩
set_option maxRecDepth 100000 in
theorem oTX3_set : okT (60, 3, 0, false, kX3_set_0) := ⟨by decide +kernel, rfl, rfl, fun h => absurd h (by decide), by decide +kernel⟩
set_option maxRecDepth 100000 in
theorem oTX3_dayFrom : okT (61, 3, 1, false, kX3_dayFrom_0) := ⟨by decide +kernel, rfl, rfl, fun h => absurd h (by decide), by decide +kernel⟩
set_option maxRecDepth 100000 in
theorem oTX3_add : okT (62, 3, 0, false, kX3_add_0) := ⟨by decide +kernel, rfl, rfl, fun h => absurd h (by decide), by decide +kernel⟩
set_option maxRecDepth 100000 in
theorem oTX4_init : okT (63, 4, 0, true, kX4_init_0) := ⟨by decide +kernel, rfl, rfl, fun _ => rfl, by decide +kernel⟩
set_option maxRecDepth 100000 in
theorem oTX4_settle : okT (64, 4, 0, false, kX4_settle_0) := ⟨by decide +kernel, rfl, rfl, fun h => absurd h (by decide), by decide +kernel⟩
set_option maxRecDepth 100000 in
theorem oTX4_can : okT (65, 4, 4, false, kX4_can_0) := ⟨by decide +kernel, rfl, rfl, fun h => absurd h (by decide), by decide +kernel⟩
set_option maxRecDepth 100000 in
theorem oTX4_bring : okT (66, 4, 0, false, kX4_bring_0) := ⟨by decide +kernel, rfl, rfl, fun h => absurd h (by decide), by decide +kernel⟩
set_option maxRecDepth 100000 in
theorem oTX5_init : okT (67, 5, 0, true, kX5_init_0) := ⟨by decide +kernel, rfl, rfl, fun _ => rfl, by decide +kernel⟩
set_option maxRecDepth 100000 in
theorem oTX5_republicKept : okT (68, 5, 3, false, kX5_republicKept_0) := ⟨by decide +kernel, rfl, Or.inl ⟨_, rfl⟩, fun h => absurd h (by decide), by decide +kernel⟩
set_option maxRecDepth 100000 in
theorem oTX5_rowsKept : okT (69, 5, 3, false, kX5_rowsKept_0) := ⟨by decide +kernel, rfl, Or.inl ⟨_, rfl⟩, fun h => absurd h (by decide), by decide +kernel⟩
set_option maxRecDepth 100000 in
theorem oTX5_copyTold : okT (70, 5, 0, false, kX5_copyTold_0) := ⟨by decide +kernel, rfl, rfl, fun h => absurd h (by decide), by decide +kernel⟩
set_option maxRecDepth 100000 in
theorem oTX6_init : okT (71, 6, 0, true, kX6_init_0) := ⟨by decide +kernel, rfl, rfl, fun _ => rfl, by decide +kernel⟩
set_option maxRecDepth 100000 in
theorem oTX6_feed : okT (72, 6, 1, false, kX6_feed_0) := ⟨by decide +kernel, rfl, rfl, fun h => absurd h (by decide), by decide +kernel⟩
set_option maxRecDepth 100000 in
theorem oTX6_feedNumber : okT (73, 6, 0, false, kX6_feedNumber_0) := ⟨by decide +kernel, rfl, rfl, fun h => absurd h (by decide), by decide +kernel⟩
set_option maxRecDepth 100000 in
theorem oTX6_end : okT (74, 6, 1, false, kX6_end_0) := ⟨by decide +kernel, rfl, rfl, fun h => absurd h (by decide), by decide +kernel⟩
set_option maxRecDepth 100000 in
theorem oTX6_text : okT (75, 6, 1, false, kX6_text_0) := ⟨by decide +kernel, rfl, rfl, fun h => absurd h (by decide), by decide +kernel⟩
set_option maxRecDepth 100000 in
theorem oTX6_placeFor : okT (76, 6, 1, false, kX6_placeFor_0) := ⟨by decide +kernel, rfl, rfl, fun h => absurd h (by decide), by decide +kernel⟩
set_option maxRecDepth 100000 in
theorem oTX6_keep : okT (77, 6, 0, false, kX6_keep_0) := ⟨by decide +kernel, rfl, rfl, fun h => absurd h (by decide), by decide +kernel⟩
set_option maxRecDepth 100000 in
theorem oTX6_fault : okT (78, 6, 1, false, kX6_fault_0) := ⟨by decide +kernel, rfl, rfl, fun h => absurd h (by decide), by decide +kernel⟩
set_option maxRecDepth 100000 in
theorem oTX6_count : okT (79, 6, 1, false, kX6_count_0) := ⟨by decide +kernel, rfl, rfl, fun h => absurd h (by decide), by decide +kernel⟩
set_option maxRecDepth 100000 in
theorem oTX6_image : okT (80, 6, 4, false, kX6_image_0) := ⟨by decide +kernel, rfl, rfl, fun h => absurd h (by decide), by decide +kernel⟩
set_option maxRecDepth 100000 in
theorem oTX6_again : okT (81, 6, 4, false, kX6_again_0) := ⟨by decide +kernel, rfl, rfl, fun h => absurd h (by decide), by decide +kernel⟩
set_option maxRecDepth 100000 in
theorem oTX6_republicAt : okT (82, 6, 3, false, kX6_republicAt_0) := ⟨by decide +kernel, rfl, Or.inl ⟨_, rfl⟩, fun h => absurd h (by decide), by decide +kernel⟩
set_option maxRecDepth 100000 in
theorem oTX6_rowsAt : okT (83, 6, 3, false, kX6_rowsAt_0) := ⟨by decide +kernel, rfl, Or.inl ⟨_, rfl⟩, fun h => absurd h (by decide), by decide +kernel⟩
set_option maxRecDepth 100000 in
theorem oTX6_republic : okT (84, 6, 1, false, kX6_republic_0) := ⟨by decide +kernel, rfl, rfl, fun h => absurd h (by decide), by decide +kernel⟩
set_option maxRecDepth 100000 in
theorem oTX6_minister : okT (85, 6, 1, false, kX6_minister_0) := ⟨by decide +kernel, rfl, rfl, fun h => absurd h (by decide), by decide +kernel⟩
set_option maxRecDepth 100000 in
theorem oTX6_order : okT (86, 6, 1, false, kX6_order_0) := ⟨by decide +kernel, rfl, rfl, fun h => absurd h (by decide), by decide +kernel⟩
set_option maxRecDepth 100000 in
theorem oTX6_deed : okT (87, 6, 1, false, kX6_deed_0) := ⟨by decide +kernel, rfl, rfl, fun h => absurd h (by decide), by decide +kernel⟩
set_option maxRecDepth 100000 in
theorem oTX6_leak : okT (88, 6, 1, false, kX6_leak_0) := ⟨by decide +kernel, rfl, rfl, fun h => absurd h (by decide), by decide +kernel⟩
set_option maxRecDepth 100000 in
theorem oTX6_was : okT (89, 6, 1, false, kX6_was_0) := ⟨by decide +kernel, rfl, rfl, fun h => absurd h (by decide), by decide +kernel⟩
set_option maxRecDepth 100000 in
theorem oTX6_rowTold : okT (90, 6, 1, false, kX6_rowTold_0) := ⟨by decide +kernel, rfl, rfl, fun h => absurd h (by decide), by decide +kernel⟩
set_option maxRecDepth 100000 in
theorem oTX6_movedIn : okT (91, 6, 3, false, kX6_movedIn_0) := ⟨by decide +kernel, rfl, Or.inl ⟨_, rfl⟩, fun h => absurd h (by decide), by decide +kernel⟩
set_option maxRecDepth 100000 in
theorem oTX6_off : okT (92, 6, 1, false, kX6_off_0) := ⟨by decide +kernel, rfl, rfl, fun h => absurd h (by decide), by decide +kernel⟩
set_option maxRecDepth 100000 in
theorem oTX6_vote : okT (93, 6, 1, false, kX6_vote_0) := ⟨by decide +kernel, rfl, rfl, fun h => absurd h (by decide), by decide +kernel⟩
set_option maxRecDepth 100000 in
theorem oTX6_broken : okT (94, 6, 1, false, kX6_broken_0) := ⟨by decide +kernel, rfl, rfl, fun h => absurd h (by decide), by decide +kernel⟩
set_option maxRecDepth 100000 in
theorem oTX6_firstBroken : okT (95, 6, 1, false, kX6_firstBroken_0) := ⟨by decide +kernel, rfl, rfl, fun h => absurd h (by decide), by decide +kernel⟩
set_option maxRecDepth 100000 in
theorem oTX6_isBroken : okT (96, 6, 4, false, kX6_isBroken_0) := ⟨by decide +kernel, rfl, rfl, fun h => absurd h (by decide), by decide +kernel⟩
set_option maxRecDepth 100000 in
theorem oTX6_stop : okT (97, 6, 1, false, kX6_stop_0) := ⟨by decide +kernel, rfl, rfl, fun h => absurd h (by decide), by decide +kernel⟩
set_option maxRecDepth 100000 in
theorem oTX6_state : okT (98, 6, 1, false, kX6_state_0) := ⟨by decide +kernel, rfl, rfl, fun h => absurd h (by decide), by decide +kernel⟩
set_option maxRecDepth 100000 in
theorem oTX6_stateTold : okT (99, 6, 1, false, kX6_stateTold_0) := ⟨by decide +kernel, rfl, rfl, fun h => absurd h (by decide), by decide +kernel⟩
set_option maxRecDepth 100000 in
theorem oTX6_drawn : okT (100, 6, 1, false, kX6_drawn_0) := ⟨by decide +kernel, rfl, rfl, fun h => absurd h (by decide), by decide +kernel⟩
set_option maxRecDepth 100000 in
theorem oTX6_agreed : okT (101, 6, 1, false, kX6_agreed_0) := ⟨by decide +kernel, rfl, rfl, fun h => absurd h (by decide), by decide +kernel⟩
set_option maxRecDepth 100000 in
theorem oTX6_isAgreed : okT (102, 6, 4, false, kX6_isAgreed_0) := ⟨by decide +kernel, rfl, rfl, fun h => absurd h (by decide), by decide +kernel⟩
set_option maxRecDepth 100000 in
theorem oTX6_manyAgreed : okT (103, 6, 1, false, kX6_manyAgreed_0) := ⟨by decide +kernel, rfl, rfl, fun h => absurd h (by decide), by decide +kernel⟩
set_option maxRecDepth 100000 in
theorem oTX6_bestAgreed : okT (104, 6, 1, false, kX6_bestAgreed_0) := ⟨by decide +kernel, rfl, rfl, fun h => absurd h (by decide), by decide +kernel⟩
set_option maxRecDepth 100000 in
theorem oTX6_rank : okT (105, 6, 1, false, kX6_rank_0) := ⟨by decide +kernel, rfl, rfl, fun h => absurd h (by decide), by decide +kernel⟩
set_option maxRecDepth 100000 in
theorem oTX6_power : okT (106, 6, 1, false, kX6_power_0) := ⟨by decide +kernel, rfl, rfl, fun h => absurd h (by decide), by decide +kernel⟩
set_option maxRecDepth 100000 in
theorem oTX6_rowsDecided : okT (107, 6, 1, false, kX6_rowsDecided_0) := ⟨by decide +kernel, rfl, rfl, fun h => absurd h (by decide), by decide +kernel⟩
set_option maxRecDepth 100000 in
theorem oTX6_coalition : okT (108, 6, 1, false, kX6_coalition_0) := ⟨by decide +kernel, rfl, rfl, fun h => absurd h (by decide), by decide +kernel⟩
set_option maxRecDepth 100000 in
theorem oTX6_keyMinisters : okT (109, 6, 1, false, kX6_keyMinisters_0) := ⟨by decide +kernel, rfl, rfl, fun h => absurd h (by decide), by decide +kernel⟩
set_option maxRecDepth 100000 in
theorem oTX6_leastCoalition : okT (110, 6, 1, false, kX6_leastCoalition_0) := ⟨by decide +kernel, rfl, rfl, fun h => absurd h (by decide), by decide +kernel⟩
set_option maxRecDepth 100000 in
theorem oTX6_isLeastCoalition : okT (111, 6, 4, false, kX6_isLeastCoalition_0) := ⟨by decide +kernel, rfl, rfl, fun h => absurd h (by decide), by decide +kernel⟩
set_option maxRecDepth 100000 in
theorem oTX6_bribe : okT (112, 6, 1, false, kX6_bribe_0) := ⟨by decide +kernel, rfl, rfl, fun h => absurd h (by decide), by decide +kernel⟩
set_option maxRecDepth 100000 in
theorem oTX6_bribeOf : okT (113, 6, 1, false, kX6_bribeOf_0) := ⟨by decide +kernel, rfl, rfl, fun h => absurd h (by decide), by decide +kernel⟩
set_option maxRecDepth 100000 in
theorem oTX6_lobby : okT (114, 6, 1, false, kX6_lobby_0) := ⟨by decide +kernel, rfl, rfl, fun h => absurd h (by decide), by decide +kernel⟩
set_option maxRecDepth 100000 in
theorem oTX6_isRest : okT (115, 6, 4, false, kX6_isRest_0) := ⟨by decide +kernel, rfl, rfl, fun h => absurd h (by decide), by decide +kernel⟩
set_option maxRecDepth 100000 in
theorem oTX6_gain : okT (116, 6, 1, false, kX6_gain_0) := ⟨by decide +kernel, rfl, rfl, fun h => absurd h (by decide), by decide +kernel⟩
set_option maxRecDepth 100000 in
theorem oTX6_boughtBy : okT (117, 6, 1, false, kX6_boughtBy_0) := ⟨by decide +kernel, rfl, rfl, fun h => absurd h (by decide), by decide +kernel⟩
set_option maxRecDepth 100000 in
theorem oTX6_bargain : okT (118, 6, 1, false, kX6_bargain_0) := ⟨by decide +kernel, rfl, rfl, fun h => absurd h (by decide), by decide +kernel⟩
set_option maxRecDepth 100000 in
theorem oTX6_leavers : okT (119, 6, 1, false, kX6_leavers_0) := ⟨by decide +kernel, rfl, rfl, fun h => absurd h (by decide), by decide +kernel⟩
set_option maxRecDepth 100000 in
theorem oTX6_sharesOf : okT (120, 6, 1, false, kX6_sharesOf_0) := ⟨by decide +kernel, rfl, rfl, fun h => absurd h (by decide), by decide +kernel⟩
set_option maxRecDepth 100000 in
theorem oTX6_nature : okT (121, 6, 1, false, kX6_nature_0) := ⟨by decide +kernel, rfl, rfl, fun h => absurd h (by decide), by decide +kernel⟩
set_option maxRecDepth 100000 in
theorem oTX6_firstWrong : okT (122, 6, 1, false, kX6_firstWrong_0) := ⟨by decide +kernel, rfl, rfl, fun h => absurd h (by decide), by decide +kernel⟩
set_option maxRecDepth 100000 in
theorem oTX6_mend : okT (123, 6, 1, false, kX6_mend_0) := ⟨by decide +kernel, rfl, rfl, fun h => absurd h (by decide), by decide +kernel⟩
set_option maxRecDepth 100000 in
theorem oTX6_seats : okT (124, 6, 1, false, kX6_seats_0) := ⟨by decide +kernel, rfl, rfl, fun h => absurd h (by decide), by decide +kernel⟩
set_option maxRecDepth 100000 in
theorem oTX6_findFitting : okT (125, 6, 1, false, kX6_findFitting_0) := ⟨by decide +kernel, rfl, rfl, fun h => absurd h (by decide), by decide +kernel⟩
set_option maxRecDepth 100000 in
theorem oTX6_isFit : okT (126, 6, 4, false, kX6_isFit_0) := ⟨by decide +kernel, rfl, rfl, fun h => absurd h (by decide), by decide +kernel⟩
set_option maxRecDepth 100000 in
theorem oTX6_tellingSeason : okT (127, 6, 1, false, kX6_tellingSeason_0) := ⟨by decide +kernel, rfl, rfl, fun h => absurd h (by decide), by decide +kernel⟩
set_option maxRecDepth 100000 in
theorem oTX6_unlikeProposals : okT (128, 6, 1, false, kX6_unlikeProposals_0) := ⟨by decide +kernel, rfl, rfl, fun h => absurd h (by decide), by decide +kernel⟩
set_option maxRecDepth 100000 in
theorem oTX6_reshuffle : okT (129, 6, 1, false, kX6_reshuffle_0) := ⟨by decide +kernel, rfl, rfl, fun h => absurd h (by decide), by decide +kernel⟩
set_option maxRecDepth 100000 in
theorem oTX6_wetSeasons : okT (130, 6, 1, false, kX6_wetSeasons_0) := ⟨by decide +kernel, rfl, rfl, fun h => absurd h (by decide), by decide +kernel⟩
set_option maxRecDepth 100000 in
theorem oTX6_fits : okT (131, 6, 1, false, kX6_fits_0) := ⟨by decide +kernel, rfl, rfl, fun h => absurd h (by decide), by decide +kernel⟩
set_option maxRecDepth 100000 in
theorem oTX6_areThere : okT (132, 6, 4, false, kX6_areThere_0) := ⟨by decide +kernel, rfl, rfl, fun h => absurd h (by decide), by decide +kernel⟩
set_option maxRecDepth 100000 in
theorem oTX6_unfit : okT (133, 6, 1, false, kX6_unfit_0) := ⟨by decide +kernel, rfl, rfl, fun h => absurd h (by decide), by decide +kernel⟩
set_option maxRecDepth 100000 in
theorem oTX6_manyFitting : okT (134, 6, 1, false, kX6_manyFitting_0) := ⟨by decide +kernel, rfl, rfl, fun h => absurd h (by decide), by decide +kernel⟩
set_option maxRecDepth 100000 in
theorem oTX6_likelyRain : okT (135, 6, 1, false, kX6_likelyRain_0) := ⟨by decide +kernel, rfl, rfl, fun h => absurd h (by decide), by decide +kernel⟩
set_option maxRecDepth 100000 in
theorem oTX6_extreme : okT (136, 6, 1, false, kX6_extreme_0) := ⟨by decide +kernel, rfl, rfl, fun h => absurd h (by decide), by decide +kernel⟩
set_option maxRecDepth 100000 in
theorem oTX6_lies : okT (137, 6, 1, false, kX6_lies_0) := ⟨by decide +kernel, rfl, rfl, fun h => absurd h (by decide), by decide +kernel⟩
set_option maxRecDepth 100000 in
theorem oTX6_isSeason : okT (138, 6, 4, false, kX6_isSeason_0) := ⟨by decide +kernel, rfl, rfl, fun h => absurd h (by decide), by decide +kernel⟩
set_option maxRecDepth 100000 in
theorem oTX6_isAmount : okT (139, 6, 4, false, kX6_isAmount_0) := ⟨by decide +kernel, rfl, rfl, fun h => absurd h (by decide), by decide +kernel⟩
set_option maxRecDepth 100000 in
theorem oTX6_dayOf : okT (140, 6, 1, false, kX6_dayOf_0) := ⟨by decide +kernel, rfl, rfl, fun h => absurd h (by decide), by decide +kernel⟩
set_option maxRecDepth 100000 in
theorem oTX6_numberOf : okT (141, 6, 1, false, kX6_numberOf_0) := ⟨by decide +kernel, rfl, rfl, fun h => absurd h (by decide), by decide +kernel⟩
set_option maxRecDepth 100000 in
theorem oTX6_amount : okT (142, 6, 1, false, kX6_amount_0) := ⟨by decide +kernel, rfl, rfl, fun h => absurd h (by decide), by decide +kernel⟩
set_option maxRecDepth 100000 in
theorem oTX6_has : okT (143, 6, 4, false, kX6_has_0) := ⟨by decide +kernel, rfl, rfl, fun h => absurd h (by decide), by decide +kernel⟩
set_option maxRecDepth 100000 in
theorem oTX6_cell : okT (144, 6, 1, false, kX6_cell_0) := ⟨by decide +kernel, rfl, rfl, fun h => absurd h (by decide), by decide +kernel⟩
set_option maxRecDepth 100000 in
theorem oTX6_put : okT (145, 6, 0, false, kX6_put_0) := ⟨by decide +kernel, rfl, rfl, fun h => absurd h (by decide), by decide +kernel⟩
set_option maxRecDepth 100000 in
theorem oTX6_copy : okT (146, 6, 0, false, kX6_copy_0) := ⟨by decide +kernel, rfl, rfl, fun h => absurd h (by decide), by decide +kernel⟩
set_option maxRecDepth 100000 in
theorem oTX6_fraction : okT (147, 6, 1, false, kX6_fraction_0) := ⟨by decide +kernel, rfl, rfl, fun h => absurd h (by decide), by decide +kernel⟩
set_option maxRecDepth 100000 in
theorem oTX6_commonDivisor : okT (148, 6, 1, false, kX6_commonDivisor_0) := ⟨by decide +kernel, rfl, rfl, fun h => absurd h (by decide), by decide +kernel⟩
set_option maxRecDepth 100000 in
theorem oTX7_init : okT (149, 7, 0, true, kX7_init_0) := ⟨by decide +kernel, rfl, rfl, fun _ => rfl, by decide +kernel⟩
set_option maxRecDepth 100000 in
theorem oTX7_isIn : okT (150, 7, 4, false, kX7_isIn_0) := ⟨by decide +kernel, rfl, rfl, fun h => absurd h (by decide), by decide +kernel⟩
set_option maxRecDepth 100000 in
theorem oTX7_feed : okT (151, 7, 1, false, kX7_feed_0) := ⟨by decide +kernel, rfl, rfl, fun h => absurd h (by decide), by decide +kernel⟩
set_option maxRecDepth 100000 in
theorem oTX7_end : okT (152, 7, 1, false, kX7_end_0) := ⟨by decide +kernel, rfl, rfl, fun h => absurd h (by decide), by decide +kernel⟩
set_option maxRecDepth 100000 in
theorem oTX7_byteAt : okT (153, 7, 1, false, kX7_byteAt_0) := ⟨by decide +kernel, rfl, rfl, fun h => absurd h (by decide), by decide +kernel⟩
set_option maxRecDepth 100000 in
theorem oTX7_isLetter : okT (154, 7, 4, false, kX7_isLetter_0) := ⟨by decide +kernel, rfl, rfl, fun h => absurd h (by decide), by decide +kernel⟩
set_option maxRecDepth 100000 in
theorem oTX7_isDigit : okT (155, 7, 4, false, kX7_isDigit_0) := ⟨by decide +kernel, rfl, rfl, fun h => absurd h (by decide), by decide +kernel⟩
set_option maxRecDepth 100000 in
theorem oTX7_four : okT (156, 7, 2, false, kX7_four_0) := ⟨by decide +kernel, rfl, rfl, fun h => absurd h (by decide), by decide +kernel⟩
set_option maxRecDepth 100000 in
theorem oTX7_eight : okT (157, 7, 2, false, kX7_eight_0) := ⟨by decide +kernel, rfl, rfl, fun h => absurd h (by decide), by decide +kernel⟩
set_option maxRecDepth 100000 in
theorem oTX7_wordOf : okT (158, 7, 1, false, kX7_wordOf_0) := ⟨by decide +kernel, rfl, rfl, fun h => absurd h (by decide), by decide +kernel⟩
set_option maxRecDepth 100000 in
theorem oTX7_kindOrSeason : okT (159, 7, 1, false, kX7_kindOrSeason_0) := ⟨by decide +kernel, rfl, rfl, fun h => absurd h (by decide), by decide +kernel⟩
set_option maxRecDepth 100000 in
theorem oTX7_otherWord : okT (160, 7, 1, false, kX7_otherWord_0) := ⟨by decide +kernel, rfl, rfl, fun h => absurd h (by decide), by decide +kernel⟩
set_option maxRecDepth 100000 in
theorem oTX7_advance : okT (161, 7, 0, false, kX7_advance_0) := ⟨by decide +kernel, rfl, rfl, fun h => absurd h (by decide), by decide +kernel⟩
set_option maxRecDepth 100000 in
theorem oTX7_ends : okT (162, 7, 0, false, kX7_ends_0) := ⟨by decide +kernel, rfl, rfl, fun h => absurd h (by decide), by decide +kernel⟩
set_option maxRecDepth 100000 in
theorem oTX7_also : okT (163, 7, 0, false, kX7_also_0) := ⟨by decide +kernel, rfl, rfl, fun h => absurd h (by decide), by decide +kernel⟩
set_option maxRecDepth 100000 in
theorem oTX7_numbered : okT (164, 7, 1, false, kX7_numbered_0) := ⟨by decide +kernel, rfl, rfl, fun h => absurd h (by decide), by decide +kernel⟩
set_option maxRecDepth 100000 in
theorem oTX7_takes : okT (165, 7, 1, false, kX7_takes_0) := ⟨by decide +kernel, rfl, rfl, fun h => absurd h (by decide), by decide +kernel⟩
set_option maxRecDepth 100000 in
theorem oTX7_endsLine : okT (166, 7, 0, false, kX7_endsLine_0) := ⟨by decide +kernel, rfl, rfl, fun h => absurd h (by decide), by decide +kernel⟩
set_option maxRecDepth 100000 in
theorem oTX7_kindTold : okT (167, 7, 1, false, kX7_kindTold_0) := ⟨by decide +kernel, rfl, rfl, fun h => absurd h (by decide), by decide +kernel⟩
set_option maxRecDepth 100000 in
theorem oTX7_seasonTold : okT (168, 7, 1, false, kX7_seasonTold_0) := ⟨by decide +kernel, rfl, rfl, fun h => absurd h (by decide), by decide +kernel⟩
set_option maxRecDepth 100000 in
theorem oTX7_ministerTold : okT (169, 7, 1, false, kX7_ministerTold_0) := ⟨by decide +kernel, rfl, rfl, fun h => absurd h (by decide), by decide +kernel⟩
set_option maxRecDepth 100000 in
theorem oTX7_ministerLine : okT (170, 7, 0, false, kX7_ministerLine_0) := ⟨by decide +kernel, rfl, rfl, fun h => absurd h (by decide), by decide +kernel⟩
set_option maxRecDepth 100000 in
theorem oTX7_wantLine : okT (171, 7, 0, false, kX7_wantLine_0) := ⟨by decide +kernel, rfl, rfl, fun h => absurd h (by decide), by decide +kernel⟩
set_option maxRecDepth 100000 in
theorem oTX7_feudLine : okT (172, 7, 0, false, kX7_feudLine_0) := ⟨by decide +kernel, rfl, rfl, fun h => absurd h (by decide), by decide +kernel⟩
set_option maxRecDepth 100000 in
theorem oTX7_republicLine : okT (173, 7, 0, false, kX7_republicLine_0) := ⟨by decide +kernel, rfl, rfl, fun h => absurd h (by decide), by decide +kernel⟩
set_option maxRecDepth 100000 in
theorem oTX7_adds : okT (174, 7, 0, false, kX7_adds_0) := ⟨by decide +kernel, rfl, rfl, fun h => absurd h (by decide), by decide +kernel⟩
set_option maxRecDepth 100000 in
theorem oTX7_noLine : okT (175, 7, 0, false, kX7_noLine_0) := ⟨by decide +kernel, rfl, rfl, fun h => absurd h (by decide), by decide +kernel⟩
set_option maxRecDepth 100000 in
theorem oTX7_orderLine : okT (176, 7, 0, false, kX7_orderLine_0) := ⟨by decide +kernel, rfl, rfl, fun h => absurd h (by decide), by decide +kernel⟩
set_option maxRecDepth 100000 in
theorem oTX7_yearLine : okT (177, 7, 0, false, kX7_yearLine_0) := ⟨by decide +kernel, rfl, rfl, fun h => absurd h (by decide), by decide +kernel⟩
set_option maxRecDepth 100000 in
theorem oTX7_leakLine : okT (178, 7, 0, false, kX7_leakLine_0) := ⟨by decide +kernel, rfl, rfl, fun h => absurd h (by decide), by decide +kernel⟩
set_option maxRecDepth 100000 in
theorem oTX7_summerLine : okT (179, 7, 0, false, kX7_summerLine_0) := ⟨by decide +kernel, rfl, rfl, fun h => absurd h (by decide), by decide +kernel⟩
set_option maxRecDepth 100000 in
theorem oTX7_bargainLine : okT (180, 7, 0, false, kX7_bargainLine_0) := ⟨by decide +kernel, rfl, rfl, fun h => absurd h (by decide), by decide +kernel⟩
set_option maxRecDepth 100000 in
theorem oTX7_placeOf : okT (181, 7, 1, false, kX7_placeOf_0) := ⟨by decide +kernel, rfl, rfl, fun h => absurd h (by decide), by decide +kernel⟩
set_option maxRecDepth 100000 in
theorem oTX7_sizeOf : okT (182, 7, 1, false, kX7_sizeOf_0) := ⟨by decide +kernel, rfl, rfl, fun h => absurd h (by decide), by decide +kernel⟩
set_option maxRecDepth 100000 in
theorem oTX7_isOf : okT (183, 7, 4, false, kX7_isOf_0) := ⟨by decide +kernel, rfl, rfl, fun h => absurd h (by decide), by decide +kernel⟩
set_option maxRecDepth 100000 in
theorem oTX7_clears : okT (184, 7, 0, false, kX7_clears_0) := ⟨by decide +kernel, rfl, rfl, fun h => absurd h (by decide), by decide +kernel⟩
set_option maxRecDepth 100000 in
theorem oTX7_text : okT (185, 7, 1, false, kX7_text_0) := ⟨by decide +kernel, rfl, rfl, fun h => absurd h (by decide), by decide +kernel⟩
set_option maxRecDepth 100000 in
theorem oTX7_fault : okT (186, 7, 1, false, kX7_fault_0) := ⟨by decide +kernel, rfl, rfl, fun h => absurd h (by decide), by decide +kernel⟩
set_option maxRecDepth 100000 in
theorem oTX7_isRepublic : okT (187, 7, 4, false, kX7_isRepublic_0) := ⟨by decide +kernel, rfl, rfl, fun h => absurd h (by decide), by decide +kernel⟩
set_option maxRecDepth 100000 in
theorem oTX7_of : okT (188, 7, 1, false, kX7_of_0) := ⟨by decide +kernel, rfl, rfl, fun h => absurd h (by decide), by decide +kernel⟩
set_option maxRecDepth 100000 in
theorem oTX7_ministers : okT (189, 7, 1, false, kX7_ministers_0) := ⟨by decide +kernel, rfl, rfl, fun h => absurd h (by decide), by decide +kernel⟩
set_option maxRecDepth 100000 in
theorem oTX7_isMinister : okT (190, 7, 4, false, kX7_isMinister_0) := ⟨by decide +kernel, rfl, rfl, fun h => absurd h (by decide), by decide +kernel⟩
set_option maxRecDepth 100000 in
theorem oTX7_ofMinister : okT (191, 7, 1, false, kX7_ofMinister_0) := ⟨by decide +kernel, rfl, rfl, fun h => absurd h (by decide), by decide +kernel⟩
set_option maxRecDepth 100000 in
theorem oTX7_wants : okT (192, 7, 1, false, kX7_wants_0) := ⟨by decide +kernel, rfl, rfl, fun h => absurd h (by decide), by decide +kernel⟩
set_option maxRecDepth 100000 in
theorem oTX7_republic : okT (193, 7, 1, false, kX7_republic_0) := ⟨by decide +kernel, rfl, rfl, fun h => absurd h (by decide), by decide +kernel⟩
set_option maxRecDepth 100000 in
theorem oTX7_minister : okT (194, 7, 1, false, kX7_minister_0) := ⟨by decide +kernel, rfl, rfl, fun h => absurd h (by decide), by decide +kernel⟩
set_option maxRecDepth 100000 in
theorem oTX7_amountOf : okT (195, 7, 1, false, kX7_amountOf_0) := ⟨by decide +kernel, rfl, rfl, fun h => absurd h (by decide), by decide +kernel⟩
set_option maxRecDepth 100000 in
theorem oTX7_talksOf : okT (196, 7, 0, false, kX7_talksOf_0) := ⟨by decide +kernel, rfl, rfl, fun h => absurd h (by decide), by decide +kernel⟩
set_option maxRecDepth 100000 in
theorem oTX7_size : okT (197, 7, 1, false, kX7_size_0) := ⟨by decide +kernel, rfl, rfl, fun h => absurd h (by decide), by decide +kernel⟩
set_option maxRecDepth 100000 in
theorem oTX7_offOf : okT (198, 7, 1, false, kX7_offOf_0) := ⟨by decide +kernel, rfl, rfl, fun h => absurd h (by decide), by decide +kernel⟩
set_option maxRecDepth 100000 in
theorem oTX7_yields : okT (199, 7, 1, false, kX7_yields_0) := ⟨by decide +kernel, rfl, rfl, fun h => absurd h (by decide), by decide +kernel⟩
set_option maxRecDepth 100000 in
theorem oTX7_agrees : okT (200, 7, 4, false, kX7_agrees_0) := ⟨by decide +kernel, rfl, rfl, fun h => absurd h (by decide), by decide +kernel⟩
set_option maxRecDepth 100000 in
theorem oTX7_agreeing : okT (201, 7, 1, false, kX7_agreeing_0) := ⟨by decide +kernel, rfl, rfl, fun h => absurd h (by decide), by decide +kernel⟩
set_option maxRecDepth 100000 in
theorem oTX7_votesOf : okT (202, 7, 1, false, kX7_votesOf_0) := ⟨by decide +kernel, rfl, rfl, fun h => absurd h (by decide), by decide +kernel⟩
set_option maxRecDepth 100000 in
theorem oTX7_vetoes : okT (203, 7, 1, false, kX7_vetoes_0) := ⟨by decide +kernel, rfl, rfl, fun h => absurd h (by decide), by decide +kernel⟩
set_option maxRecDepth 100000 in
theorem oTX7_isPassed : okT (204, 7, 4, false, kX7_isPassed_0) := ⟨by decide +kernel, rfl, rfl, fun h => absurd h (by decide), by decide +kernel⟩
set_option maxRecDepth 100000 in
theorem oTX7_areAmounts : okT (205, 7, 4, false, kX7_areAmounts_0) := ⟨by decide +kernel, rfl, rfl, fun h => absurd h (by decide), by decide +kernel⟩
set_option maxRecDepth 100000 in
theorem oTX7_isMotion : okT (206, 7, 4, false, kX7_isMotion_0) := ⟨by decide +kernel, rfl, rfl, fun h => absurd h (by decide), by decide +kernel⟩
set_option maxRecDepth 100000 in
theorem oTX7_off : okT (207, 7, 1, false, kX7_off_0) := ⟨by decide +kernel, rfl, rfl, fun h => absurd h (by decide), by decide +kernel⟩
set_option maxRecDepth 100000 in
theorem oTX7_vote : okT (208, 7, 1, false, kX7_vote_0) := ⟨by decide +kernel, rfl, rfl, fun h => absurd h (by decide), by decide +kernel⟩
set_option maxRecDepth 100000 in
theorem oTX7_areOrders : okT (209, 7, 4, false, kX7_areOrders_0) := ⟨by decide +kernel, rfl, rfl, fun h => absurd h (by decide), by decide +kernel⟩
set_option maxRecDepth 100000 in
theorem oTX7_orderOf : okT (210, 7, 1, false, kX7_orderOf_0) := ⟨by decide +kernel, rfl, rfl, fun h => absurd h (by decide), by decide +kernel⟩
set_option maxRecDepth 100000 in
theorem oTX7_order : okT (211, 7, 1, false, kX7_order_0) := ⟨by decide +kernel, rfl, rfl, fun h => absurd h (by decide), by decide +kernel⟩
set_option maxRecDepth 100000 in
theorem oTX7_amount : okT (212, 7, 1, false, kX7_amount_0) := ⟨by decide +kernel, rfl, rfl, fun h => absurd h (by decide), by decide +kernel⟩
set_option maxRecDepth 100000 in
theorem oTX7_isBroken : okT (213, 7, 4, false, kX7_isBroken_0) := ⟨by decide +kernel, rfl, rfl, fun h => absurd h (by decide), by decide +kernel⟩
set_option maxRecDepth 100000 in
theorem oTX7_firstBroken : okT (214, 7, 1, false, kX7_firstBroken_0) := ⟨by decide +kernel, rfl, rfl, fun h => absurd h (by decide), by decide +kernel⟩
set_option maxRecDepth 100000 in
theorem oTX7_broken : okT (215, 7, 1, false, kX7_broken_0) := ⟨by decide +kernel, rfl, rfl, fun h => absurd h (by decide), by decide +kernel⟩
set_option maxRecDepth 100000 in
theorem oTX7_begins : okT (216, 7, 0, false, kX7_begins_0) := ⟨by decide +kernel, rfl, rfl, fun h => absurd h (by decide), by decide +kernel⟩
set_option maxRecDepth 100000 in
theorem oTX7_canNature : okT (217, 7, 4, false, kX7_canNature_0) := ⟨by decide +kernel, rfl, rfl, fun h => absurd h (by decide), by decide +kernel⟩
set_option maxRecDepth 100000 in
theorem oTX7_goes : okT (218, 7, 0, false, kX7_goes_0) := ⟨by decide +kernel, rfl, rfl, fun h => absurd h (by decide), by decide +kernel⟩
set_option maxRecDepth 100000 in
theorem oTX7_committee : okT (219, 7, 0, false, kX7_committee_0) := ⟨by decide +kernel, rfl, rfl, fun h => absurd h (by decide), by decide +kernel⟩
set_option maxRecDepth 100000 in
theorem oTX7_angers : okT (220, 7, 0, false, kX7_angers_0) := ⟨by decide +kernel, rfl, rfl, fun h => absurd h (by decide), by decide +kernel⟩
set_option maxRecDepth 100000 in
theorem oTX7_moves : okT (221, 7, 0, false, kX7_moves_0) := ⟨by decide +kernel, rfl, rfl, fun h => absurd h (by decide), by decide +kernel⟩
set_option maxRecDepth 100000 in
theorem oTX7_deeds : okT (222, 7, 1, false, kX7_deeds_0) := ⟨by decide +kernel, rfl, rfl, fun h => absurd h (by decide), by decide +kernel⟩
set_option maxRecDepth 100000 in
theorem oTX7_deedOf : okT (223, 7, 1, false, kX7_deedOf_0) := ⟨by decide +kernel, rfl, rfl, fun h => absurd h (by decide), by decide +kernel⟩
set_option maxRecDepth 100000 in
theorem oTX7_deed : okT (224, 7, 1, false, kX7_deed_0) := ⟨by decide +kernel, rfl, rfl, fun h => absurd h (by decide), by decide +kernel⟩
set_option maxRecDepth 100000 in
theorem oTX7_isThere : okT (225, 7, 4, false, kX7_isThere_0) := ⟨by decide +kernel, rfl, rfl, fun h => absurd h (by decide), by decide +kernel⟩
set_option maxRecDepth 100000 in
theorem oTX7_can : okT (226, 7, 4, false, kX7_can_0) := ⟨by decide +kernel, rfl, rfl, fun h => absurd h (by decide), by decide +kernel⟩
set_option maxRecDepth 100000 in
theorem oTX7_does : okT (227, 7, 0, false, kX7_does_0) := ⟨by decide +kernel, rfl, rfl, fun h => absurd h (by decide), by decide +kernel⟩
set_option maxRecDepth 100000 in
theorem oTX7_areTold : okT (228, 7, 4, false, kX7_areTold_0) := ⟨by decide +kernel, rfl, rfl, fun h => absurd h (by decide), by decide +kernel⟩
set_option maxRecDepth 100000 in
theorem oTX7_runs : okT (229, 7, 0, false, kX7_runs_0) := ⟨by decide +kernel, rfl, rfl, fun h => absurd h (by decide), by decide +kernel⟩
set_option maxRecDepth 100000 in
theorem oTX7_stop : okT (230, 7, 1, false, kX7_stop_0) := ⟨by decide +kernel, rfl, rfl, fun h => absurd h (by decide), by decide +kernel⟩
set_option maxRecDepth 100000 in
theorem oTX7_state : okT (231, 7, 1, false, kX7_state_0) := ⟨by decide +kernel, rfl, rfl, fun h => absurd h (by decide), by decide +kernel⟩
set_option maxRecDepth 100000 in
theorem oTX7_isAgreed : okT (232, 7, 4, false, kX7_isAgreed_0) := ⟨by decide +kernel, rfl, rfl, fun h => absurd h (by decide), by decide +kernel⟩
set_option maxRecDepth 100000 in
theorem oTX7_rank : okT (233, 7, 1, false, kX7_rank_0) := ⟨by decide +kernel, rfl, rfl, fun h => absurd h (by decide), by decide +kernel⟩
set_option maxRecDepth 100000 in
theorem oTX7_agreed : okT (234, 7, 1, false, kX7_agreed_0) := ⟨by decide +kernel, rfl, rfl, fun h => absurd h (by decide), by decide +kernel⟩
set_option maxRecDepth 100000 in
theorem oTX7_common : okT (235, 7, 1, false, kX7_common_0) := ⟨by decide +kernel, rfl, rfl, fun h => absurd h (by decide), by decide +kernel⟩
set_option maxRecDepth 100000 in
theorem oTX7_part : okT (236, 7, 1, false, kX7_part_0) := ⟨by decide +kernel, rfl, rfl, fun h => absurd h (by decide), by decide +kernel⟩
set_option maxRecDepth 100000 in
theorem oTX7_factorial : okT (237, 7, 1, false, kX7_factorial_0) := ⟨by decide +kernel, rfl, rfl, fun h => absurd h (by decide), by decide +kernel⟩
set_option maxRecDepth 100000 in
theorem oTX7_bits : okT (238, 7, 1, false, kX7_bits_0) := ⟨by decide +kernel, rfl, rfl, fun h => absurd h (by decide), by decide +kernel⟩
set_option maxRecDepth 100000 in
theorem oTX7_everybody : okT (239, 7, 1, false, kX7_everybody_0) := ⟨by decide +kernel, rfl, rfl, fun h => absurd h (by decide), by decide +kernel⟩
set_option maxRecDepth 100000 in
theorem oTX7_isEnough : okT (240, 7, 4, false, kX7_isEnough_0) := ⟨by decide +kernel, rfl, rfl, fun h => absurd h (by decide), by decide +kernel⟩
set_option maxRecDepth 100000 in
theorem oTX7_power : okT (241, 7, 1, false, kX7_power_0) := ⟨by decide +kernel, rfl, rfl, fun h => absurd h (by decide), by decide +kernel⟩
set_option maxRecDepth 100000 in
theorem oTX7_key : okT (242, 7, 1, false, kX7_key_0) := ⟨by decide +kernel, rfl, rfl, fun h => absurd h (by decide), by decide +kernel⟩
set_option maxRecDepth 100000 in
theorem oTX7_isLeast : okT (243, 7, 4, false, kX7_isLeast_0) := ⟨by decide +kernel, rfl, rfl, fun h => absurd h (by decide), by decide +kernel⟩
set_option maxRecDepth 100000 in
theorem oTX7_coalition : okT (244, 7, 1, false, kX7_coalition_0) := ⟨by decide +kernel, rfl, rfl, fun h => absurd h (by decide), by decide +kernel⟩
set_option maxRecDepth 100000 in
theorem oTX7_costOf : okT (245, 7, 1, false, kX7_costOf_0) := ⟨by decide +kernel, rfl, rfl, fun h => absurd h (by decide), by decide +kernel⟩
set_option maxRecDepth 100000 in
theorem oTX7_bribe : okT (246, 7, 1, false, kX7_bribe_0) := ⟨by decide +kernel, rfl, rfl, fun h => absurd h (by decide), by decide +kernel⟩
set_option maxRecDepth 100000 in
theorem oTX7_priceOf : okT (247, 7, 1, false, kX7_priceOf_0) := ⟨by decide +kernel, rfl, rfl, fun h => absurd h (by decide), by decide +kernel⟩
set_option maxRecDepth 100000 in
theorem oTX7_gainOf : okT (248, 7, 1, false, kX7_gainOf_0) := ⟨by decide +kernel, rfl, rfl, fun h => absurd h (by decide), by decide +kernel⟩
set_option maxRecDepth 100000 in
theorem oTX7_isRest : okT (249, 7, 4, false, kX7_isRest_0) := ⟨by decide +kernel, rfl, rfl, fun h => absurd h (by decide), by decide +kernel⟩
set_option maxRecDepth 100000 in
theorem oTX7_lobby : okT (250, 7, 1, false, kX7_lobby_0) := ⟨by decide +kernel, rfl, rfl, fun h => absurd h (by decide), by decide +kernel⟩
set_option maxRecDepth 100000 in
theorem oTX7_bargain : okT (251, 7, 1, false, kX7_bargain_0) := ⟨by decide +kernel, rfl, rfl, fun h => absurd h (by decide), by decide +kernel⟩
set_option maxRecDepth 100000 in
theorem oTX7_isSummer : okT (252, 7, 4, false, kX7_isSummer_0) := ⟨by decide +kernel, rfl, rfl, fun h => absurd h (by decide), by decide +kernel⟩
set_option maxRecDepth 100000 in
theorem oTX7_summerDays : okT (253, 7, 1, false, kX7_summerDays_0) := ⟨by decide +kernel, rfl, rfl, fun h => absurd h (by decide), by decide +kernel⟩
set_option maxRecDepth 100000 in
theorem oTX7_dayOf : okT (254, 7, 1, false, kX7_dayOf_0) := ⟨by decide +kernel, rfl, rfl, fun h => absurd h (by decide), by decide +kernel⟩
set_option maxRecDepth 100000 in
theorem oTX7_numberOf : okT (255, 7, 1, false, kX7_numberOf_0) := ⟨by decide +kernel, rfl, rfl, fun h => absurd h (by decide), by decide +kernel⟩
set_option maxRecDepth 100000 in
theorem oTX7_was : okT (256, 7, 1, false, kX7_was_0) := ⟨by decide +kernel, rfl, rfl, fun h => absurd h (by decide), by decide +kernel⟩
set_option maxRecDepth 100000 in
theorem oTX7_wrongDay : okT (257, 7, 1, false, kX7_wrongDay_0) := ⟨by decide +kernel, rfl, rfl, fun h => absurd h (by decide), by decide +kernel⟩
set_option maxRecDepth 100000 in
theorem oTX7_isHeatRight : okT (258, 7, 4, false, kX7_isHeatRight_0) := ⟨by decide +kernel, rfl, rfl, fun h => absurd h (by decide), by decide +kernel⟩
set_option maxRecDepth 100000 in
theorem oTX7_cloudAfter : okT (259, 7, 1, false, kX7_cloudAfter_0) := ⟨by decide +kernel, rfl, rfl, fun h => absurd h (by decide), by decide +kernel⟩
set_option maxRecDepth 100000 in
theorem oTX7_mends : okT (260, 7, 0, false, kX7_mends_0) := ⟨by decide +kernel, rfl, rfl, fun h => absurd h (by decide), by decide +kernel⟩
set_option maxRecDepth 100000 in
theorem oTX7_fallsOn : okT (261, 7, 1, false, kX7_fallsOn_0) := ⟨by decide +kernel, rfl, rfl, fun h => absurd h (by decide), by decide +kernel⟩
set_option maxRecDepth 100000 in
theorem oTX7_nature : okT (262, 7, 1, false, kX7_nature_0) := ⟨by decide +kernel, rfl, rfl, fun h => absurd h (by decide), by decide +kernel⟩
set_option maxRecDepth 100000 in
theorem oTX7_areSeats : okT (263, 7, 4, false, kX7_areSeats_0) := ⟨by decide +kernel, rfl, rfl, fun h => absurd h (by decide), by decide +kernel⟩
set_option maxRecDepth 100000 in
theorem oTX7_proposal : okT (264, 7, 1, false, kX7_proposal_0) := ⟨by decide +kernel, rfl, rfl, fun h => absurd h (by decide), by decide +kernel⟩
set_option maxRecDepth 100000 in
theorem oTX7_isSat : okT (265, 7, 4, false, kX7_isSat_0) := ⟨by decide +kernel, rfl, rfl, fun h => absurd h (by decide), by decide +kernel⟩
set_option maxRecDepth 100000 in
theorem oTX7_unlike : okT (266, 7, 1, false, kX7_unlike_0) := ⟨by decide +kernel, rfl, rfl, fun h => absurd h (by decide), by decide +kernel⟩
set_option maxRecDepth 100000 in
theorem oTX7_seats : okT (267, 7, 1, false, kX7_seats_0) := ⟨by decide +kernel, rfl, rfl, fun h => absurd h (by decide), by decide +kernel⟩
set_option maxRecDepth 100000 in
theorem oTX7_rainy : okT (268, 7, 1, false, kX7_rainy_0) := ⟨by decide +kernel, rfl, rfl, fun h => absurd h (by decide), by decide +kernel⟩
set_option maxRecDepth 100000 in
theorem oTX7_reshuffle : okT (269, 7, 1, false, kX7_reshuffle_0) := ⟨by decide +kernel, rfl, rfl, fun h => absurd h (by decide), by decide +kernel⟩
set_option maxRecDepth 100000 in
theorem oTX7_leakOf : okT (270, 7, 1, false, kX7_leakOf_0) := ⟨by decide +kernel, rfl, rfl, fun h => absurd h (by decide), by decide +kernel⟩
set_option maxRecDepth 100000 in
theorem oTX7_leak : okT (271, 7, 1, false, kX7_leak_0) := ⟨by decide +kernel, rfl, rfl, fun h => absurd h (by decide), by decide +kernel⟩
set_option maxRecDepth 100000 in
theorem oTX7_isFit : okT (272, 7, 4, false, kX7_isFit_0) := ⟨by decide +kernel, rfl, rfl, fun h => absurd h (by decide), by decide +kernel⟩
set_option maxRecDepth 100000 in
theorem oTX7_fitting : okT (273, 7, 1, false, kX7_fitting_0) := ⟨by decide +kernel, rfl, rfl, fun h => absurd h (by decide), by decide +kernel⟩
set_option maxRecDepth 100000 in
theorem oTX7_extreme : okT (274, 7, 1, false, kX7_extreme_0) := ⟨by decide +kernel, rfl, rfl, fun h => absurd h (by decide), by decide +kernel⟩
set_option maxRecDepth 100000 in
theorem oTX7_rainyFit : okT (275, 7, 1, false, kX7_rainyFit_0) := ⟨by decide +kernel, rfl, rfl, fun h => absurd h (by decide), by decide +kernel⟩
set_option maxRecDepth 100000 in
theorem oTX7_fits : okT (276, 7, 1, false, kX7_fits_0) := ⟨by decide +kernel, rfl, rfl, fun h => absurd h (by decide), by decide +kernel⟩
set_option maxRecDepth 100000 in
theorem oTX7_below : okT (277, 7, 1, false, kX7_below_0) := ⟨by decide +kernel, rfl, rfl, fun h => absurd h (by decide), by decide +kernel⟩
set_option maxRecDepth 100000 in
theorem oTX7_thereAt : okT (278, 7, 1, false, kX7_thereAt_0) := ⟨by decide +kernel, rfl, rfl, fun h => absurd h (by decide), by decide +kernel⟩
set_option maxRecDepth 100000 in
theorem oTX7_drawn : okT (279, 7, 1, false, kX7_drawn_0) := ⟨by decide +kernel, rfl, rfl, fun h => absurd h (by decide), by decide +kernel⟩
set_option maxRecDepth 100000 in
theorem oTX7_count : okT (280, 7, 1, false, kX7_count_0) := ⟨by decide +kernel, rfl, rfl, fun h => absurd h (by decide), by decide +kernel⟩
set_option maxRecDepth 100000 in
theorem oTX7_image : okT (281, 7, 4, false, kX7_image_0) := ⟨by decide +kernel, rfl, rfl, fun h => absurd h (by decide), by decide +kernel⟩
set_option maxRecDepth 100000 in
theorem oTX7_again : okT (282, 7, 4, false, kX7_again_0) := ⟨by decide +kernel, rfl, rfl, fun h => absurd h (by decide), by decide +kernel⟩
set_option maxRecDepth 100000 in
theorem oTJ0_length_8abf5 : okT (283, 10, 1, false, kJ0_length_8abf5_0) := ⟨by decide +kernel, rfl, rfl, fun h => absurd h (by decide), by decide +kernel⟩
set_option maxRecDepth 100000 in
theorem oTJ0_isEmpty_aae02 : okT (284, 10, 4, false, kJ0_isEmpty_aae02_0) := ⟨by decide +kernel, rfl, rfl, fun h => absurd h (by decide), by decide +kernel⟩
set_option maxRecDepth 100000 in
theorem oTJ0_charAt_5068e : okT (285, 10, 5, false, kJ0_charAt_5068e_0) := ⟨by decide +kernel, rfl, rfl, fun h => absurd h (by decide), by decide +kernel⟩
set_option maxRecDepth 100000 in
theorem oTJ0_coder_7d493 : okT (286, 10, 6, false, kJ0_coder_7d493_0) := ⟨by decide +kernel, rfl, rfl, fun h => absurd h (by decide), by decide +kernel⟩
set_option maxRecDepth 100000 in
theorem oTJ0_isLatin1_aae02 : okT (287, 10, 4, false, kJ0_isLatin1_aae02_0) := ⟨by decide +kernel, rfl, rfl, fun h => absurd h (by decide), by decide +kernel⟩
set_option maxRecDepth 100000 in
theorem oTJ0_checkIndex_df160 : okT (288, 10, 0, false, kJ0_checkIndex_df160_0) := ⟨by decide +kernel, rfl, rfl, fun h => absurd h (by decide), by decide +kernel⟩
set_option maxRecDepth 100000 in
theorem oTJ1_charAt_3b067 : okT (289, 11, 5, false, kJ1_charAt_3b067_0) := ⟨by decide +kernel, rfl, rfl, fun h => absurd h (by decide), by decide +kernel⟩
set_option maxRecDepth 100000 in
theorem oTJ3_checkIndex_8e157 : okT (290, 13, 1, false, kJ3_checkIndex_8e157_0) := ⟨by decide +kernel, rfl, rfl, fun h => absurd h (by decide), by decide +kernel⟩
set_option maxRecDepth 100000 in
theorem oTJ6_bitCount_0f7a4 : okT (291, 16, 1, false, kJ6_bitCount_0f7a4_0) := ⟨by decide +kernel, rfl, rfl, fun h => absurd h (by decide), by decide +kernel⟩
set_option maxRecDepth 100000 in
theorem oTJ7_fill_53178 : okT (292, 17, 0, false, kJ7_fill_53178_0) := ⟨by decide +kernel, rfl, rfl, fun h => absurd h (by decide), by decide +kernel⟩
set_option maxRecDepth 100000 in
theorem oTL_law : okT (293, 8, 4, false, kL_law_0) := ⟨by decide +kernel, rfl, rfl, fun h => absurd h (by decide), by decide +kernel⟩
set_option maxRecDepth 100000 in
theorem oTT0 : xall okT TT0 := And.intro oTX0_init (And.intro oTX0_open (And.intro oTX0_run (And.intro oTX0_happens (And.intro oTX0_takesOffice (And.intro oTX0_isDismissed (And.intro oTX0_isRecalled (And.intro oTX0_decide (And.intro oTX0_bear (And.intro oTX0_committee (And.intro oTX0_record (And.intro oTX0_draw (And.intro oTX0_drawMotion (And.intro oTX0_oneThere (And.intro oTX0_drawBelow (And.intro oTX1_init (And.intro oTX1_read (And.intro oTX1_startOn (And.intro oTX1_note (And.intro oTX1_refuse (And.intro oTX1_wordsOf (And.intro oTX1_formsOf (And.intro oTX1_readLine (And.intro oTX1_countLine (And.intro oTX1_readPart (And.intro oTX1_choicesOf (And.intro oTX1_readSemicolon (And.intro oTX1_readNumber (And.intro oTX1_leastOf (And.intro oTX1_mostOf (And.intro oTX1_take (And.intro oTX1_takeToldOf (And.intro oTX1_takeOrder (And.intro oTX1_chosen (And.intro oTX1_isToken (And.intro oTX1_startOf (And.intro oTX1_advance (And.intro oTX1_isBlank (And.intro oTX1_isLetter (And.intro oTX1_isDigit (And.intro oTX2_init (And.intro oTX2_clear (And.intro oTX2_copyRepublic (And.intro oTX2_takeLine (And.intro oTX2_addMinister (And.intro oTX2_setNumber (And.intro oTX2_isMinister (And.intro oTX2_everybody (And.intro oTX2_want (And.intro oTX2_distance (trivial))))))))))))))))))))))))))))))))))))))))))))))))))
set_option maxRecDepth 100000 in
theorem oTT1 : xall okT TT1 := And.intro oTX2_patience (And.intro oTX2_agreeing (And.intro oTX2_votesOf (And.intro oTX2_isPassed (And.intro oTX2_areSeats (And.intro oTX2_proposal (And.intro oTX3_init (And.intro oTX3_clear (And.intro oTX3_copyRows (And.intro oTX3_part (And.intro oTX3_set (And.intro oTX3_dayFrom (And.intro oTX3_add (And.intro oTX4_init (And.intro oTX4_settle (And.intro oTX4_can (And.intro oTX4_bring (And.intro oTX5_init (And.intro oTX5_republicKept (And.intro oTX5_rowsKept (And.intro oTX5_copyTold (And.intro oTX6_init (And.intro oTX6_feed (And.intro oTX6_feedNumber (And.intro oTX6_end (And.intro oTX6_text (And.intro oTX6_placeFor (And.intro oTX6_keep (And.intro oTX6_fault (And.intro oTX6_count (And.intro oTX6_image (And.intro oTX6_again (And.intro oTX6_republicAt (And.intro oTX6_rowsAt (And.intro oTX6_republic (And.intro oTX6_minister (And.intro oTX6_order (And.intro oTX6_deed (And.intro oTX6_leak (And.intro oTX6_was (And.intro oTX6_rowTold (And.intro oTX6_movedIn (And.intro oTX6_off (And.intro oTX6_vote (And.intro oTX6_broken (And.intro oTX6_firstBroken (And.intro oTX6_isBroken (And.intro oTX6_stop (And.intro oTX6_state (And.intro oTX6_stateTold (trivial))))))))))))))))))))))))))))))))))))))))))))))))))
set_option maxRecDepth 100000 in
theorem oTT2 : xall okT TT2 := And.intro oTX6_drawn (And.intro oTX6_agreed (And.intro oTX6_isAgreed (And.intro oTX6_manyAgreed (And.intro oTX6_bestAgreed (And.intro oTX6_rank (And.intro oTX6_power (And.intro oTX6_rowsDecided (And.intro oTX6_coalition (And.intro oTX6_keyMinisters (And.intro oTX6_leastCoalition (And.intro oTX6_isLeastCoalition (And.intro oTX6_bribe (And.intro oTX6_bribeOf (And.intro oTX6_lobby (And.intro oTX6_isRest (And.intro oTX6_gain (And.intro oTX6_boughtBy (And.intro oTX6_bargain (And.intro oTX6_leavers (And.intro oTX6_sharesOf (And.intro oTX6_nature (And.intro oTX6_firstWrong (And.intro oTX6_mend (And.intro oTX6_seats (And.intro oTX6_findFitting (And.intro oTX6_isFit (And.intro oTX6_tellingSeason (And.intro oTX6_unlikeProposals (And.intro oTX6_reshuffle (And.intro oTX6_wetSeasons (And.intro oTX6_fits (And.intro oTX6_areThere (And.intro oTX6_unfit (And.intro oTX6_manyFitting (And.intro oTX6_likelyRain (And.intro oTX6_extreme (And.intro oTX6_lies (And.intro oTX6_isSeason (And.intro oTX6_isAmount (And.intro oTX6_dayOf (And.intro oTX6_numberOf (And.intro oTX6_amount (And.intro oTX6_has (And.intro oTX6_cell (And.intro oTX6_put (And.intro oTX6_copy (And.intro oTX6_fraction (And.intro oTX6_commonDivisor (And.intro oTX7_init (trivial))))))))))))))))))))))))))))))))))))))))))))))))))
set_option maxRecDepth 100000 in
theorem oTT3 : xall okT TT3 := And.intro oTX7_isIn (And.intro oTX7_feed (And.intro oTX7_end (And.intro oTX7_byteAt (And.intro oTX7_isLetter (And.intro oTX7_isDigit (And.intro oTX7_four (And.intro oTX7_eight (And.intro oTX7_wordOf (And.intro oTX7_kindOrSeason (And.intro oTX7_otherWord (And.intro oTX7_advance (And.intro oTX7_ends (And.intro oTX7_also (And.intro oTX7_numbered (And.intro oTX7_takes (And.intro oTX7_endsLine (And.intro oTX7_kindTold (And.intro oTX7_seasonTold (And.intro oTX7_ministerTold (And.intro oTX7_ministerLine (And.intro oTX7_wantLine (And.intro oTX7_feudLine (And.intro oTX7_republicLine (And.intro oTX7_adds (And.intro oTX7_noLine (And.intro oTX7_orderLine (And.intro oTX7_yearLine (And.intro oTX7_leakLine (And.intro oTX7_summerLine (And.intro oTX7_bargainLine (And.intro oTX7_placeOf (And.intro oTX7_sizeOf (And.intro oTX7_isOf (And.intro oTX7_clears (And.intro oTX7_text (And.intro oTX7_fault (And.intro oTX7_isRepublic (And.intro oTX7_of (And.intro oTX7_ministers (And.intro oTX7_isMinister (And.intro oTX7_ofMinister (And.intro oTX7_wants (And.intro oTX7_republic (And.intro oTX7_minister (And.intro oTX7_amountOf (And.intro oTX7_talksOf (And.intro oTX7_size (And.intro oTX7_offOf (And.intro oTX7_yields (trivial))))))))))))))))))))))))))))))))))))))))))))))))))
set_option maxRecDepth 100000 in
theorem oTT4 : xall okT TT4 := And.intro oTX7_agrees (And.intro oTX7_agreeing (And.intro oTX7_votesOf (And.intro oTX7_vetoes (And.intro oTX7_isPassed (And.intro oTX7_areAmounts (And.intro oTX7_isMotion (And.intro oTX7_off (And.intro oTX7_vote (And.intro oTX7_areOrders (And.intro oTX7_orderOf (And.intro oTX7_order (And.intro oTX7_amount (And.intro oTX7_isBroken (And.intro oTX7_firstBroken (And.intro oTX7_broken (And.intro oTX7_begins (And.intro oTX7_canNature (And.intro oTX7_goes (And.intro oTX7_committee (And.intro oTX7_angers (And.intro oTX7_moves (And.intro oTX7_deeds (And.intro oTX7_deedOf (And.intro oTX7_deed (And.intro oTX7_isThere (And.intro oTX7_can (And.intro oTX7_does (And.intro oTX7_areTold (And.intro oTX7_runs (And.intro oTX7_stop (And.intro oTX7_state (And.intro oTX7_isAgreed (And.intro oTX7_rank (And.intro oTX7_agreed (And.intro oTX7_common (And.intro oTX7_part (And.intro oTX7_factorial (And.intro oTX7_bits (And.intro oTX7_everybody (And.intro oTX7_isEnough (And.intro oTX7_power (And.intro oTX7_key (And.intro oTX7_isLeast (And.intro oTX7_coalition (And.intro oTX7_costOf (And.intro oTX7_bribe (And.intro oTX7_priceOf (And.intro oTX7_gainOf (And.intro oTX7_isRest (trivial))))))))))))))))))))))))))))))))))))))))))))))))))
set_option maxRecDepth 100000 in
theorem oTT5 : xall okT TT5 := And.intro oTX7_lobby (And.intro oTX7_bargain (And.intro oTX7_isSummer (And.intro oTX7_summerDays (And.intro oTX7_dayOf (And.intro oTX7_numberOf (And.intro oTX7_was (And.intro oTX7_wrongDay (And.intro oTX7_isHeatRight (And.intro oTX7_cloudAfter (And.intro oTX7_mends (And.intro oTX7_fallsOn (And.intro oTX7_nature (And.intro oTX7_areSeats (And.intro oTX7_proposal (And.intro oTX7_isSat (And.intro oTX7_unlike (And.intro oTX7_seats (And.intro oTX7_rainy (And.intro oTX7_reshuffle (And.intro oTX7_leakOf (And.intro oTX7_leak (And.intro oTX7_isFit (And.intro oTX7_fitting (And.intro oTX7_extreme (And.intro oTX7_rainyFit (And.intro oTX7_fits (And.intro oTX7_below (And.intro oTX7_thereAt (And.intro oTX7_drawn (And.intro oTX7_count (And.intro oTX7_image (And.intro oTX7_again (And.intro oTJ0_length_8abf5 (And.intro oTJ0_isEmpty_aae02 (And.intro oTJ0_charAt_5068e (And.intro oTJ0_coder_7d493 (And.intro oTJ0_isLatin1_aae02 (And.intro oTJ0_checkIndex_df160 (And.intro oTJ1_charAt_3b067 (And.intro oTJ3_checkIndex_8e157 (And.intro oTJ6_bitCount_0f7a4 (And.intro oTJ7_fill_53178 (And.intro oTL_law (trivial))))))))))))))))))))))))))))))))))))))))))))
theorem oTT : xall okT TT := xall_app oTT0 (xall_app oTT1 (xall_app oTT2 (xall_app oTT3 (xall_app oTT4 (oTT5)))))
