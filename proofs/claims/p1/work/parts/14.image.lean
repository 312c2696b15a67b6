set_option maxRecDepth 100000 in
set_option maxHeartbeats 4000000 in
theorem ct_X2_copyRepublic_77_6 (G : EG) (l : Launch) {w : EW} {a1 a2 a3 a4 a5 a6 a7 : Int32} {f1 f2 f3 f4 f5 f6 f7 : Nat → Int32} {b1 b2 b3 b4 b5 b6 b7 : Int32} {g1 g2 g3 g4 g5 g6 g7 : Nat → Int32} (h77 : w[77]? = some (cO 2 [eI (a1), eR (78), eR (79), eR (80), eR (81), eR (82), eR (83), eR (84), eI (a2), eI (a3), eI (a4), eI (a5), eI (a6), eI (a7)])) (h78 : w[78]? = some (cI 0 6 f1)) (h79 : w[79]? = some (cI 0 6 f2)) (h80 : w[80]? = some (cI 0 6 f3)) (h81 : w[81]? = some (cI 0 6 f4)) (h82 : w[82]? = some (cI 0 72 f5)) (h83 : w[83]? = some (cI 0 6 f6)) (h84 : w[84]? = some (cI 0 3 f7)) (h6 : w[6]? = some (cO 2 [eI (b1), eR (7), eR (8), eR (9), eR (10), eR (11), eR (12), eR (13), eI (b2), eI (b3), eI (b4), eI (b5), eI (b6), eI (b7)])) (h7 : w[7]? = some (cI 0 6 g1)) (h8 : w[8]? = some (cI 0 6 g2)) (h9 : w[9]? = some (cI 0 6 g3)) (h10 : w[10]? = some (cI 0 6 g4)) (h11 : w[11]? = some (cI 0 72 g5)) (h12 : w[12]? = some (cI 0 6 g6)) (h13 : w[13]? = some (cI 0 3 g7)) : Ct G l yX2_copyRepublic cX2_copyRepublic 2 none 2 0 0 [eR (77), eR (6)] w (fun r w2 => r = none ∧ wc_same [77, 78, 79, 80, 81, 82, 83, 84] w w2) := by
  refine Ct_of (by decide +kernel) (Nat.le_of_ble_eq_true rfl) ?_
  intro p_ e_ s_ m_ a_ b_ t_ c_ K0 hr hin
  have K : wc_C p_ s_ m_ a_ t_ c_ G RX2 cX2_copyRepublic 2 w.length := K0
  clear K0
  refine WW_ls (ls2 := [some (eR (77)), some (eR (6))]) rfl ?_
  have hS : wc_same [77, 78, 79, 80, 81, 82, 83, 84] w w := wc_same.rf
  refine ww_aload_n K dX2_copyRepublic_0 rfl ?_
  refine ww_aload_n K dX2_copyRepublic_1 rfl ?_
  refine ww_get K dX2_copyRepublic_2 lf_X2_33 h6 rfl ?_
  refine ww_putX K dX2_copyRepublic_5 lp_X2_33 h77 (Nat.le_of_ble_eq_true rfl) rfl rfl (fun w1 hln_w1 h77 hne_w1 => ?_)
  have h77 : w1[77]? = some (cO 2 [eI (b1), eR (78), eR (79), eR (80), eR (81), eR (82), eR (83), eR (84), eI (a2), eI (a3), eI (a4), eI (a5), eI (a6), eI (a7)]) := h77
  have h78 := (hne_w1 78 (by decide)).trans h78
  have h79 := (hne_w1 79 (by decide)).trans h79
  have h80 := (hne_w1 80 (by decide)).trans h80
  have h81 := (hne_w1 81 (by decide)).trans h81
  have h82 := (hne_w1 82 (by decide)).trans h82
  have h83 := (hne_w1 83 (by decide)).trans h83
  have h84 := (hne_w1 84 (by decide)).trans h84
  have h6 := (hne_w1 6 (by decide)).trans h6
  have h7 := (hne_w1 7 (by decide)).trans h7
  have h8 := (hne_w1 8 (by decide)).trans h8
  have h9 := (hne_w1 9 (by decide)).trans h9
  have h10 := (hne_w1 10 (by decide)).trans h10
  have h11 := (hne_w1 11 (by decide)).trans h11
  have h12 := (hne_w1 12 (by decide)).trans h12
  have h13 := (hne_w1 13 (by decide)).trans h13
  have hS := hS.put (k := 77) (by decide) hne_w1
  refine ww_aload_n K dX2_copyRepublic_8 rfl ?_
  refine ww_get K dX2_copyRepublic_9 lf_X2_9 h6 rfl ?_
  refine ww_aload_n K dX2_copyRepublic_12 rfl ?_
  refine ww_get K dX2_copyRepublic_13 lf_X2_9 h77 rfl ?_
  refine ww_xSNv K dX2_copyRepublic_16 lc_X2_61 (ct_copy G l h7 h78 (by decide)) rfl ⟨Nat.le_of_ble_eq_true rfl, Nat.le_of_ble_eq_true rfl⟩ (Nat.le_of_ble_eq_true rfl) (fun w3 hq hln_w3 => ?_)
  obtain ⟨⟨F2, eF2, h78⟩, hsm⟩ := hq
  have h77 := hsm.keep h77 (by decide)
  have h79 := hsm.keep h79 (by decide)
  have h80 := hsm.keep h80 (by decide)
  have h81 := hsm.keep h81 (by decide)
  have h82 := hsm.keep h82 (by decide)
  have h83 := hsm.keep h83 (by decide)
  have h84 := hsm.keep h84 (by decide)
  have h6 := hsm.keep h6 (by decide)
  have h7 := hsm.keep h7 (by decide)
  have h8 := hsm.keep h8 (by decide)
  have h9 := hsm.keep h9 (by decide)
  have h10 := hsm.keep h10 (by decide)
  have h11 := hsm.keep h11 (by decide)
  have h12 := hsm.keep h12 (by decide)
  have h13 := hsm.keep h13 (by decide)
  have hS := hS.call hsm (by decide)
  refine ww_aload_n K dX2_copyRepublic_19 rfl ?_
  refine ww_get K dX2_copyRepublic_20 lf_X2_15 h6 rfl ?_
  refine ww_aload_n K dX2_copyRepublic_23 rfl ?_
  refine ww_get K dX2_copyRepublic_24 lf_X2_15 h77 rfl ?_
  refine ww_xSNv K dX2_copyRepublic_27 lc_X2_61 (ct_copy G l h8 h79 (by decide)) rfl ⟨Nat.le_of_ble_eq_true rfl, Nat.le_of_ble_eq_true rfl⟩ (Nat.le_of_ble_eq_true rfl) (fun w5 hq hln_w5 => ?_)
  obtain ⟨⟨F4, eF4, h79⟩, hsm⟩ := hq
  have h77 := hsm.keep h77 (by decide)
  have h78 := hsm.keep h78 (by decide)
  have h80 := hsm.keep h80 (by decide)
  have h81 := hsm.keep h81 (by decide)
  have h82 := hsm.keep h82 (by decide)
  have h83 := hsm.keep h83 (by decide)
  have h84 := hsm.keep h84 (by decide)
  have h6 := hsm.keep h6 (by decide)
  have h7 := hsm.keep h7 (by decide)
  have h8 := hsm.keep h8 (by decide)
  have h9 := hsm.keep h9 (by decide)
  have h10 := hsm.keep h10 (by decide)
  have h11 := hsm.keep h11 (by decide)
  have h12 := hsm.keep h12 (by decide)
  have h13 := hsm.keep h13 (by decide)
  have hS := hS.call hsm (by decide)
  refine ww_aload_n K dX2_copyRepublic_30 rfl ?_
  refine ww_get K dX2_copyRepublic_31 lf_X2_18 h6 rfl ?_
  refine ww_aload_n K dX2_copyRepublic_34 rfl ?_
  refine ww_get K dX2_copyRepublic_35 lf_X2_18 h77 rfl ?_
  refine ww_xSNv K dX2_copyRepublic_38 lc_X2_61 (ct_copy G l h9 h80 (by decide)) rfl ⟨Nat.le_of_ble_eq_true rfl, Nat.le_of_ble_eq_true rfl⟩ (Nat.le_of_ble_eq_true rfl) (fun w7 hq hln_w7 => ?_)
  obtain ⟨⟨F6, eF6, h80⟩, hsm⟩ := hq
  have h77 := hsm.keep h77 (by decide)
  have h78 := hsm.keep h78 (by decide)
  have h79 := hsm.keep h79 (by decide)
  have h81 := hsm.keep h81 (by decide)
  have h82 := hsm.keep h82 (by decide)
  have h83 := hsm.keep h83 (by decide)
  have h84 := hsm.keep h84 (by decide)
  have h6 := hsm.keep h6 (by decide)
  have h7 := hsm.keep h7 (by decide)
  have h8 := hsm.keep h8 (by decide)
  have h9 := hsm.keep h9 (by decide)
  have h10 := hsm.keep h10 (by decide)
  have h11 := hsm.keep h11 (by decide)
  have h12 := hsm.keep h12 (by decide)
  have h13 := hsm.keep h13 (by decide)
  have hS := hS.call hsm (by decide)
  refine ww_aload_n K dX2_copyRepublic_41 rfl ?_
  refine ww_get K dX2_copyRepublic_42 lf_X2_21 h6 rfl ?_
  refine ww_aload_n K dX2_copyRepublic_45 rfl ?_
  refine ww_get K dX2_copyRepublic_46 lf_X2_21 h77 rfl ?_
  refine ww_xSNv K dX2_copyRepublic_49 lc_X2_61 (ct_copy G l h10 h81 (by decide)) rfl ⟨Nat.le_of_ble_eq_true rfl, Nat.le_of_ble_eq_true rfl⟩ (Nat.le_of_ble_eq_true rfl) (fun w9 hq hln_w9 => ?_)
  obtain ⟨⟨F8, eF8, h81⟩, hsm⟩ := hq
  have h77 := hsm.keep h77 (by decide)
  have h78 := hsm.keep h78 (by decide)
  have h79 := hsm.keep h79 (by decide)
  have h80 := hsm.keep h80 (by decide)
  have h82 := hsm.keep h82 (by decide)
  have h83 := hsm.keep h83 (by decide)
  have h84 := hsm.keep h84 (by decide)
  have h6 := hsm.keep h6 (by decide)
  have h7 := hsm.keep h7 (by decide)
  have h8 := hsm.keep h8 (by decide)
  have h9 := hsm.keep h9 (by decide)
  have h10 := hsm.keep h10 (by decide)
  have h11 := hsm.keep h11 (by decide)
  have h12 := hsm.keep h12 (by decide)
  have h13 := hsm.keep h13 (by decide)
  have hS := hS.call hsm (by decide)
  refine ww_aload_n K dX2_copyRepublic_52 rfl ?_
  refine ww_get K dX2_copyRepublic_53 lf_X2_24 h6 rfl ?_
  refine ww_aload_n K dX2_copyRepublic_56 rfl ?_
  refine ww_get K dX2_copyRepublic_57 lf_X2_24 h77 rfl ?_
  refine ww_xSNv K dX2_copyRepublic_60 lc_X2_61 (ct_copy G l h11 h82 (by decide)) rfl ⟨Nat.le_of_ble_eq_true rfl, Nat.le_of_ble_eq_true rfl⟩ (Nat.le_of_ble_eq_true rfl) (fun w11 hq hln_w11 => ?_)
  obtain ⟨⟨F10, eF10, h82⟩, hsm⟩ := hq
  have h77 := hsm.keep h77 (by decide)
  have h78 := hsm.keep h78 (by decide)
  have h79 := hsm.keep h79 (by decide)
  have h80 := hsm.keep h80 (by decide)
  have h81 := hsm.keep h81 (by decide)
  have h83 := hsm.keep h83 (by decide)
  have h84 := hsm.keep h84 (by decide)
  have h6 := hsm.keep h6 (by decide)
  have h7 := hsm.keep h7 (by decide)
  have h8 := hsm.keep h8 (by decide)
  have h9 := hsm.keep h9 (by decide)
  have h10 := hsm.keep h10 (by decide)
  have h11 := hsm.keep h11 (by decide)
  have h12 := hsm.keep h12 (by decide)
  have h13 := hsm.keep h13 (by decide)
  have hS := hS.call hsm (by decide)
  refine ww_aload_n K dX2_copyRepublic_63 rfl ?_
  refine ww_get K dX2_copyRepublic_64 lf_X2_27 h6 rfl ?_
  refine ww_aload_n K dX2_copyRepublic_67 rfl ?_
  refine ww_get K dX2_copyRepublic_68 lf_X2_27 h77 rfl ?_
  refine ww_xSNv K dX2_copyRepublic_71 lc_X2_61 (ct_copy G l h12 h83 (by decide)) rfl ⟨Nat.le_of_ble_eq_true rfl, Nat.le_of_ble_eq_true rfl⟩ (Nat.le_of_ble_eq_true rfl) (fun w13 hq hln_w13 => ?_)
  obtain ⟨⟨F12, eF12, h83⟩, hsm⟩ := hq
  have h77 := hsm.keep h77 (by decide)
  have h78 := hsm.keep h78 (by decide)
  have h79 := hsm.keep h79 (by decide)
  have h80 := hsm.keep h80 (by decide)
  have h81 := hsm.keep h81 (by decide)
  have h82 := hsm.keep h82 (by decide)
  have h84 := hsm.keep h84 (by decide)
  have h6 := hsm.keep h6 (by decide)
  have h7 := hsm.keep h7 (by decide)
  have h8 := hsm.keep h8 (by decide)
  have h9 := hsm.keep h9 (by decide)
  have h10 := hsm.keep h10 (by decide)
  have h11 := hsm.keep h11 (by decide)
  have h12 := hsm.keep h12 (by decide)
  have h13 := hsm.keep h13 (by decide)
  have hS := hS.call hsm (by decide)
  refine ww_aload_n K dX2_copyRepublic_74 rfl ?_
  refine ww_get K dX2_copyRepublic_75 lf_X2_30 h6 rfl ?_
  refine ww_aload_n K dX2_copyRepublic_78 rfl ?_
  refine ww_get K dX2_copyRepublic_79 lf_X2_30 h77 rfl ?_
  refine ww_xSNv K dX2_copyRepublic_82 lc_X2_61 (ct_copy G l h13 h84 (by decide)) rfl ⟨Nat.le_of_ble_eq_true rfl, Nat.le_of_ble_eq_true rfl⟩ (Nat.le_of_ble_eq_true rfl) (fun w15 hq hln_w15 => ?_)
  obtain ⟨⟨F14, eF14, h84⟩, hsm⟩ := hq
  have h77 := hsm.keep h77 (by decide)
  have h78 := hsm.keep h78 (by decide)
  have h79 := hsm.keep h79 (by decide)
  have h80 := hsm.keep h80 (by decide)
  have h81 := hsm.keep h81 (by decide)
  have h82 := hsm.keep h82 (by decide)
  have h83 := hsm.keep h83 (by decide)
  have h6 := hsm.keep h6 (by decide)
  have h7 := hsm.keep h7 (by decide)
  have h8 := hsm.keep h8 (by decide)
  have h9 := hsm.keep h9 (by decide)
  have h10 := hsm.keep h10 (by decide)
  have h11 := hsm.keep h11 (by decide)
  have h12 := hsm.keep h12 (by decide)
  have h13 := hsm.keep h13 (by decide)
  have hS := hS.call hsm (by decide)
  refine ww_aload_n K dX2_copyRepublic_85 rfl ?_
  refine ww_aload_n K dX2_copyRepublic_86 rfl ?_
  refine ww_get K dX2_copyRepublic_87 lf_X2_43 h6 rfl ?_
  refine ww_putX K dX2_copyRepublic_90 lp_X2_43 h77 (Nat.le_of_ble_eq_true rfl) rfl rfl (fun w16 hln_w16 h77 hne_w16 => ?_)
  have h77 : w16[77]? = some (cO 2 [eI (b1), eR (78), eR (79), eR (80), eR (81), eR (82), eR (83), eR (84), eI (b2), eI (a3), eI (a4), eI (a5), eI (a6), eI (a7)]) := h77
  have h78 := (hne_w16 78 (by decide)).trans h78
  have h79 := (hne_w16 79 (by decide)).trans h79
  have h80 := (hne_w16 80 (by decide)).trans h80
  have h81 := (hne_w16 81 (by decide)).trans h81
  have h82 := (hne_w16 82 (by decide)).trans h82
  have h83 := (hne_w16 83 (by decide)).trans h83
  have h84 := (hne_w16 84 (by decide)).trans h84
  have h6 := (hne_w16 6 (by decide)).trans h6
  have h7 := (hne_w16 7 (by decide)).trans h7
  have h8 := (hne_w16 8 (by decide)).trans h8
  have h9 := (hne_w16 9 (by decide)).trans h9
  have h10 := (hne_w16 10 (by decide)).trans h10
  have h11 := (hne_w16 11 (by decide)).trans h11
  have h12 := (hne_w16 12 (by decide)).trans h12
  have h13 := (hne_w16 13 (by decide)).trans h13
  have hS := hS.put (k := 77) (by decide) hne_w16
  refine ww_aload_n K dX2_copyRepublic_93 rfl ?_
  refine ww_aload_n K dX2_copyRepublic_94 rfl ?_
  refine ww_get K dX2_copyRepublic_95 lf_X2_46 h6 rfl ?_
  refine ww_putX K dX2_copyRepublic_98 lp_X2_46 h77 (Nat.le_of_ble_eq_true rfl) rfl rfl (fun w17 hln_w17 h77 hne_w17 => ?_)
  have h77 : w17[77]? = some (cO 2 [eI (b1), eR (78), eR (79), eR (80), eR (81), eR (82), eR (83), eR (84), eI (b2), eI (b3), eI (a4), eI (a5), eI (a6), eI (a7)]) := h77
  have h78 := (hne_w17 78 (by decide)).trans h78
  have h79 := (hne_w17 79 (by decide)).trans h79
  have h80 := (hne_w17 80 (by decide)).trans h80
  have h81 := (hne_w17 81 (by decide)).trans h81
  have h82 := (hne_w17 82 (by decide)).trans h82
  have h83 := (hne_w17 83 (by decide)).trans h83
  have h84 := (hne_w17 84 (by decide)).trans h84
  have h6 := (hne_w17 6 (by decide)).trans h6
  have h7 := (hne_w17 7 (by decide)).trans h7
  have h8 := (hne_w17 8 (by decide)).trans h8
  have h9 := (hne_w17 9 (by decide)).trans h9
  have h10 := (hne_w17 10 (by decide)).trans h10
  have h11 := (hne_w17 11 (by decide)).trans h11
  have h12 := (hne_w17 12 (by decide)).trans h12
  have h13 := (hne_w17 13 (by decide)).trans h13
  have hS := hS.put (k := 77) (by decide) hne_w17
  refine ww_aload_n K dX2_copyRepublic_101 rfl ?_
  refine ww_aload_n K dX2_copyRepublic_102 rfl ?_
  refine ww_get K dX2_copyRepublic_103 lf_X2_49 h6 rfl ?_
  refine ww_putX K dX2_copyRepublic_106 lp_X2_49 h77 (Nat.le_of_ble_eq_true rfl) rfl rfl (fun w18 hln_w18 h77 hne_w18 => ?_)
  have h77 : w18[77]? = some (cO 2 [eI (b1), eR (78), eR (79), eR (80), eR (81), eR (82), eR (83), eR (84), eI (b2), eI (b3), eI (b4), eI (a5), eI (a6), eI (a7)]) := h77
  have h78 := (hne_w18 78 (by decide)).trans h78
  have h79 := (hne_w18 79 (by decide)).trans h79
  have h80 := (hne_w18 80 (by decide)).trans h80
  have h81 := (hne_w18 81 (by decide)).trans h81
  have h82 := (hne_w18 82 (by decide)).trans h82
  have h83 := (hne_w18 83 (by decide)).trans h83
  have h84 := (hne_w18 84 (by decide)).trans h84
  have h6 := (hne_w18 6 (by decide)).trans h6
  have h7 := (hne_w18 7 (by decide)).trans h7
  have h8 := (hne_w18 8 (by decide)).trans h8
  have h9 := (hne_w18 9 (by decide)).trans h9
  have h10 := (hne_w18 10 (by decide)).trans h10
  have h11 := (hne_w18 11 (by decide)).trans h11
  have h12 := (hne_w18 12 (by decide)).trans h12
  have h13 := (hne_w18 13 (by decide)).trans h13
  have hS := hS.put (k := 77) (by decide) hne_w18
  refine ww_aload_n K dX2_copyRepublic_109 rfl ?_
  refine ww_aload_n K dX2_copyRepublic_110 rfl ?_
  refine ww_get K dX2_copyRepublic_111 lf_X2_52 h6 rfl ?_
  refine ww_putX K dX2_copyRepublic_114 lp_X2_52 h77 (Nat.le_of_ble_eq_true rfl) rfl rfl (fun w19 hln_w19 h77 hne_w19 => ?_)
  have h77 : w19[77]? = some (cO 2 [eI (b1), eR (78), eR (79), eR (80), eR (81), eR (82), eR (83), eR (84), eI (b2), eI (b3), eI (b4), eI (b5), eI (a6), eI (a7)]) := h77
  have h78 := (hne_w19 78 (by decide)).trans h78
  have h79 := (hne_w19 79 (by decide)).trans h79
  have h80 := (hne_w19 80 (by decide)).trans h80
  have h81 := (hne_w19 81 (by decide)).trans h81
  have h82 := (hne_w19 82 (by decide)).trans h82
  have h83 := (hne_w19 83 (by decide)).trans h83
  have h84 := (hne_w19 84 (by decide)).trans h84
  have h6 := (hne_w19 6 (by decide)).trans h6
  have h7 := (hne_w19 7 (by decide)).trans h7
  have h8 := (hne_w19 8 (by decide)).trans h8
  have h9 := (hne_w19 9 (by decide)).trans h9
  have h10 := (hne_w19 10 (by decide)).trans h10
  have h11 := (hne_w19 11 (by decide)).trans h11
  have h12 := (hne_w19 12 (by decide)).trans h12
  have h13 := (hne_w19 13 (by decide)).trans h13
  have hS := hS.put (k := 77) (by decide) hne_w19
  refine ww_aload_n K dX2_copyRepublic_117 rfl ?_
  refine ww_aload_n K dX2_copyRepublic_118 rfl ?_
  refine ww_get K dX2_copyRepublic_119 lf_X2_55 h6 rfl ?_
  refine ww_putX K dX2_copyRepublic_122 lp_X2_55 h77 (Nat.le_of_ble_eq_true rfl) rfl rfl (fun w20 hln_w20 h77 hne_w20 => ?_)
  have h77 : w20[77]? = some (cO 2 [eI (b1), eR (78), eR (79), eR (80), eR (81), eR (82), eR (83), eR (84), eI (b2), eI (b3), eI (b4), eI (b5), eI (b6), eI (a7)]) := h77
  have h78 := (hne_w20 78 (by decide)).trans h78
  have h79 := (hne_w20 79 (by decide)).trans h79
  have h80 := (hne_w20 80 (by decide)).trans h80
  have h81 := (hne_w20 81 (by decide)).trans h81
  have h82 := (hne_w20 82 (by decide)).trans h82
  have h83 := (hne_w20 83 (by decide)).trans h83
  have h84 := (hne_w20 84 (by decide)).trans h84
  have h6 := (hne_w20 6 (by decide)).trans h6
  have h7 := (hne_w20 7 (by decide)).trans h7
  have h8 := (hne_w20 8 (by decide)).trans h8
  have h9 := (hne_w20 9 (by decide)).trans h9
  have h10 := (hne_w20 10 (by decide)).trans h10
  have h11 := (hne_w20 11 (by decide)).trans h11
  have h12 := (hne_w20 12 (by decide)).trans h12
  have h13 := (hne_w20 13 (by decide)).trans h13
  have hS := hS.put (k := 77) (by decide) hne_w20
  refine ww_aload_n K dX2_copyRepublic_125 rfl ?_
  refine ww_aload_n K dX2_copyRepublic_126 rfl ?_
  refine ww_get K dX2_copyRepublic_127 lf_X2_58 h6 rfl ?_
  refine ww_putX K dX2_copyRepublic_130 lp_X2_58 h77 (Nat.le_of_ble_eq_true rfl) rfl rfl (fun w21 hln_w21 h77 hne_w21 => ?_)
  have h77 : w21[77]? = some (cO 2 [eI (b1), eR (78), eR (79), eR (80), eR (81), eR (82), eR (83), eR (84), eI (b2), eI (b3), eI (b4), eI (b5), eI (b6), eI (b7)]) := h77
  have h78 := (hne_w21 78 (by decide)).trans h78
  have h79 := (hne_w21 79 (by decide)).trans h79
  have h80 := (hne_w21 80 (by decide)).trans h80
  have h81 := (hne_w21 81 (by decide)).trans h81
  have h82 := (hne_w21 82 (by decide)).trans h82
  have h83 := (hne_w21 83 (by decide)).trans h83
  have h84 := (hne_w21 84 (by decide)).trans h84
  have h6 := (hne_w21 6 (by decide)).trans h6
  have h7 := (hne_w21 7 (by decide)).trans h7
  have h8 := (hne_w21 8 (by decide)).trans h8
  have h9 := (hne_w21 9 (by decide)).trans h9
  have h10 := (hne_w21 10 (by decide)).trans h10
  have h11 := (hne_w21 11 (by decide)).trans h11
  have h12 := (hne_w21 12 (by decide)).trans h12
  have h13 := (hne_w21 13 (by decide)).trans h13
  have hS := hS.put (k := 77) (by decide) hne_w21
  exact ww_vret K dX2_copyRepublic_133 hr ⟨rfl, hS⟩
set_option maxRecDepth 100000 in
set_option maxHeartbeats 4000000 in
theorem ct_X2_copyRepublic_85_14 (G : EG) (l : Launch) {w : EW} {a1 a2 a3 a4 a5 a6 a7 : Int32} {f1 f2 f3 f4 f5 f6 f7 : Nat → Int32} {b1 b2 b3 b4 b5 b6 b7 : Int32} {g1 g2 g3 g4 g5 g6 g7 : Nat → Int32} (h85 : w[85]? = some (cO 2 [eI (a1), eR (86), eR (87), eR (88), eR (89), eR (90), eR (91), eR (92), eI (a2), eI (a3), eI (a4), eI (a5), eI (a6), eI (a7)])) (h86 : w[86]? = some (cI 0 6 f1)) (h87 : w[87]? = some (cI 0 6 f2)) (h88 : w[88]? = some (cI 0 6 f3)) (h89 : w[89]? = some (cI 0 6 f4)) (h90 : w[90]? = some (cI 0 72 f5)) (h91 : w[91]? = some (cI 0 6 f6)) (h92 : w[92]? = some (cI 0 3 f7)) (h14 : w[14]? = some (cO 2 [eI (b1), eR (15), eR (16), eR (17), eR (18), eR (19), eR (20), eR (21), eI (b2), eI (b3), eI (b4), eI (b5), eI (b6), eI (b7)])) (h15 : w[15]? = some (cI 0 6 g1)) (h16 : w[16]? = some (cI 0 6 g2)) (h17 : w[17]? = some (cI 0 6 g3)) (h18 : w[18]? = some (cI 0 6 g4)) (h19 : w[19]? = some (cI 0 72 g5)) (h20 : w[20]? = some (cI 0 6 g6)) (h21 : w[21]? = some (cI 0 3 g7)) : Ct G l yX2_copyRepublic cX2_copyRepublic 2 none 2 0 0 [eR (85), eR (14)] w (fun r w2 => r = none ∧ wc_same [85, 86, 87, 88, 89, 90, 91, 92] w w2) := by
  refine Ct_of (by decide +kernel) (Nat.le_of_ble_eq_true rfl) ?_
  intro p_ e_ s_ m_ a_ b_ t_ c_ K0 hr hin
  have K : wc_C p_ s_ m_ a_ t_ c_ G RX2 cX2_copyRepublic 2 w.length := K0
  clear K0
  refine WW_ls (ls2 := [some (eR (85)), some (eR (14))]) rfl ?_
  have hS : wc_same [85, 86, 87, 88, 89, 90, 91, 92] w w := wc_same.rf
  refine ww_aload_n K dX2_copyRepublic_0 rfl ?_
  refine ww_aload_n K dX2_copyRepublic_1 rfl ?_
  refine ww_get K dX2_copyRepublic_2 lf_X2_33 h14 rfl ?_
  refine ww_putX K dX2_copyRepublic_5 lp_X2_33 h85 (Nat.le_of_ble_eq_true rfl) rfl rfl (fun w1 hln_w1 h85 hne_w1 => ?_)
  have h85 : w1[85]? = some (cO 2 [eI (b1), eR (86), eR (87), eR (88), eR (89), eR (90), eR (91), eR (92), eI (a2), eI (a3), eI (a4), eI (a5), eI (a6), eI (a7)]) := h85
  have h86 := (hne_w1 86 (by decide)).trans h86
  have h87 := (hne_w1 87 (by decide)).trans h87
  have h88 := (hne_w1 88 (by decide)).trans h88
  have h89 := (hne_w1 89 (by decide)).trans h89
  have h90 := (hne_w1 90 (by decide)).trans h90
  have h91 := (hne_w1 91 (by decide)).trans h91
  have h92 := (hne_w1 92 (by decide)).trans h92
  have h14 := (hne_w1 14 (by decide)).trans h14
  have h15 := (hne_w1 15 (by decide)).trans h15
  have h16 := (hne_w1 16 (by decide)).trans h16
  have h17 := (hne_w1 17 (by decide)).trans h17
  have h18 := (hne_w1 18 (by decide)).trans h18
  have h19 := (hne_w1 19 (by decide)).trans h19
  have h20 := (hne_w1 20 (by decide)).trans h20
  have h21 := (hne_w1 21 (by decide)).trans h21
  have hS := hS.put (k := 85) (by decide) hne_w1
  refine ww_aload_n K dX2_copyRepublic_8 rfl ?_
  refine ww_get K dX2_copyRepublic_9 lf_X2_9 h14 rfl ?_
  refine ww_aload_n K dX2_copyRepublic_12 rfl ?_
  refine ww_get K dX2_copyRepublic_13 lf_X2_9 h85 rfl ?_
  refine ww_xSNv K dX2_copyRepublic_16 lc_X2_61 (ct_copy G l h15 h86 (by decide)) rfl ⟨Nat.le_of_ble_eq_true rfl, Nat.le_of_ble_eq_true rfl⟩ (Nat.le_of_ble_eq_true rfl) (fun w3 hq hln_w3 => ?_)
  obtain ⟨⟨F2, eF2, h86⟩, hsm⟩ := hq
  have h85 := hsm.keep h85 (by decide)
  have h87 := hsm.keep h87 (by decide)
  have h88 := hsm.keep h88 (by decide)
  have h89 := hsm.keep h89 (by decide)
  have h90 := hsm.keep h90 (by decide)
  have h91 := hsm.keep h91 (by decide)
  have h92 := hsm.keep h92 (by decide)
  have h14 := hsm.keep h14 (by decide)
  have h15 := hsm.keep h15 (by decide)
  have h16 := hsm.keep h16 (by decide)
  have h17 := hsm.keep h17 (by decide)
  have h18 := hsm.keep h18 (by decide)
  have h19 := hsm.keep h19 (by decide)
  have h20 := hsm.keep h20 (by decide)
  have h21 := hsm.keep h21 (by decide)
  have hS := hS.call hsm (by decide)
  refine ww_aload_n K dX2_copyRepublic_19 rfl ?_
  refine ww_get K dX2_copyRepublic_20 lf_X2_15 h14 rfl ?_
  refine ww_aload_n K dX2_copyRepublic_23 rfl ?_
  refine ww_get K dX2_copyRepublic_24 lf_X2_15 h85 rfl ?_
  refine ww_xSNv K dX2_copyRepublic_27 lc_X2_61 (ct_copy G l h16 h87 (by decide)) rfl ⟨Nat.le_of_ble_eq_true rfl, Nat.le_of_ble_eq_true rfl⟩ (Nat.le_of_ble_eq_true rfl) (fun w5 hq hln_w5 => ?_)
  obtain ⟨⟨F4, eF4, h87⟩, hsm⟩ := hq
  have h85 := hsm.keep h85 (by decide)
  have h86 := hsm.keep h86 (by decide)
  have h88 := hsm.keep h88 (by decide)
  have h89 := hsm.keep h89 (by decide)
  have h90 := hsm.keep h90 (by decide)
  have h91 := hsm.keep h91 (by decide)
  have h92 := hsm.keep h92 (by decide)
  have h14 := hsm.keep h14 (by decide)
  have h15 := hsm.keep h15 (by decide)
  have h16 := hsm.keep h16 (by decide)
  have h17 := hsm.keep h17 (by decide)
  have h18 := hsm.keep h18 (by decide)
  have h19 := hsm.keep h19 (by decide)
  have h20 := hsm.keep h20 (by decide)
  have h21 := hsm.keep h21 (by decide)
  have hS := hS.call hsm (by decide)
  refine ww_aload_n K dX2_copyRepublic_30 rfl ?_
  refine ww_get K dX2_copyRepublic_31 lf_X2_18 h14 rfl ?_
  refine ww_aload_n K dX2_copyRepublic_34 rfl ?_
  refine ww_get K dX2_copyRepublic_35 lf_X2_18 h85 rfl ?_
  refine ww_xSNv K dX2_copyRepublic_38 lc_X2_61 (ct_copy G l h17 h88 (by decide)) rfl ⟨Nat.le_of_ble_eq_true rfl, Nat.le_of_ble_eq_true rfl⟩ (Nat.le_of_ble_eq_true rfl) (fun w7 hq hln_w7 => ?_)
  obtain ⟨⟨F6, eF6, h88⟩, hsm⟩ := hq
  have h85 := hsm.keep h85 (by decide)
  have h86 := hsm.keep h86 (by decide)
  have h87 := hsm.keep h87 (by decide)
  have h89 := hsm.keep h89 (by decide)
  have h90 := hsm.keep h90 (by decide)
  have h91 := hsm.keep h91 (by decide)
  have h92 := hsm.keep h92 (by decide)
  have h14 := hsm.keep h14 (by decide)
  have h15 := hsm.keep h15 (by decide)
  have h16 := hsm.keep h16 (by decide)
  have h17 := hsm.keep h17 (by decide)
  have h18 := hsm.keep h18 (by decide)
  have h19 := hsm.keep h19 (by decide)
  have h20 := hsm.keep h20 (by decide)
  have h21 := hsm.keep h21 (by decide)
  have hS := hS.call hsm (by decide)
  refine ww_aload_n K dX2_copyRepublic_41 rfl ?_
  refine ww_get K dX2_copyRepublic_42 lf_X2_21 h14 rfl ?_
  refine ww_aload_n K dX2_copyRepublic_45 rfl ?_
  refine ww_get K dX2_copyRepublic_46 lf_X2_21 h85 rfl ?_
  refine ww_xSNv K dX2_copyRepublic_49 lc_X2_61 (ct_copy G l h18 h89 (by decide)) rfl ⟨Nat.le_of_ble_eq_true rfl, Nat.le_of_ble_eq_true rfl⟩ (Nat.le_of_ble_eq_true rfl) (fun w9 hq hln_w9 => ?_)
  obtain ⟨⟨F8, eF8, h89⟩, hsm⟩ := hq
  have h85 := hsm.keep h85 (by decide)
  have h86 := hsm.keep h86 (by decide)
  have h87 := hsm.keep h87 (by decide)
  have h88 := hsm.keep h88 (by decide)
  have h90 := hsm.keep h90 (by decide)
  have h91 := hsm.keep h91 (by decide)
  have h92 := hsm.keep h92 (by decide)
  have h14 := hsm.keep h14 (by decide)
  have h15 := hsm.keep h15 (by decide)
  have h16 := hsm.keep h16 (by decide)
  have h17 := hsm.keep h17 (by decide)
  have h18 := hsm.keep h18 (by decide)
  have h19 := hsm.keep h19 (by decide)
  have h20 := hsm.keep h20 (by decide)
  have h21 := hsm.keep h21 (by decide)
  have hS := hS.call hsm (by decide)
  refine ww_aload_n K dX2_copyRepublic_52 rfl ?_
  refine ww_get K dX2_copyRepublic_53 lf_X2_24 h14 rfl ?_
  refine ww_aload_n K dX2_copyRepublic_56 rfl ?_
  refine ww_get K dX2_copyRepublic_57 lf_X2_24 h85 rfl ?_
  refine ww_xSNv K dX2_copyRepublic_60 lc_X2_61 (ct_copy G l h19 h90 (by decide)) rfl ⟨Nat.le_of_ble_eq_true rfl, Nat.le_of_ble_eq_true rfl⟩ (Nat.le_of_ble_eq_true rfl) (fun w11 hq hln_w11 => ?_)
  obtain ⟨⟨F10, eF10, h90⟩, hsm⟩ := hq
  have h85 := hsm.keep h85 (by decide)
  have h86 := hsm.keep h86 (by decide)
  have h87 := hsm.keep h87 (by decide)
  have h88 := hsm.keep h88 (by decide)
  have h89 := hsm.keep h89 (by decide)
  have h91 := hsm.keep h91 (by decide)
  have h92 := hsm.keep h92 (by decide)
  have h14 := hsm.keep h14 (by decide)
  have h15 := hsm.keep h15 (by decide)
  have h16 := hsm.keep h16 (by decide)
  have h17 := hsm.keep h17 (by decide)
  have h18 := hsm.keep h18 (by decide)
  have h19 := hsm.keep h19 (by decide)
  have h20 := hsm.keep h20 (by decide)
  have h21 := hsm.keep h21 (by decide)
  have hS := hS.call hsm (by decide)
  refine ww_aload_n K dX2_copyRepublic_63 rfl ?_
  refine ww_get K dX2_copyRepublic_64 lf_X2_27 h14 rfl ?_
  refine ww_aload_n K dX2_copyRepublic_67 rfl ?_
  refine ww_get K dX2_copyRepublic_68 lf_X2_27 h85 rfl ?_
  refine ww_xSNv K dX2_copyRepublic_71 lc_X2_61 (ct_copy G l h20 h91 (by decide)) rfl ⟨Nat.le_of_ble_eq_true rfl, Nat.le_of_ble_eq_true rfl⟩ (Nat.le_of_ble_eq_true rfl) (fun w13 hq hln_w13 => ?_)
  obtain ⟨⟨F12, eF12, h91⟩, hsm⟩ := hq
  have h85 := hsm.keep h85 (by decide)
  have h86 := hsm.keep h86 (by decide)
  have h87 := hsm.keep h87 (by decide)
  have h88 := hsm.keep h88 (by decide)
  have h89 := hsm.keep h89 (by decide)
  have h90 := hsm.keep h90 (by decide)
  have h92 := hsm.keep h92 (by decide)
  have h14 := hsm.keep h14 (by decide)
  have h15 := hsm.keep h15 (by decide)
  have h16 := hsm.keep h16 (by decide)
  have h17 := hsm.keep h17 (by decide)
  have h18 := hsm.keep h18 (by decide)
  have h19 := hsm.keep h19 (by decide)
  have h20 := hsm.keep h20 (by decide)
  have h21 := hsm.keep h21 (by decide)
  have hS := hS.call hsm (by decide)
  refine ww_aload_n K dX2_copyRepublic_74 rfl ?_
  refine ww_get K dX2_copyRepublic_75 lf_X2_30 h14 rfl ?_
  refine ww_aload_n K dX2_copyRepublic_78 rfl ?_
  refine ww_get K dX2_copyRepublic_79 lf_X2_30 h85 rfl ?_
  refine ww_xSNv K dX2_copyRepublic_82 lc_X2_61 (ct_copy G l h21 h92 (by decide)) rfl ⟨Nat.le_of_ble_eq_true rfl, Nat.le_of_ble_eq_true rfl⟩ (Nat.le_of_ble_eq_true rfl) (fun w15 hq hln_w15 => ?_)
  obtain ⟨⟨F14, eF14, h92⟩, hsm⟩ := hq
  have h85 := hsm.keep h85 (by decide)
  have h86 := hsm.keep h86 (by decide)
  have h87 := hsm.keep h87 (by decide)
  have h88 := hsm.keep h88 (by decide)
  have h89 := hsm.keep h89 (by decide)
  have h90 := hsm.keep h90 (by decide)
  have h91 := hsm.keep h91 (by decide)
  have h14 := hsm.keep h14 (by decide)
  have h15 := hsm.keep h15 (by decide)
  have h16 := hsm.keep h16 (by decide)
  have h17 := hsm.keep h17 (by decide)
  have h18 := hsm.keep h18 (by decide)
  have h19 := hsm.keep h19 (by decide)
  have h20 := hsm.keep h20 (by decide)
  have h21 := hsm.keep h21 (by decide)
  have hS := hS.call hsm (by decide)
  refine ww_aload_n K dX2_copyRepublic_85 rfl ?_
  refine ww_aload_n K dX2_copyRepublic_86 rfl ?_
  refine ww_get K dX2_copyRepublic_87 lf_X2_43 h14 rfl ?_
  refine ww_putX K dX2_copyRepublic_90 lp_X2_43 h85 (Nat.le_of_ble_eq_true rfl) rfl rfl (fun w16 hln_w16 h85 hne_w16 => ?_)
  have h85 : w16[85]? = some (cO 2 [eI (b1), eR (86), eR (87), eR (88), eR (89), eR (90), eR (91), eR (92), eI (b2), eI (a3), eI (a4), eI (a5), eI (a6), eI (a7)]) := h85
  have h86 := (hne_w16 86 (by decide)).trans h86
  have h87 := (hne_w16 87 (by decide)).trans h87
  have h88 := (hne_w16 88 (by decide)).trans h88
  have h89 := (hne_w16 89 (by decide)).trans h89
  have h90 := (hne_w16 90 (by decide)).trans h90
  have h91 := (hne_w16 91 (by decide)).trans h91
  have h92 := (hne_w16 92 (by decide)).trans h92
  have h14 := (hne_w16 14 (by decide)).trans h14
  have h15 := (hne_w16 15 (by decide)).trans h15
  have h16 := (hne_w16 16 (by decide)).trans h16
  have h17 := (hne_w16 17 (by decide)).trans h17
  have h18 := (hne_w16 18 (by decide)).trans h18
  have h19 := (hne_w16 19 (by decide)).trans h19
  have h20 := (hne_w16 20 (by decide)).trans h20
  have h21 := (hne_w16 21 (by decide)).trans h21
  have hS := hS.put (k := 85) (by decide) hne_w16
  refine ww_aload_n K dX2_copyRepublic_93 rfl ?_
  refine ww_aload_n K dX2_copyRepublic_94 rfl ?_
  refine ww_get K dX2_copyRepublic_95 lf_X2_46 h14 rfl ?_
  refine ww_putX K dX2_copyRepublic_98 lp_X2_46 h85 (Nat.le_of_ble_eq_true rfl) rfl rfl (fun w17 hln_w17 h85 hne_w17 => ?_)
  have h85 : w17[85]? = some (cO 2 [eI (b1), eR (86), eR (87), eR (88), eR (89), eR (90), eR (91), eR (92), eI (b2), eI (b3), eI (a4), eI (a5), eI (a6), eI (a7)]) := h85
  have h86 := (hne_w17 86 (by decide)).trans h86
  have h87 := (hne_w17 87 (by decide)).trans h87
  have h88 := (hne_w17 88 (by decide)).trans h88
  have h89 := (hne_w17 89 (by decide)).trans h89
  have h90 := (hne_w17 90 (by decide)).trans h90
  have h91 := (hne_w17 91 (by decide)).trans h91
  have h92 := (hne_w17 92 (by decide)).trans h92
  have h14 := (hne_w17 14 (by decide)).trans h14
  have h15 := (hne_w17 15 (by decide)).trans h15
  have h16 := (hne_w17 16 (by decide)).trans h16
  have h17 := (hne_w17 17 (by decide)).trans h17
  have h18 := (hne_w17 18 (by decide)).trans h18
  have h19 := (hne_w17 19 (by decide)).trans h19
  have h20 := (hne_w17 20 (by decide)).trans h20
  have h21 := (hne_w17 21 (by decide)).trans h21
  have hS := hS.put (k := 85) (by decide) hne_w17
  refine ww_aload_n K dX2_copyRepublic_101 rfl ?_
  refine ww_aload_n K dX2_copyRepublic_102 rfl ?_
  refine ww_get K dX2_copyRepublic_103 lf_X2_49 h14 rfl ?_
  refine ww_putX K dX2_copyRepublic_106 lp_X2_49 h85 (Nat.le_of_ble_eq_true rfl) rfl rfl (fun w18 hln_w18 h85 hne_w18 => ?_)
  have h85 : w18[85]? = some (cO 2 [eI (b1), eR (86), eR (87), eR (88), eR (89), eR (90), eR (91), eR (92), eI (b2), eI (b3), eI (b4), eI (a5), eI (a6), eI (a7)]) := h85
  have h86 := (hne_w18 86 (by decide)).trans h86
  have h87 := (hne_w18 87 (by decide)).trans h87
  have h88 := (hne_w18 88 (by decide)).trans h88
  have h89 := (hne_w18 89 (by decide)).trans h89
  have h90 := (hne_w18 90 (by decide)).trans h90
  have h91 := (hne_w18 91 (by decide)).trans h91
  have h92 := (hne_w18 92 (by decide)).trans h92
  have h14 := (hne_w18 14 (by decide)).trans h14
  have h15 := (hne_w18 15 (by decide)).trans h15
  have h16 := (hne_w18 16 (by decide)).trans h16
  have h17 := (hne_w18 17 (by decide)).trans h17
  have h18 := (hne_w18 18 (by decide)).trans h18
  have h19 := (hne_w18 19 (by decide)).trans h19
  have h20 := (hne_w18 20 (by decide)).trans h20
  have h21 := (hne_w18 21 (by decide)).trans h21
  have hS := hS.put (k := 85) (by decide) hne_w18
  refine ww_aload_n K dX2_copyRepublic_109 rfl ?_
  refine ww_aload_n K dX2_copyRepublic_110 rfl ?_
  refine ww_get K dX2_copyRepublic_111 lf_X2_52 h14 rfl ?_
  refine ww_putX K dX2_copyRepublic_114 lp_X2_52 h85 (Nat.le_of_ble_eq_true rfl) rfl rfl (fun w19 hln_w19 h85 hne_w19 => ?_)
  have h85 : w19[85]? = some (cO 2 [eI (b1), eR (86), eR (87), eR (88), eR (89), eR (90), eR (91), eR (92), eI (b2), eI (b3), eI (b4), eI (b5), eI (a6), eI (a7)]) := h85
  have h86 := (hne_w19 86 (by decide)).trans h86
  have h87 := (hne_w19 87 (by decide)).trans h87
  have h88 := (hne_w19 88 (by decide)).trans h88
  have h89 := (hne_w19 89 (by decide)).trans h89
  have h90 := (hne_w19 90 (by decide)).trans h90
  have h91 := (hne_w19 91 (by decide)).trans h91
  have h92 := (hne_w19 92 (by decide)).trans h92
  have h14 := (hne_w19 14 (by decide)).trans h14
  have h15 := (hne_w19 15 (by decide)).trans h15
  have h16 := (hne_w19 16 (by decide)).trans h16
  have h17 := (hne_w19 17 (by decide)).trans h17
  have h18 := (hne_w19 18 (by decide)).trans h18
  have h19 := (hne_w19 19 (by decide)).trans h19
  have h20 := (hne_w19 20 (by decide)).trans h20
  have h21 := (hne_w19 21 (by decide)).trans h21
  have hS := hS.put (k := 85) (by decide) hne_w19
  refine ww_aload_n K dX2_copyRepublic_117 rfl ?_
  refine ww_aload_n K dX2_copyRepublic_118 rfl ?_
  refine ww_get K dX2_copyRepublic_119 lf_X2_55 h14 rfl ?_
  refine ww_putX K dX2_copyRepublic_122 lp_X2_55 h85 (Nat.le_of_ble_eq_true rfl) rfl rfl (fun w20 hln_w20 h85 hne_w20 => ?_)
  have h85 : w20[85]? = some (cO 2 [eI (b1), eR (86), eR (87), eR (88), eR (89), eR (90), eR (91), eR (92), eI (b2), eI (b3), eI (b4), eI (b5), eI (b6), eI (a7)]) := h85
  have h86 := (hne_w20 86 (by decide)).trans h86
  have h87 := (hne_w20 87 (by decide)).trans h87
  have h88 := (hne_w20 88 (by decide)).trans h88
  have h89 := (hne_w20 89 (by decide)).trans h89
  have h90 := (hne_w20 90 (by decide)).trans h90
  have h91 := (hne_w20 91 (by decide)).trans h91
  have h92 := (hne_w20 92 (by decide)).trans h92
  have h14 := (hne_w20 14 (by decide)).trans h14
  have h15 := (hne_w20 15 (by decide)).trans h15
  have h16 := (hne_w20 16 (by decide)).trans h16
  have h17 := (hne_w20 17 (by decide)).trans h17
  have h18 := (hne_w20 18 (by decide)).trans h18
  have h19 := (hne_w20 19 (by decide)).trans h19
  have h20 := (hne_w20 20 (by decide)).trans h20
  have h21 := (hne_w20 21 (by decide)).trans h21
  have hS := hS.put (k := 85) (by decide) hne_w20
  refine ww_aload_n K dX2_copyRepublic_125 rfl ?_
  refine ww_aload_n K dX2_copyRepublic_126 rfl ?_
  refine ww_get K dX2_copyRepublic_127 lf_X2_58 h14 rfl ?_
  refine ww_putX K dX2_copyRepublic_130 lp_X2_58 h85 (Nat.le_of_ble_eq_true rfl) rfl rfl (fun w21 hln_w21 h85 hne_w21 => ?_)
  have h85 : w21[85]? = some (cO 2 [eI (b1), eR (86), eR (87), eR (88), eR (89), eR (90), eR (91), eR (92), eI (b2), eI (b3), eI (b4), eI (b5), eI (b6), eI (b7)]) := h85
  have h86 := (hne_w21 86 (by decide)).trans h86
  have h87 := (hne_w21 87 (by decide)).trans h87
  have h88 := (hne_w21 88 (by decide)).trans h88
  have h89 := (hne_w21 89 (by decide)).trans h89
  have h90 := (hne_w21 90 (by decide)).trans h90
  have h91 := (hne_w21 91 (by decide)).trans h91
  have h92 := (hne_w21 92 (by decide)).trans h92
  have h14 := (hne_w21 14 (by decide)).trans h14
  have h15 := (hne_w21 15 (by decide)).trans h15
  have h16 := (hne_w21 16 (by decide)).trans h16
  have h17 := (hne_w21 17 (by decide)).trans h17
  have h18 := (hne_w21 18 (by decide)).trans h18
  have h19 := (hne_w21 19 (by decide)).trans h19
  have h20 := (hne_w21 20 (by decide)).trans h20
  have h21 := (hne_w21 21 (by decide)).trans h21
  have hS := hS.put (k := 85) (by decide) hne_w21
  exact ww_vret K dX2_copyRepublic_133 hr ⟨rfl, hS⟩
set_option maxRecDepth 100000 in
set_option maxHeartbeats 4000000 in
theorem ct_X3_copyRows_93_22 (G : EG) (l : Launch) {w : EW} {a1 b1 : Int32} {f1 g1 : Nat → Int32} (h93 : w[93]? = some (cO 3 [eI (a1), eR (94)])) (h94 : w[94]? = some (cI 0 200 f1)) (h22 : w[22]? = some (cO 3 [eI (b1), eR (23)])) (h23 : w[23]? = some (cI 0 200 g1)) : Ct G l yX3_copyRows cX3_copyRows 2 none 2 0 0 [eR (93), eR (22)] w (fun r w2 => r = none ∧ wc_same [93, 94] w w2) := by
  refine Ct_of (by decide +kernel) (Nat.le_of_ble_eq_true rfl) ?_
  intro p_ e_ s_ m_ a_ b_ t_ c_ K0 hr hin
  have K : wc_C p_ s_ m_ a_ t_ c_ G RX3 cX3_copyRows 2 w.length := K0
  clear K0
  refine WW_ls (ls2 := [some (eR (93)), some (eR (22))]) rfl ?_
  have hS : wc_same [93, 94] w w := wc_same.rf
  refine ww_aload_n K dX3_copyRows_0 rfl ?_
  refine ww_aload_n K dX3_copyRows_1 rfl ?_
  refine ww_get K dX3_copyRows_2 lf_X3_15 h22 rfl ?_
  refine ww_putX K dX3_copyRows_5 lp_X3_15 h93 (Nat.le_of_ble_eq_true rfl) rfl rfl (fun w1 hln_w1 h93 hne_w1 => ?_)
  have h93 : w1[93]? = some (cO 3 [eI (b1), eR (94)]) := h93
  have h94 := (hne_w1 94 (by decide)).trans h94
  have h22 := (hne_w1 22 (by decide)).trans h22
  have h23 := (hne_w1 23 (by decide)).trans h23
  have hS := hS.put (k := 93) (by decide) hne_w1
  refine ww_aload_n K dX3_copyRows_8 rfl ?_
  refine ww_get K dX3_copyRows_9 lf_X3_9 h22 rfl ?_
  refine ww_aload_n K dX3_copyRows_12 rfl ?_
  refine ww_get K dX3_copyRows_13 lf_X3_9 h93 rfl ?_
  refine ww_xSNv K dX3_copyRows_16 lc_X3_25 (ct_copy G l h23 h94 (by decide)) rfl ⟨Nat.le_of_ble_eq_true rfl, Nat.le_of_ble_eq_true rfl⟩ (Nat.le_of_ble_eq_true rfl) (fun w3 hq hln_w3 => ?_)
  obtain ⟨⟨F2, eF2, h94⟩, hsm⟩ := hq
  have h93 := hsm.keep h93 (by decide)
  have h22 := hsm.keep h22 (by decide)
  have h23 := hsm.keep h23 (by decide)
  have hS := hS.call hsm (by decide)
  exact ww_vret K dX3_copyRows_19 hr ⟨rfl, hS⟩
set_option maxRecDepth 100000 in
set_option maxHeartbeats 4000000 in
theorem ct_X3_copyRows_95_24 (G : EG) (l : Launch) {w : EW} {a1 b1 : Int32} {f1 g1 : Nat → Int32} (h95 : w[95]? = some (cO 3 [eI (a1), eR (96)])) (h96 : w[96]? = some (cI 0 200 f1)) (h24 : w[24]? = some (cO 3 [eI (b1), eR (25)])) (h25 : w[25]? = some (cI 0 200 g1)) : Ct G l yX3_copyRows cX3_copyRows 2 none 2 0 0 [eR (95), eR (24)] w (fun r w2 => r = none ∧ wc_same [95, 96] w w2) := by
  refine Ct_of (by decide +kernel) (Nat.le_of_ble_eq_true rfl) ?_
  intro p_ e_ s_ m_ a_ b_ t_ c_ K0 hr hin
  have K : wc_C p_ s_ m_ a_ t_ c_ G RX3 cX3_copyRows 2 w.length := K0
  clear K0
  refine WW_ls (ls2 := [some (eR (95)), some (eR (24))]) rfl ?_
  have hS : wc_same [95, 96] w w := wc_same.rf
  refine ww_aload_n K dX3_copyRows_0 rfl ?_
  refine ww_aload_n K dX3_copyRows_1 rfl ?_
  refine ww_get K dX3_copyRows_2 lf_X3_15 h24 rfl ?_
  refine ww_putX K dX3_copyRows_5 lp_X3_15 h95 (Nat.le_of_ble_eq_true rfl) rfl rfl (fun w1 hln_w1 h95 hne_w1 => ?_)
  have h95 : w1[95]? = some (cO 3 [eI (b1), eR (96)]) := h95
  have h96 := (hne_w1 96 (by decide)).trans h96
  have h24 := (hne_w1 24 (by decide)).trans h24
  have h25 := (hne_w1 25 (by decide)).trans h25
  have hS := hS.put (k := 95) (by decide) hne_w1
  refine ww_aload_n K dX3_copyRows_8 rfl ?_
  refine ww_get K dX3_copyRows_9 lf_X3_9 h24 rfl ?_
  refine ww_aload_n K dX3_copyRows_12 rfl ?_
  refine ww_get K dX3_copyRows_13 lf_X3_9 h95 rfl ?_
  refine ww_xSNv K dX3_copyRows_16 lc_X3_25 (ct_copy G l h25 h96 (by decide)) rfl ⟨Nat.le_of_ble_eq_true rfl, Nat.le_of_ble_eq_true rfl⟩ (Nat.le_of_ble_eq_true rfl) (fun w3 hq hln_w3 => ?_)
  obtain ⟨⟨F2, eF2, h96⟩, hsm⟩ := hq
  have h95 := hsm.keep h95 (by decide)
  have h24 := hsm.keep h24 (by decide)
  have h25 := hsm.keep h25 (by decide)
  have hS := hS.call hsm (by decide)
  exact ww_vret K dX3_copyRows_19 hr ⟨rfl, hS⟩
set_option maxRecDepth 100000 in
set_option maxHeartbeats 4000000 in
theorem ct_X3_copyRows_97_26 (G : EG) (l : Launch) {w : EW} {a1 b1 : Int32} {f1 g1 : Nat → Int32} (h97 : w[97]? = some (cO 3 [eI (a1), eR (98)])) (h98 : w[98]? = some (cI 0 200 f1)) (h26 : w[26]? = some (cO 3 [eI (b1), eR (27)])) (h27 : w[27]? = some (cI 0 200 g1)) : Ct G l yX3_copyRows cX3_copyRows 2 none 2 0 0 [eR (97), eR (26)] w (fun r w2 => r = none ∧ wc_same [97, 98] w w2) := by
  refine Ct_of (by decide +kernel) (Nat.le_of_ble_eq_true rfl) ?_
  intro p_ e_ s_ m_ a_ b_ t_ c_ K0 hr hin
  have K : wc_C p_ s_ m_ a_ t_ c_ G RX3 cX3_copyRows 2 w.length := K0
  clear K0
  refine WW_ls (ls2 := [some (eR (97)), some (eR (26))]) rfl ?_
  have hS : wc_same [97, 98] w w := wc_same.rf
  refine ww_aload_n K dX3_copyRows_0 rfl ?_
  refine ww_aload_n K dX3_copyRows_1 rfl ?_
  refine ww_get K dX3_copyRows_2 lf_X3_15 h26 rfl ?_
  refine ww_putX K dX3_copyRows_5 lp_X3_15 h97 (Nat.le_of_ble_eq_true rfl) rfl rfl (fun w1 hln_w1 h97 hne_w1 => ?_)
  have h97 : w1[97]? = some (cO 3 [eI (b1), eR (98)]) := h97
  have h98 := (hne_w1 98 (by decide)).trans h98
  have h26 := (hne_w1 26 (by decide)).trans h26
  have h27 := (hne_w1 27 (by decide)).trans h27
  have hS := hS.put (k := 97) (by decide) hne_w1
  refine ww_aload_n K dX3_copyRows_8 rfl ?_
  refine ww_get K dX3_copyRows_9 lf_X3_9 h26 rfl ?_
  refine ww_aload_n K dX3_copyRows_12 rfl ?_
  refine ww_get K dX3_copyRows_13 lf_X3_9 h97 rfl ?_
  refine ww_xSNv K dX3_copyRows_16 lc_X3_25 (ct_copy G l h27 h98 (by decide)) rfl ⟨Nat.le_of_ble_eq_true rfl, Nat.le_of_ble_eq_true rfl⟩ (Nat.le_of_ble_eq_true rfl) (fun w3 hq hln_w3 => ?_)
  obtain ⟨⟨F2, eF2, h98⟩, hsm⟩ := hq
  have h97 := hsm.keep h97 (by decide)
  have h26 := hsm.keep h26 (by decide)
  have h27 := hsm.keep h27 (by decide)
  have hS := hS.call hsm (by decide)
  exact ww_vret K dX3_copyRows_19 hr ⟨rfl, hS⟩
set_option maxRecDepth 100000 in
set_option maxHeartbeats 4000000 in
theorem ct_X3_copyRows_99_28 (G : EG) (l : Launch) {w : EW} {a1 b1 : Int32} {f1 g1 : Nat → Int32} (h99 : w[99]? = some (cO 3 [eI (a1), eR (100)])) (h100 : w[100]? = some (cI 0 200 f1)) (h28 : w[28]? = some (cO 3 [eI (b1), eR (29)])) (h29 : w[29]? = some (cI 0 200 g1)) : Ct G l yX3_copyRows cX3_copyRows 2 none 2 0 0 [eR (99), eR (28)] w (fun r w2 => r = none ∧ wc_same [99, 100] w w2) := by
  refine Ct_of (by decide +kernel) (Nat.le_of_ble_eq_true rfl) ?_
  intro p_ e_ s_ m_ a_ b_ t_ c_ K0 hr hin
  have K : wc_C p_ s_ m_ a_ t_ c_ G RX3 cX3_copyRows 2 w.length := K0
  clear K0
  refine WW_ls (ls2 := [some (eR (99)), some (eR (28))]) rfl ?_
  have hS : wc_same [99, 100] w w := wc_same.rf
  refine ww_aload_n K dX3_copyRows_0 rfl ?_
  refine ww_aload_n K dX3_copyRows_1 rfl ?_
  refine ww_get K dX3_copyRows_2 lf_X3_15 h28 rfl ?_
  refine ww_putX K dX3_copyRows_5 lp_X3_15 h99 (Nat.le_of_ble_eq_true rfl) rfl rfl (fun w1 hln_w1 h99 hne_w1 => ?_)
  have h99 : w1[99]? = some (cO 3 [eI (b1), eR (100)]) := h99
  have h100 := (hne_w1 100 (by decide)).trans h100
  have h28 := (hne_w1 28 (by decide)).trans h28
  have h29 := (hne_w1 29 (by decide)).trans h29
  have hS := hS.put (k := 99) (by decide) hne_w1
  refine ww_aload_n K dX3_copyRows_8 rfl ?_
  refine ww_get K dX3_copyRows_9 lf_X3_9 h28 rfl ?_
  refine ww_aload_n K dX3_copyRows_12 rfl ?_
  refine ww_get K dX3_copyRows_13 lf_X3_9 h99 rfl ?_
  refine ww_xSNv K dX3_copyRows_16 lc_X3_25 (ct_copy G l h29 h100 (by decide)) rfl ⟨Nat.le_of_ble_eq_true rfl, Nat.le_of_ble_eq_true rfl⟩ (Nat.le_of_ble_eq_true rfl) (fun w3 hq hln_w3 => ?_)
  obtain ⟨⟨F2, eF2, h100⟩, hsm⟩ := hq
  have h99 := hsm.keep h99 (by decide)
  have h28 := hsm.keep h28 (by decide)
  have h29 := hsm.keep h29 (by decide)
  have hS := hS.call hsm (by decide)
  exact ww_vret K dX3_copyRows_19 hr ⟨rfl, hS⟩
set_option maxRecDepth 100000 in
set_option maxHeartbeats 4000000 in
theorem ct_X3_copyRows_101_30 (G : EG) (l : Launch) {w : EW} {a1 b1 : Int32} {f1 g1 : Nat → Int32} (h101 : w[101]? = some (cO 3 [eI (a1), eR (102)])) (h102 : w[102]? = some (cI 0 200 f1)) (h30 : w[30]? = some (cO 3 [eI (b1), eR (31)])) (h31 : w[31]? = some (cI 0 200 g1)) : Ct G l yX3_copyRows cX3_copyRows 2 none 2 0 0 [eR (101), eR (30)] w (fun r w2 => r = none ∧ wc_same [101, 102] w w2) := by
  refine Ct_of (by decide +kernel) (Nat.le_of_ble_eq_true rfl) ?_
  intro p_ e_ s_ m_ a_ b_ t_ c_ K0 hr hin
  have K : wc_C p_ s_ m_ a_ t_ c_ G RX3 cX3_copyRows 2 w.length := K0
  clear K0
  refine WW_ls (ls2 := [some (eR (101)), some (eR (30))]) rfl ?_
  have hS : wc_same [101, 102] w w := wc_same.rf
  refine ww_aload_n K dX3_copyRows_0 rfl ?_
  refine ww_aload_n K dX3_copyRows_1 rfl ?_
  refine ww_get K dX3_copyRows_2 lf_X3_15 h30 rfl ?_
  refine ww_putX K dX3_copyRows_5 lp_X3_15 h101 (Nat.le_of_ble_eq_true rfl) rfl rfl (fun w1 hln_w1 h101 hne_w1 => ?_)
  have h101 : w1[101]? = some (cO 3 [eI (b1), eR (102)]) := h101
  have h102 := (hne_w1 102 (by decide)).trans h102
  have h30 := (hne_w1 30 (by decide)).trans h30
  have h31 := (hne_w1 31 (by decide)).trans h31
  have hS := hS.put (k := 101) (by decide) hne_w1
  refine ww_aload_n K dX3_copyRows_8 rfl ?_
  refine ww_get K dX3_copyRows_9 lf_X3_9 h30 rfl ?_
  refine ww_aload_n K dX3_copyRows_12 rfl ?_
  refine ww_get K dX3_copyRows_13 lf_X3_9 h101 rfl ?_
  refine ww_xSNv K dX3_copyRows_16 lc_X3_25 (ct_copy G l h31 h102 (by decide)) rfl ⟨Nat.le_of_ble_eq_true rfl, Nat.le_of_ble_eq_true rfl⟩ (Nat.le_of_ble_eq_true rfl) (fun w3 hq hln_w3 => ?_)
  obtain ⟨⟨F2, eF2, h102⟩, hsm⟩ := hq
  have h101 := hsm.keep h101 (by decide)
  have h30 := hsm.keep h30 (by decide)
  have h31 := hsm.keep h31 (by decide)
  have hS := hS.call hsm (by decide)
  exact ww_vret K dX3_copyRows_19 hr ⟨rfl, hS⟩
set_option maxRecDepth 100000 in
set_option maxHeartbeats 4000000 in
theorem ct_X3_copyRows_103_32 (G : EG) (l : Launch) {w : EW} {a1 b1 : Int32} {f1 g1 : Nat → Int32} (h103 : w[103]? = some (cO 3 [eI (a1), eR (104)])) (h104 : w[104]? = some (cI 0 200 f1)) (h32 : w[32]? = some (cO 3 [eI (b1), eR (33)])) (h33 : w[33]? = some (cI 0 200 g1)) : Ct G l yX3_copyRows cX3_copyRows 2 none 2 0 0 [eR (103), eR (32)] w (fun r w2 => r = none ∧ wc_same [103, 104] w w2) := by
  refine Ct_of (by decide +kernel) (Nat.le_of_ble_eq_true rfl) ?_
  intro p_ e_ s_ m_ a_ b_ t_ c_ K0 hr hin
  have K : wc_C p_ s_ m_ a_ t_ c_ G RX3 cX3_copyRows 2 w.length := K0
  clear K0
  refine WW_ls (ls2 := [some (eR (103)), some (eR (32))]) rfl ?_
  have hS : wc_same [103, 104] w w := wc_same.rf
  refine ww_aload_n K dX3_copyRows_0 rfl ?_
  refine ww_aload_n K dX3_copyRows_1 rfl ?_
  refine ww_get K dX3_copyRows_2 lf_X3_15 h32 rfl ?_
  refine ww_putX K dX3_copyRows_5 lp_X3_15 h103 (Nat.le_of_ble_eq_true rfl) rfl rfl (fun w1 hln_w1 h103 hne_w1 => ?_)
  have h103 : w1[103]? = some (cO 3 [eI (b1), eR (104)]) := h103
  have h104 := (hne_w1 104 (by decide)).trans h104
  have h32 := (hne_w1 32 (by decide)).trans h32
  have h33 := (hne_w1 33 (by decide)).trans h33
  have hS := hS.put (k := 103) (by decide) hne_w1
  refine ww_aload_n K dX3_copyRows_8 rfl ?_
  refine ww_get K dX3_copyRows_9 lf_X3_9 h32 rfl ?_
  refine ww_aload_n K dX3_copyRows_12 rfl ?_
  refine ww_get K dX3_copyRows_13 lf_X3_9 h103 rfl ?_
  refine ww_xSNv K dX3_copyRows_16 lc_X3_25 (ct_copy G l h33 h104 (by decide)) rfl ⟨Nat.le_of_ble_eq_true rfl, Nat.le_of_ble_eq_true rfl⟩ (Nat.le_of_ble_eq_true rfl) (fun w3 hq hln_w3 => ?_)
  obtain ⟨⟨F2, eF2, h104⟩, hsm⟩ := hq
  have h103 := hsm.keep h103 (by decide)
  have h32 := hsm.keep h32 (by decide)
  have h33 := hsm.keep h33 (by decide)
  have hS := hS.call hsm (by decide)
  exact ww_vret K dX3_copyRows_19 hr ⟨rfl, hS⟩
set_option maxRecDepth 100000 in
set_option maxHeartbeats 4000000 in
theorem ct_X3_copyRows_105_34 (G : EG) (l : Launch) {w : EW} {a1 b1 : Int32} {f1 g1 : Nat → Int32} (h105 : w[105]? = some (cO 3 [eI (a1), eR (106)])) (h106 : w[106]? = some (cI 0 200 f1)) (h34 : w[34]? = some (cO 3 [eI (b1), eR (35)])) (h35 : w[35]? = some (cI 0 200 g1)) : Ct G l yX3_copyRows cX3_copyRows 2 none 2 0 0 [eR (105), eR (34)] w (fun r w2 => r = none ∧ wc_same [105, 106] w w2) := by
  refine Ct_of (by decide +kernel) (Nat.le_of_ble_eq_true rfl) ?_
  intro p_ e_ s_ m_ a_ b_ t_ c_ K0 hr hin
  have K : wc_C p_ s_ m_ a_ t_ c_ G RX3 cX3_copyRows 2 w.length := K0
  clear K0
  refine WW_ls (ls2 := [some (eR (105)), some (eR (34))]) rfl ?_
  have hS : wc_same [105, 106] w w := wc_same.rf
  refine ww_aload_n K dX3_copyRows_0 rfl ?_
  refine ww_aload_n K dX3_copyRows_1 rfl ?_
  refine ww_get K dX3_copyRows_2 lf_X3_15 h34 rfl ?_
  refine ww_putX K dX3_copyRows_5 lp_X3_15 h105 (Nat.le_of_ble_eq_true rfl) rfl rfl (fun w1 hln_w1 h105 hne_w1 => ?_)
  have h105 : w1[105]? = some (cO 3 [eI (b1), eR (106)]) := h105
  have h106 := (hne_w1 106 (by decide)).trans h106
  have h34 := (hne_w1 34 (by decide)).trans h34
  have h35 := (hne_w1 35 (by decide)).trans h35
  have hS := hS.put (k := 105) (by decide) hne_w1
  refine ww_aload_n K dX3_copyRows_8 rfl ?_
  refine ww_get K dX3_copyRows_9 lf_X3_9 h34 rfl ?_
  refine ww_aload_n K dX3_copyRows_12 rfl ?_
  refine ww_get K dX3_copyRows_13 lf_X3_9 h105 rfl ?_
  refine ww_xSNv K dX3_copyRows_16 lc_X3_25 (ct_copy G l h35 h106 (by decide)) rfl ⟨Nat.le_of_ble_eq_true rfl, Nat.le_of_ble_eq_true rfl⟩ (Nat.le_of_ble_eq_true rfl) (fun w3 hq hln_w3 => ?_)
  obtain ⟨⟨F2, eF2, h106⟩, hsm⟩ := hq
  have h105 := hsm.keep h105 (by decide)
  have h34 := hsm.keep h34 (by decide)
  have h35 := hsm.keep h35 (by decide)
  have hS := hS.call hsm (by decide)
  exact ww_vret K dX3_copyRows_19 hr ⟨rfl, hS⟩
set_option maxRecDepth 100000 in
set_option maxHeartbeats 4000000 in
theorem ct_X3_copyRows_107_36 (G : EG) (l : Launch) {w : EW} {a1 b1 : Int32} {f1 g1 : Nat → Int32} (h107 : w[107]? = some (cO 3 [eI (a1), eR (108)])) (h108 : w[108]? = some (cI 0 200 f1)) (h36 : w[36]? = some (cO 3 [eI (b1), eR (37)])) (h37 : w[37]? = some (cI 0 200 g1)) : Ct G l yX3_copyRows cX3_copyRows 2 none 2 0 0 [eR (107), eR (36)] w (fun r w2 => r = none ∧ wc_same [107, 108] w w2) := by
  refine Ct_of (by decide +kernel) (Nat.le_of_ble_eq_true rfl) ?_
  intro p_ e_ s_ m_ a_ b_ t_ c_ K0 hr hin
  have K : wc_C p_ s_ m_ a_ t_ c_ G RX3 cX3_copyRows 2 w.length := K0
  clear K0
  refine WW_ls (ls2 := [some (eR (107)), some (eR (36))]) rfl ?_
  have hS : wc_same [107, 108] w w := wc_same.rf
  refine ww_aload_n K dX3_copyRows_0 rfl ?_
  refine ww_aload_n K dX3_copyRows_1 rfl ?_
  refine ww_get K dX3_copyRows_2 lf_X3_15 h36 rfl ?_
  refine ww_putX K dX3_copyRows_5 lp_X3_15 h107 (Nat.le_of_ble_eq_true rfl) rfl rfl (fun w1 hln_w1 h107 hne_w1 => ?_)
  have h107 : w1[107]? = some (cO 3 [eI (b1), eR (108)]) := h107
  have h108 := (hne_w1 108 (by decide)).trans h108
  have h36 := (hne_w1 36 (by decide)).trans h36
  have h37 := (hne_w1 37 (by decide)).trans h37
  have hS := hS.put (k := 107) (by decide) hne_w1
  refine ww_aload_n K dX3_copyRows_8 rfl ?_
  refine ww_get K dX3_copyRows_9 lf_X3_9 h36 rfl ?_
  refine ww_aload_n K dX3_copyRows_12 rfl ?_
  refine ww_get K dX3_copyRows_13 lf_X3_9 h107 rfl ?_
  refine ww_xSNv K dX3_copyRows_16 lc_X3_25 (ct_copy G l h37 h108 (by decide)) rfl ⟨Nat.le_of_ble_eq_true rfl, Nat.le_of_ble_eq_true rfl⟩ (Nat.le_of_ble_eq_true rfl) (fun w3 hq hln_w3 => ?_)
  obtain ⟨⟨F2, eF2, h108⟩, hsm⟩ := hq
  have h107 := hsm.keep h107 (by decide)
  have h36 := hsm.keep h36 (by decide)
  have h37 := hsm.keep h37 (by decide)
  have hS := hS.call hsm (by decide)
  exact ww_vret K dX3_copyRows_19 hr ⟨rfl, hS⟩
set_option maxRecDepth 100000 in
set_option maxHeartbeats 4000000 in
theorem ct_X3_copyRows_109_38 (G : EG) (l : Launch) {w : EW} {a1 b1 : Int32} {f1 g1 : Nat → Int32} (h109 : w[109]? = some (cO 3 [eI (a1), eR (110)])) (h110 : w[110]? = some (cI 0 200 f1)) (h38 : w[38]? = some (cO 3 [eI (b1), eR (39)])) (h39 : w[39]? = some (cI 0 200 g1)) : Ct G l yX3_copyRows cX3_copyRows 2 none 2 0 0 [eR (109), eR (38)] w (fun r w2 => r = none ∧ wc_same [109, 110] w w2) := by
  refine Ct_of (by decide +kernel) (Nat.le_of_ble_eq_true rfl) ?_
  intro p_ e_ s_ m_ a_ b_ t_ c_ K0 hr hin
  have K : wc_C p_ s_ m_ a_ t_ c_ G RX3 cX3_copyRows 2 w.length := K0
  clear K0
  refine WW_ls (ls2 := [some (eR (109)), some (eR (38))]) rfl ?_
  have hS : wc_same [109, 110] w w := wc_same.rf
  refine ww_aload_n K dX3_copyRows_0 rfl ?_
  refine ww_aload_n K dX3_copyRows_1 rfl ?_
  refine ww_get K dX3_copyRows_2 lf_X3_15 h38 rfl ?_
  refine ww_putX K dX3_copyRows_5 lp_X3_15 h109 (Nat.le_of_ble_eq_true rfl) rfl rfl (fun w1 hln_w1 h109 hne_w1 => ?_)
  have h109 : w1[109]? = some (cO 3 [eI (b1), eR (110)]) := h109
  have h110 := (hne_w1 110 (by decide)).trans h110
  have h38 := (hne_w1 38 (by decide)).trans h38
  have h39 := (hne_w1 39 (by decide)).trans h39
  have hS := hS.put (k := 109) (by decide) hne_w1
  refine ww_aload_n K dX3_copyRows_8 rfl ?_
  refine ww_get K dX3_copyRows_9 lf_X3_9 h38 rfl ?_
  refine ww_aload_n K dX3_copyRows_12 rfl ?_
  refine ww_get K dX3_copyRows_13 lf_X3_9 h109 rfl ?_
  refine ww_xSNv K dX3_copyRows_16 lc_X3_25 (ct_copy G l h39 h110 (by decide)) rfl ⟨Nat.le_of_ble_eq_true rfl, Nat.le_of_ble_eq_true rfl⟩ (Nat.le_of_ble_eq_true rfl) (fun w3 hq hln_w3 => ?_)
  obtain ⟨⟨F2, eF2, h110⟩, hsm⟩ := hq
  have h109 := hsm.keep h109 (by decide)
  have h38 := hsm.keep h38 (by decide)
  have h39 := hsm.keep h39 (by decide)
  have hS := hS.call hsm (by decide)
  exact ww_vret K dX3_copyRows_19 hr ⟨rfl, hS⟩
set_option maxRecDepth 100000 in
set_option maxHeartbeats 4000000 in
theorem ct_X3_copyRows_111_40 (G : EG) (l : Launch) {w : EW} {a1 b1 : Int32} {f1 g1 : Nat → Int32} (h111 : w[111]? = some (cO 3 [eI (a1), eR (112)])) (h112 : w[112]? = some (cI 0 200 f1)) (h40 : w[40]? = some (cO 3 [eI (b1), eR (41)])) (h41 : w[41]? = some (cI 0 200 g1)) : Ct G l yX3_copyRows cX3_copyRows 2 none 2 0 0 [eR (111), eR (40)] w (fun r w2 => r = none ∧ wc_same [111, 112] w w2) := by
  refine Ct_of (by decide +kernel) (Nat.le_of_ble_eq_true rfl) ?_
  intro p_ e_ s_ m_ a_ b_ t_ c_ K0 hr hin
  have K : wc_C p_ s_ m_ a_ t_ c_ G RX3 cX3_copyRows 2 w.length := K0
  clear K0
  refine WW_ls (ls2 := [some (eR (111)), some (eR (40))]) rfl ?_
  have hS : wc_same [111, 112] w w := wc_same.rf
  refine ww_aload_n K dX3_copyRows_0 rfl ?_
  refine ww_aload_n K dX3_copyRows_1 rfl ?_
  refine ww_get K dX3_copyRows_2 lf_X3_15 h40 rfl ?_
  refine ww_putX K dX3_copyRows_5 lp_X3_15 h111 (Nat.le_of_ble_eq_true rfl) rfl rfl (fun w1 hln_w1 h111 hne_w1 => ?_)
  have h111 : w1[111]? = some (cO 3 [eI (b1), eR (112)]) := h111
  have h112 := (hne_w1 112 (by decide)).trans h112
  have h40 := (hne_w1 40 (by decide)).trans h40
  have h41 := (hne_w1 41 (by decide)).trans h41
  have hS := hS.put (k := 111) (by decide) hne_w1
  refine ww_aload_n K dX3_copyRows_8 rfl ?_
  refine ww_get K dX3_copyRows_9 lf_X3_9 h40 rfl ?_
  refine ww_aload_n K dX3_copyRows_12 rfl ?_
  refine ww_get K dX3_copyRows_13 lf_X3_9 h111 rfl ?_
  refine ww_xSNv K dX3_copyRows_16 lc_X3_25 (ct_copy G l h41 h112 (by decide)) rfl ⟨Nat.le_of_ble_eq_true rfl, Nat.le_of_ble_eq_true rfl⟩ (Nat.le_of_ble_eq_true rfl) (fun w3 hq hln_w3 => ?_)
  obtain ⟨⟨F2, eF2, h112⟩, hsm⟩ := hq
  have h111 := hsm.keep h111 (by decide)
  have h40 := hsm.keep h40 (by decide)
  have h41 := hsm.keep h41 (by decide)
  have hS := hS.call hsm (by decide)
  exact ww_vret K dX3_copyRows_19 hr ⟨rfl, hS⟩
set_option maxRecDepth 100000 in
set_option maxHeartbeats 4000000 in
theorem ct_X5_copyTold_72_1 (G : EG) (l : Launch) {w : EW}  (h72 : w[72]? = some (cO 5 [eR (73), eI (0), eI (0), eI ((-1)), eR (74), eR (75), eR (76)])) (h73 : w[73]? = some (cI 0 600 (fun _ => 0))) (h74 : w[74]? = some (cI 0 6 (fun _ => 0))) (h75 : w[75]? = some (cQ 2 2 (va_up (va_up (fun _ => none) 0 (some 77)) 1 (some 85)))) (h76 : w[76]? = some (cQ 3 10 (va_up (va_up (va_up (va_up (va_up (va_up (va_up (va_up (va_up (va_up (fun _ => none) 0 (some 93)) 1 (some 95)) 2 (some 97)) 3 (some 99)) 4 (some 101)) 5 (some 103)) 6 (some 105)) 7 (some 107)) 8 (some 109)) 9 (some 111)))) (h77 : w[77]? = some (cO 2 [eI (0), eR (78), eR (79), eR (80), eR (81), eR (82), eR (83), eR (84), eI (0), eI (0), eI (0), eI (0), eI (0), eI (0)])) (h78 : w[78]? = some (cI 0 6 (fun _ => 0))) (h79 : w[79]? = some (cI 0 6 (fun _ => 0))) (h80 : w[80]? = some (cI 0 6 (fun _ => 0))) (h81 : w[81]? = some (cI 0 6 (fun _ => 0))) (h82 : w[82]? = some (cI 0 72 (fun _ => 0))) (h83 : w[83]? = some (cI 0 6 (fun _ => 0))) (h84 : w[84]? = some (cI 0 3 (fun _ => 0))) (h85 : w[85]? = some (cO 2 [eI (0), eR (86), eR (87), eR (88), eR (89), eR (90), eR (91), eR (92), eI (0), eI (0), eI (0), eI (0), eI (0), eI (0)])) (h86 : w[86]? = some (cI 0 6 (fun _ => 0))) (h87 : w[87]? = some (cI 0 6 (fun _ => 0))) (h88 : w[88]? = some (cI 0 6 (fun _ => 0))) (h89 : w[89]? = some (cI 0 6 (fun _ => 0))) (h90 : w[90]? = some (cI 0 72 (fun _ => 0))) (h91 : w[91]? = some (cI 0 6 (fun _ => 0))) (h92 : w[92]? = some (cI 0 3 (fun _ => 0))) (h93 : w[93]? = some (cO 3 [eI (0), eR (94)])) (h94 : w[94]? = some (cI 0 200 (fun _ => 0))) (h95 : w[95]? = some (cO 3 [eI (0), eR (96)])) (h96 : w[96]? = some (cI 0 200 (fun _ => 0))) (h97 : w[97]? = some (cO 3 [eI (0), eR (98)])) (h98 : w[98]? = some (cI 0 200 (fun _ => 0))) (h99 : w[99]? = some (cO 3 [eI (0), eR (100)])) (h100 : w[100]? = some (cI 0 200 (fun _ => 0))) (h101 : w[101]? = some (cO 3 [eI (0), eR (102)])) (h102 : w[102]? = some (cI 0 200 (fun _ => 0))) (h103 : w[103]? = some (cO 3 [eI (0), eR (104)])) (h104 : w[104]? = some (cI 0 200 (fun _ => 0))) (h105 : w[105]? = some (cO 3 [eI (0), eR (106)])) (h106 : w[106]? = some (cI 0 200 (fun _ => 0))) (h107 : w[107]? = some (cO 3 [eI (0), eR (108)])) (h108 : w[108]? = some (cI 0 200 (fun _ => 0))) (h109 : w[109]? = some (cO 3 [eI (0), eR (110)])) (h110 : w[110]? = some (cI 0 200 (fun _ => 0))) (h111 : w[111]? = some (cO 3 [eI (0), eR (112)])) (h112 : w[112]? = some (cI 0 200 (fun _ => 0))) (h1 : w[1]? = some (cO 5 [eR (2), eI (0), eI (0), eI ((-1)), eR (3), eR (4), eR (5)])) (h2 : w[2]? = some (cI 0 600 (fun _ => 0))) (h3 : w[3]? = some (cI 0 6 (fun _ => 0))) (h4 : w[4]? = some (cQ 2 2 (va_up (va_up (fun _ => none) 0 (some 6)) 1 (some 14)))) (h5 : w[5]? = some (cQ 3 10 (va_up (va_up (va_up (va_up (va_up (va_up (va_up (va_up (va_up (va_up (fun _ => none) 0 (some 22)) 1 (some 24)) 2 (some 26)) 3 (some 28)) 4 (some 30)) 5 (some 32)) 6 (some 34)) 7 (some 36)) 8 (some 38)) 9 (some 40)))) (h6 : w[6]? = some (cO 2 [eI (0), eR (7), eR (8), eR (9), eR (10), eR (11), eR (12), eR (13), eI (0), eI (0), eI (0), eI (0), eI (0), eI (0)])) (h7 : w[7]? = some (cI 0 6 (fun _ => 0))) (h8 : w[8]? = some (cI 0 6 (fun _ => 0))) (h9 : w[9]? = some (cI 0 6 (fun _ => 0))) (h10 : w[10]? = some (cI 0 6 (fun _ => 0))) (h11 : w[11]? = some (cI 0 72 (fun _ => 0))) (h12 : w[12]? = some (cI 0 6 (fun _ => 0))) (h13 : w[13]? = some (cI 0 3 (fun _ => 0))) (h14 : w[14]? = some (cO 2 [eI (0), eR (15), eR (16), eR (17), eR (18), eR (19), eR (20), eR (21), eI (0), eI (0), eI (0), eI (0), eI (0), eI (0)])) (h15 : w[15]? = some (cI 0 6 (fun _ => 0))) (h16 : w[16]? = some (cI 0 6 (fun _ => 0))) (h17 : w[17]? = some (cI 0 6 (fun _ => 0))) (h18 : w[18]? = some (cI 0 6 (fun _ => 0))) (h19 : w[19]? = some (cI 0 72 (fun _ => 0))) (h20 : w[20]? = some (cI 0 6 (fun _ => 0))) (h21 : w[21]? = some (cI 0 3 (fun _ => 0))) (h22 : w[22]? = some (cO 3 [eI (0), eR (23)])) (h23 : w[23]? = some (cI 0 200 (fun _ => 0))) (h24 : w[24]? = some (cO 3 [eI (0), eR (25)])) (h25 : w[25]? = some (cI 0 200 (fun _ => 0))) (h26 : w[26]? = some (cO 3 [eI (0), eR (27)])) (h27 : w[27]? = some (cI 0 200 (fun _ => 0))) (h28 : w[28]? = some (cO 3 [eI (0), eR (29)])) (h29 : w[29]? = some (cI 0 200 (fun _ => 0))) (h30 : w[30]? = some (cO 3 [eI (0), eR (31)])) (h31 : w[31]? = some (cI 0 200 (fun _ => 0))) (h32 : w[32]? = some (cO 3 [eI (0), eR (33)])) (h33 : w[33]? = some (cI 0 200 (fun _ => 0))) (h34 : w[34]? = some (cO 3 [eI (0), eR (35)])) (h35 : w[35]? = some (cI 0 200 (fun _ => 0))) (h36 : w[36]? = some (cO 3 [eI (0), eR (37)])) (h37 : w[37]? = some (cI 0 200 (fun _ => 0))) (h38 : w[38]? = some (cO 3 [eI (0), eR (39)])) (h39 : w[39]? = some (cI 0 200 (fun _ => 0))) (h40 : w[40]? = some (cO 3 [eI (0), eR (41)])) (h41 : w[41]? = some (cI 0 200 (fun _ => 0))) : Ct G l yX5_copyTold cX5_copyTold 3 none 3 0 0 [eR (72), eR (1)] w (fun r w2 => r = none ∧ (w2[72]? = some (cO 5 [eR (73), eI (0), eI (0), eI ((-1)), eR (74), eR (75), eR (76)]) ∧ wc_same [72, 73, 74, 75, 76, 77, 78, 79, 80, 81, 82, 83, 84, 85, 86, 87, 88, 89, 90, 91, 92, 93, 94, 95, 96, 97, 98, 99, 100, 101, 102, 103, 104, 105, 106, 107, 108, 109, 110, 111, 112] w w2)) := by
  refine Ct_of (by decide +kernel) (Nat.le_of_ble_eq_true rfl) ?_
  intro p_ e_ s_ m_ a_ b_ t_ c_ K0 hr hin
  have K : wc_C p_ s_ m_ a_ t_ c_ G RX5 cX5_copyTold 3 w.length := K0
  clear K0
  refine WW_ls (ls2 := [some (eR (72)), some (eR (1)), none]) rfl ?_
  have hS : wc_same [72, 73, 74, 75, 76, 77, 78, 79, 80, 81, 82, 83, 84, 85, 86, 87, 88, 89, 90, 91, 92, 93, 94, 95, 96, 97, 98, 99, 100, 101, 102, 103, 104, 105, 106, 107, 108, 109, 110, 111, 112] w w := wc_same.rf
  refine ww_aload_n K dX5_copyTold_0 rfl ?_
  refine ww_get K dX5_copyTold_1 lf_X5_9 h1 rfl ?_
  refine ww_aload_n K dX5_copyTold_4 rfl ?_
  refine ww_get K dX5_copyTold_5 lf_X5_9 h72 rfl ?_
  refine ww_xSNv K dX5_copyTold_8 lc_X5_36 (ct_copy G l h2 h73 (by decide)) rfl ⟨Nat.le_of_ble_eq_true rfl, Nat.le_of_ble_eq_true rfl⟩ (Nat.le_of_ble_eq_true rfl) (fun w2 hq hln_w2 => ?_)
  obtain ⟨⟨F1, eF1, h73⟩, hsm⟩ := hq
  have h72 := hsm.keep h72 (by decide)
  have h74 := hsm.keep h74 (by decide)
  have h75 := hsm.keep h75 (by decide)
  have h76 := hsm.keep h76 (by decide)
  have h77 := hsm.keep h77 (by decide)
  have h78 := hsm.keep h78 (by decide)
  have h79 := hsm.keep h79 (by decide)
  have h80 := hsm.keep h80 (by decide)
  have h81 := hsm.keep h81 (by decide)
  have h82 := hsm.keep h82 (by decide)
  have h83 := hsm.keep h83 (by decide)
  have h84 := hsm.keep h84 (by decide)
  have h85 := hsm.keep h85 (by decide)
  have h86 := hsm.keep h86 (by decide)
  have h87 := hsm.keep h87 (by decide)
  have h88 := hsm.keep h88 (by decide)
  have h89 := hsm.keep h89 (by decide)
  have h90 := hsm.keep h90 (by decide)
  have h91 := hsm.keep h91 (by decide)
  have h92 := hsm.keep h92 (by decide)
  have h93 := hsm.keep h93 (by decide)
  have h94 := hsm.keep h94 (by decide)
  have h95 := hsm.keep h95 (by decide)
  have h96 := hsm.keep h96 (by decide)
  have h97 := hsm.keep h97 (by decide)
  have h98 := hsm.keep h98 (by decide)
  have h99 := hsm.keep h99 (by decide)
  have h100 := hsm.keep h100 (by decide)
  have h101 := hsm.keep h101 (by decide)
  have h102 := hsm.keep h102 (by decide)
  have h103 := hsm.keep h103 (by decide)
  have h104 := hsm.keep h104 (by decide)
  have h105 := hsm.keep h105 (by decide)
  have h106 := hsm.keep h106 (by decide)
  have h107 := hsm.keep h107 (by decide)
  have h108 := hsm.keep h108 (by decide)
  have h109 := hsm.keep h109 (by decide)
  have h110 := hsm.keep h110 (by decide)
  have h111 := hsm.keep h111 (by decide)
  have h112 := hsm.keep h112 (by decide)
  have h1 := hsm.keep h1 (by decide)
  have h2 := hsm.keep h2 (by decide)
  have h3 := hsm.keep h3 (by decide)
  have h4 := hsm.keep h4 (by decide)
  have h5 := hsm.keep h5 (by decide)
  have h6 := hsm.keep h6 (by decide)
  have h7 := hsm.keep h7 (by decide)
  have h8 := hsm.keep h8 (by decide)
  have h9 := hsm.keep h9 (by decide)
  have h10 := hsm.keep h10 (by decide)
  have h11 := hsm.keep h11 (by decide)
  have h12 := hsm.keep h12 (by decide)
  have h13 := hsm.keep h13 (by decide)
  have h14 := hsm.keep h14 (by decide)
  have h15 := hsm.keep h15 (by decide)
  have h16 := hsm.keep h16 (by decide)
  have h17 := hsm.keep h17 (by decide)
  have h18 := hsm.keep h18 (by decide)
  have h19 := hsm.keep h19 (by decide)
  have h20 := hsm.keep h20 (by decide)
  have h21 := hsm.keep h21 (by decide)
  have h22 := hsm.keep h22 (by decide)
  have h23 := hsm.keep h23 (by decide)
  have h24 := hsm.keep h24 (by decide)
  have h25 := hsm.keep h25 (by decide)
  have h26 := hsm.keep h26 (by decide)
  have h27 := hsm.keep h27 (by decide)
  have h28 := hsm.keep h28 (by decide)
  have h29 := hsm.keep h29 (by decide)
  have h30 := hsm.keep h30 (by decide)
  have h31 := hsm.keep h31 (by decide)
  have h32 := hsm.keep h32 (by decide)
  have h33 := hsm.keep h33 (by decide)
  have h34 := hsm.keep h34 (by decide)
  have h35 := hsm.keep h35 (by decide)
  have h36 := hsm.keep h36 (by decide)
  have h37 := hsm.keep h37 (by decide)
  have h38 := hsm.keep h38 (by decide)
  have h39 := hsm.keep h39 (by decide)
  have h40 := hsm.keep h40 (by decide)
  have h41 := hsm.keep h41 (by decide)
  have hS := hS.call hsm (by decide)
  refine ww_aload_n K dX5_copyTold_11 rfl ?_
  refine ww_aload_n K dX5_copyTold_12 rfl ?_
  refine ww_get K dX5_copyTold_13 lf_X5_40 h1 rfl ?_
  refine ww_putX K dX5_copyTold_16 lp_X5_40 h72 (Nat.le_of_ble_eq_true rfl) rfl rfl (fun w3 hln_w3 h72 hne_w3 => ?_)
  have h72 : w3[72]? = some (cO 5 [eR (73), eI (0), eI (0), eI ((-1)), eR (74), eR (75), eR (76)]) := h72
  have h73 := (hne_w3 73 (by decide)).trans h73
  have h74 := (hne_w3 74 (by decide)).trans h74
  have h75 := (hne_w3 75 (by decide)).trans h75
  have h76 := (hne_w3 76 (by decide)).trans h76
  have h77 := (hne_w3 77 (by decide)).trans h77
  have h78 := (hne_w3 78 (by decide)).trans h78
  have h79 := (hne_w3 79 (by decide)).trans h79
  have h80 := (hne_w3 80 (by decide)).trans h80
  have h81 := (hne_w3 81 (by decide)).trans h81
  have h82 := (hne_w3 82 (by decide)).trans h82
  have h83 := (hne_w3 83 (by decide)).trans h83
  have h84 := (hne_w3 84 (by decide)).trans h84
  have h85 := (hne_w3 85 (by decide)).trans h85
  have h86 := (hne_w3 86 (by decide)).trans h86
  have h87 := (hne_w3 87 (by decide)).trans h87
  have h88 := (hne_w3 88 (by decide)).trans h88
  have h89 := (hne_w3 89 (by decide)).trans h89
  have h90 := (hne_w3 90 (by decide)).trans h90
  have h91 := (hne_w3 91 (by decide)).trans h91
  have h92 := (hne_w3 92 (by decide)).trans h92
  have h93 := (hne_w3 93 (by decide)).trans h93
  have h94 := (hne_w3 94 (by decide)).trans h94
  have h95 := (hne_w3 95 (by decide)).trans h95
  have h96 := (hne_w3 96 (by decide)).trans h96
  have h97 := (hne_w3 97 (by decide)).trans h97
  have h98 := (hne_w3 98 (by decide)).trans h98
  have h99 := (hne_w3 99 (by decide)).trans h99
  have h100 := (hne_w3 100 (by decide)).trans h100
  have h101 := (hne_w3 101 (by decide)).trans h101
  have h102 := (hne_w3 102 (by decide)).trans h102
  have h103 := (hne_w3 103 (by decide)).trans h103
  have h104 := (hne_w3 104 (by decide)).trans h104
  have h105 := (hne_w3 105 (by decide)).trans h105
  have h106 := (hne_w3 106 (by decide)).trans h106
  have h107 := (hne_w3 107 (by decide)).trans h107
  have h108 := (hne_w3 108 (by decide)).trans h108
  have h109 := (hne_w3 109 (by decide)).trans h109
  have h110 := (hne_w3 110 (by decide)).trans h110
  have h111 := (hne_w3 111 (by decide)).trans h111
  have h112 := (hne_w3 112 (by decide)).trans h112
  have h1 := (hne_w3 1 (by decide)).trans h1
  have h2 := (hne_w3 2 (by decide)).trans h2
  have h3 := (hne_w3 3 (by decide)).trans h3
  have h4 := (hne_w3 4 (by decide)).trans h4
  have h5 := (hne_w3 5 (by decide)).trans h5
  have h6 := (hne_w3 6 (by decide)).trans h6
  have h7 := (hne_w3 7 (by decide)).trans h7
  have h8 := (hne_w3 8 (by decide)).trans h8
  have h9 := (hne_w3 9 (by decide)).trans h9
  have h10 := (hne_w3 10 (by decide)).trans h10
  have h11 := (hne_w3 11 (by decide)).trans h11
  have h12 := (hne_w3 12 (by decide)).trans h12
  have h13 := (hne_w3 13 (by decide)).trans h13
  have h14 := (hne_w3 14 (by decide)).trans h14
  have h15 := (hne_w3 15 (by decide)).trans h15
  have h16 := (hne_w3 16 (by decide)).trans h16
  have h17 := (hne_w3 17 (by decide)).trans h17
  have h18 := (hne_w3 18 (by decide)).trans h18
  have h19 := (hne_w3 19 (by decide)).trans h19
  have h20 := (hne_w3 20 (by decide)).trans h20
  have h21 := (hne_w3 21 (by decide)).trans h21
  have h22 := (hne_w3 22 (by decide)).trans h22
  have h23 := (hne_w3 23 (by decide)).trans h23
  have h24 := (hne_w3 24 (by decide)).trans h24
  have h25 := (hne_w3 25 (by decide)).trans h25
  have h26 := (hne_w3 26 (by decide)).trans h26
  have h27 := (hne_w3 27 (by decide)).trans h27
  have h28 := (hne_w3 28 (by decide)).trans h28
  have h29 := (hne_w3 29 (by decide)).trans h29
  have h30 := (hne_w3 30 (by decide)).trans h30
  have h31 := (hne_w3 31 (by decide)).trans h31
  have h32 := (hne_w3 32 (by decide)).trans h32
  have h33 := (hne_w3 33 (by decide)).trans h33
  have h34 := (hne_w3 34 (by decide)).trans h34
  have h35 := (hne_w3 35 (by decide)).trans h35
  have h36 := (hne_w3 36 (by decide)).trans h36
  have h37 := (hne_w3 37 (by decide)).trans h37
  have h38 := (hne_w3 38 (by decide)).trans h38
  have h39 := (hne_w3 39 (by decide)).trans h39
  have h40 := (hne_w3 40 (by decide)).trans h40
  have h41 := (hne_w3 41 (by decide)).trans h41
  have hS := hS.put (k := 72) (by decide) hne_w3
  refine ww_aload_n K dX5_copyTold_19 rfl ?_
  refine ww_aload_n K dX5_copyTold_20 rfl ?_
  refine ww_get K dX5_copyTold_21 lf_X5_43 h1 rfl ?_
  refine ww_putX K dX5_copyTold_24 lp_X5_43 h72 (Nat.le_of_ble_eq_true rfl) rfl rfl (fun w4 hln_w4 h72 hne_w4 => ?_)
  have h72 : w4[72]? = some (cO 5 [eR (73), eI (0), eI (0), eI ((-1)), eR (74), eR (75), eR (76)]) := h72
  have h73 := (hne_w4 73 (by decide)).trans h73
  have h74 := (hne_w4 74 (by decide)).trans h74
  have h75 := (hne_w4 75 (by decide)).trans h75
  have h76 := (hne_w4 76 (by decide)).trans h76
  have h77 := (hne_w4 77 (by decide)).trans h77
  have h78 := (hne_w4 78 (by decide)).trans h78
  have h79 := (hne_w4 79 (by decide)).trans h79
  have h80 := (hne_w4 80 (by decide)).trans h80
  have h81 := (hne_w4 81 (by decide)).trans h81
  have h82 := (hne_w4 82 (by decide)).trans h82
  have h83 := (hne_w4 83 (by decide)).trans h83
  have h84 := (hne_w4 84 (by decide)).trans h84
  have h85 := (hne_w4 85 (by decide)).trans h85
  have h86 := (hne_w4 86 (by decide)).trans h86
  have h87 := (hne_w4 87 (by decide)).trans h87
  have h88 := (hne_w4 88 (by decide)).trans h88
  have h89 := (hne_w4 89 (by decide)).trans h89
  have h90 := (hne_w4 90 (by decide)).trans h90
  have h91 := (hne_w4 91 (by decide)).trans h91
  have h92 := (hne_w4 92 (by decide)).trans h92
  have h93 := (hne_w4 93 (by decide)).trans h93
  have h94 := (hne_w4 94 (by decide)).trans h94
  have h95 := (hne_w4 95 (by decide)).trans h95
  have h96 := (hne_w4 96 (by decide)).trans h96
  have h97 := (hne_w4 97 (by decide)).trans h97
  have h98 := (hne_w4 98 (by decide)).trans h98
  have h99 := (hne_w4 99 (by decide)).trans h99
  have h100 := (hne_w4 100 (by decide)).trans h100
  have h101 := (hne_w4 101 (by decide)).trans h101
  have h102 := (hne_w4 102 (by decide)).trans h102
  have h103 := (hne_w4 103 (by decide)).trans h103
  have h104 := (hne_w4 104 (by decide)).trans h104
  have h105 := (hne_w4 105 (by decide)).trans h105
  have h106 := (hne_w4 106 (by decide)).trans h106
  have h107 := (hne_w4 107 (by decide)).trans h107
  have h108 := (hne_w4 108 (by decide)).trans h108
  have h109 := (hne_w4 109 (by decide)).trans h109
  have h110 := (hne_w4 110 (by decide)).trans h110
  have h111 := (hne_w4 111 (by decide)).trans h111
  have h112 := (hne_w4 112 (by decide)).trans h112
  have h1 := (hne_w4 1 (by decide)).trans h1
  have h2 := (hne_w4 2 (by decide)).trans h2
  have h3 := (hne_w4 3 (by decide)).trans h3
  have h4 := (hne_w4 4 (by decide)).trans h4
  have h5 := (hne_w4 5 (by decide)).trans h5
  have h6 := (hne_w4 6 (by decide)).trans h6
  have h7 := (hne_w4 7 (by decide)).trans h7
  have h8 := (hne_w4 8 (by decide)).trans h8
  have h9 := (hne_w4 9 (by decide)).trans h9
  have h10 := (hne_w4 10 (by decide)).trans h10
  have h11 := (hne_w4 11 (by decide)).trans h11
  have h12 := (hne_w4 12 (by decide)).trans h12
  have h13 := (hne_w4 13 (by decide)).trans h13
  have h14 := (hne_w4 14 (by decide)).trans h14
  have h15 := (hne_w4 15 (by decide)).trans h15
  have h16 := (hne_w4 16 (by decide)).trans h16
  have h17 := (hne_w4 17 (by decide)).trans h17
  have h18 := (hne_w4 18 (by decide)).trans h18
  have h19 := (hne_w4 19 (by decide)).trans h19
  have h20 := (hne_w4 20 (by decide)).trans h20
  have h21 := (hne_w4 21 (by decide)).trans h21
  have h22 := (hne_w4 22 (by decide)).trans h22
  have h23 := (hne_w4 23 (by decide)).trans h23
  have h24 := (hne_w4 24 (by decide)).trans h24
  have h25 := (hne_w4 25 (by decide)).trans h25
  have h26 := (hne_w4 26 (by decide)).trans h26
  have h27 := (hne_w4 27 (by decide)).trans h27
  have h28 := (hne_w4 28 (by decide)).trans h28
  have h29 := (hne_w4 29 (by decide)).trans h29
  have h30 := (hne_w4 30 (by decide)).trans h30
  have h31 := (hne_w4 31 (by decide)).trans h31
  have h32 := (hne_w4 32 (by decide)).trans h32
  have h33 := (hne_w4 33 (by decide)).trans h33
  have h34 := (hne_w4 34 (by decide)).trans h34
  have h35 := (hne_w4 35 (by decide)).trans h35
  have h36 := (hne_w4 36 (by decide)).trans h36
  have h37 := (hne_w4 37 (by decide)).trans h37
  have h38 := (hne_w4 38 (by decide)).trans h38
  have h39 := (hne_w4 39 (by decide)).trans h39
  have h40 := (hne_w4 40 (by decide)).trans h40
  have h41 := (hne_w4 41 (by decide)).trans h41
  have hS := hS.put (k := 72) (by decide) hne_w4
  refine ww_aload_n K dX5_copyTold_27 rfl ?_
  refine ww_aload_n K dX5_copyTold_28 rfl ?_
  refine ww_get K dX5_copyTold_29 lf_X5_15 h1 rfl ?_
  refine ww_putX K dX5_copyTold_32 lp_X5_15 h72 (Nat.le_of_ble_eq_true rfl) rfl rfl (fun w5 hln_w5 h72 hne_w5 => ?_)
  have h72 : w5[72]? = some (cO 5 [eR (73), eI (0), eI (0), eI ((-1)), eR (74), eR (75), eR (76)]) := h72
  have h73 := (hne_w5 73 (by decide)).trans h73
  have h74 := (hne_w5 74 (by decide)).trans h74
  have h75 := (hne_w5 75 (by decide)).trans h75
  have h76 := (hne_w5 76 (by decide)).trans h76
  have h77 := (hne_w5 77 (by decide)).trans h77
  have h78 := (hne_w5 78 (by decide)).trans h78
  have h79 := (hne_w5 79 (by decide)).trans h79
  have h80 := (hne_w5 80 (by decide)).trans h80
  have h81 := (hne_w5 81 (by decide)).trans h81
  have h82 := (hne_w5 82 (by decide)).trans h82
  have h83 := (hne_w5 83 (by decide)).trans h83
  have h84 := (hne_w5 84 (by decide)).trans h84
  have h85 := (hne_w5 85 (by decide)).trans h85
  have h86 := (hne_w5 86 (by decide)).trans h86
  have h87 := (hne_w5 87 (by decide)).trans h87
  have h88 := (hne_w5 88 (by decide)).trans h88
  have h89 := (hne_w5 89 (by decide)).trans h89
  have h90 := (hne_w5 90 (by decide)).trans h90
  have h91 := (hne_w5 91 (by decide)).trans h91
  have h92 := (hne_w5 92 (by decide)).trans h92
  have h93 := (hne_w5 93 (by decide)).trans h93
  have h94 := (hne_w5 94 (by decide)).trans h94
  have h95 := (hne_w5 95 (by decide)).trans h95
  have h96 := (hne_w5 96 (by decide)).trans h96
  have h97 := (hne_w5 97 (by decide)).trans h97
  have h98 := (hne_w5 98 (by decide)).trans h98
  have h99 := (hne_w5 99 (by decide)).trans h99
  have h100 := (hne_w5 100 (by decide)).trans h100
  have h101 := (hne_w5 101 (by decide)).trans h101
  have h102 := (hne_w5 102 (by decide)).trans h102
  have h103 := (hne_w5 103 (by decide)).trans h103
  have h104 := (hne_w5 104 (by decide)).trans h104
  have h105 := (hne_w5 105 (by decide)).trans h105
  have h106 := (hne_w5 106 (by decide)).trans h106
  have h107 := (hne_w5 107 (by decide)).trans h107
  have h108 := (hne_w5 108 (by decide)).trans h108
  have h109 := (hne_w5 109 (by decide)).trans h109
  have h110 := (hne_w5 110 (by decide)).trans h110
  have h111 := (hne_w5 111 (by decide)).trans h111
  have h112 := (hne_w5 112 (by decide)).trans h112
  have h1 := (hne_w5 1 (by decide)).trans h1
  have h2 := (hne_w5 2 (by decide)).trans h2
  have h3 := (hne_w5 3 (by decide)).trans h3
  have h4 := (hne_w5 4 (by decide)).trans h4
  have h5 := (hne_w5 5 (by decide)).trans h5
  have h6 := (hne_w5 6 (by decide)).trans h6
  have h7 := (hne_w5 7 (by decide)).trans h7
  have h8 := (hne_w5 8 (by decide)).trans h8
  have h9 := (hne_w5 9 (by decide)).trans h9
  have h10 := (hne_w5 10 (by decide)).trans h10
  have h11 := (hne_w5 11 (by decide)).trans h11
  have h12 := (hne_w5 12 (by decide)).trans h12
  have h13 := (hne_w5 13 (by decide)).trans h13
  have h14 := (hne_w5 14 (by decide)).trans h14
  have h15 := (hne_w5 15 (by decide)).trans h15
  have h16 := (hne_w5 16 (by decide)).trans h16
  have h17 := (hne_w5 17 (by decide)).trans h17
  have h18 := (hne_w5 18 (by decide)).trans h18
  have h19 := (hne_w5 19 (by decide)).trans h19
  have h20 := (hne_w5 20 (by decide)).trans h20
  have h21 := (hne_w5 21 (by decide)).trans h21
  have h22 := (hne_w5 22 (by decide)).trans h22
  have h23 := (hne_w5 23 (by decide)).trans h23
  have h24 := (hne_w5 24 (by decide)).trans h24
  have h25 := (hne_w5 25 (by decide)).trans h25
  have h26 := (hne_w5 26 (by decide)).trans h26
  have h27 := (hne_w5 27 (by decide)).trans h27
  have h28 := (hne_w5 28 (by decide)).trans h28
  have h29 := (hne_w5 29 (by decide)).trans h29
  have h30 := (hne_w5 30 (by decide)).trans h30
  have h31 := (hne_w5 31 (by decide)).trans h31
  have h32 := (hne_w5 32 (by decide)).trans h32
  have h33 := (hne_w5 33 (by decide)).trans h33
  have h34 := (hne_w5 34 (by decide)).trans h34
  have h35 := (hne_w5 35 (by decide)).trans h35
  have h36 := (hne_w5 36 (by decide)).trans h36
  have h37 := (hne_w5 37 (by decide)).trans h37
  have h38 := (hne_w5 38 (by decide)).trans h38
  have h39 := (hne_w5 39 (by decide)).trans h39
  have h40 := (hne_w5 40 (by decide)).trans h40
  have h41 := (hne_w5 41 (by decide)).trans h41
  have hS := hS.put (k := 72) (by decide) hne_w5
  refine ww_aload_n K dX5_copyTold_35 rfl ?_
  refine ww_get K dX5_copyTold_36 lf_X5_19 h1 rfl ?_
  refine ww_aload_n K dX5_copyTold_39 rfl ?_
  refine ww_get K dX5_copyTold_40 lf_X5_19 h72 rfl ?_
  refine ww_xSNv K dX5_copyTold_43 lc_X5_36 (ct_copy G l h3 h74 (by decide)) rfl ⟨Nat.le_of_ble_eq_true rfl, Nat.le_of_ble_eq_true rfl⟩ (Nat.le_of_ble_eq_true rfl) (fun w7 hq hln_w7 => ?_)
  obtain ⟨⟨F6, eF6, h74⟩, hsm⟩ := hq
  have h72 := hsm.keep h72 (by decide)
  have h73 := hsm.keep h73 (by decide)
  have h75 := hsm.keep h75 (by decide)
  have h76 := hsm.keep h76 (by decide)
  have h77 := hsm.keep h77 (by decide)
  have h78 := hsm.keep h78 (by decide)
  have h79 := hsm.keep h79 (by decide)
  have h80 := hsm.keep h80 (by decide)
  have h81 := hsm.keep h81 (by decide)
  have h82 := hsm.keep h82 (by decide)
  have h83 := hsm.keep h83 (by decide)
  have h84 := hsm.keep h84 (by decide)
  have h85 := hsm.keep h85 (by decide)
  have h86 := hsm.keep h86 (by decide)
  have h87 := hsm.keep h87 (by decide)
  have h88 := hsm.keep h88 (by decide)
  have h89 := hsm.keep h89 (by decide)
  have h90 := hsm.keep h90 (by decide)
  have h91 := hsm.keep h91 (by decide)
  have h92 := hsm.keep h92 (by decide)
  have h93 := hsm.keep h93 (by decide)
  have h94 := hsm.keep h94 (by decide)
  have h95 := hsm.keep h95 (by decide)
  have h96 := hsm.keep h96 (by decide)
  have h97 := hsm.keep h97 (by decide)
  have h98 := hsm.keep h98 (by decide)
  have h99 := hsm.keep h99 (by decide)
  have h100 := hsm.keep h100 (by decide)
  have h101 := hsm.keep h101 (by decide)
  have h102 := hsm.keep h102 (by decide)
  have h103 := hsm.keep h103 (by decide)
  have h104 := hsm.keep h104 (by decide)
  have h105 := hsm.keep h105 (by decide)
  have h106 := hsm.keep h106 (by decide)
  have h107 := hsm.keep h107 (by decide)
  have h108 := hsm.keep h108 (by decide)
  have h109 := hsm.keep h109 (by decide)
  have h110 := hsm.keep h110 (by decide)
  have h111 := hsm.keep h111 (by decide)
  have h112 := hsm.keep h112 (by decide)
  have h1 := hsm.keep h1 (by decide)
  have h2 := hsm.keep h2 (by decide)
  have h3 := hsm.keep h3 (by decide)
  have h4 := hsm.keep h4 (by decide)
  have h5 := hsm.keep h5 (by decide)
  have h6 := hsm.keep h6 (by decide)
  have h7 := hsm.keep h7 (by decide)
  have h8 := hsm.keep h8 (by decide)
  have h9 := hsm.keep h9 (by decide)
  have h10 := hsm.keep h10 (by decide)
  have h11 := hsm.keep h11 (by decide)
  have h12 := hsm.keep h12 (by decide)
  have h13 := hsm.keep h13 (by decide)
  have h14 := hsm.keep h14 (by decide)
  have h15 := hsm.keep h15 (by decide)
  have h16 := hsm.keep h16 (by decide)
  have h17 := hsm.keep h17 (by decide)
  have h18 := hsm.keep h18 (by decide)
  have h19 := hsm.keep h19 (by decide)
  have h20 := hsm.keep h20 (by decide)
  have h21 := hsm.keep h21 (by decide)
  have h22 := hsm.keep h22 (by decide)
  have h23 := hsm.keep h23 (by decide)
  have h24 := hsm.keep h24 (by decide)
  have h25 := hsm.keep h25 (by decide)
  have h26 := hsm.keep h26 (by decide)
  have h27 := hsm.keep h27 (by decide)
  have h28 := hsm.keep h28 (by decide)
  have h29 := hsm.keep h29 (by decide)
  have h30 := hsm.keep h30 (by decide)
  have h31 := hsm.keep h31 (by decide)
  have h32 := hsm.keep h32 (by decide)
  have h33 := hsm.keep h33 (by decide)
  have h34 := hsm.keep h34 (by decide)
  have h35 := hsm.keep h35 (by decide)
  have h36 := hsm.keep h36 (by decide)
  have h37 := hsm.keep h37 (by decide)
  have h38 := hsm.keep h38 (by decide)
  have h39 := hsm.keep h39 (by decide)
  have h40 := hsm.keep h40 (by decide)
  have h41 := hsm.keep h41 (by decide)
  have hS := hS.call hsm (by decide)
  refine ww_iconst (v := 0) K dX5_copyTold_46 rfl ?_
  refine ww_istore_n (ls2 := [some (eR (72)), some (eR (1)), some (eI (0))]) K dX5_copyTold_47 (by decide) rfl ?_
  refine ww_iload_n K dX5_copyTold_48 rfl ?_
  refine ww_aload_n K dX5_copyTold_49 rfl ?_
  refine ww_get K dX5_copyTold_50 lf_X5_24 h72 rfl ?_
  refine ww_alenq K dX5_copyTold_53 h75 (by decide) ?_
  rw [show Int32.ofNat 2 = 2 from rfl]
  refine ww_icmp_ge (tgt := 105) K dX5_copyTold_54 rfl (fun cc_ => absurd cc_ (by decide)) (fun _ => ?_)
  refine ww_iload_n K dX5_copyTold_57 rfl ?_
  refine ww_aload_n K dX5_copyTold_58 rfl ?_
  refine ww_get K dX5_copyTold_59 lf_X5_24 h1 rfl ?_
  refine ww_alenq K dX5_copyTold_62 h4 (by decide) ?_
  rw [show Int32.ofNat 2 = 2 from rfl]
  refine ww_icmp_ge (tgt := 105) K dX5_copyTold_63 rfl (fun cc_ => absurd cc_ (by decide)) (fun _ => ?_)
  refine ww_aload_n K dX5_copyTold_66 rfl ?_
  refine ww_get K dX5_copyTold_67 lf_X5_24 h72 rfl ?_
  refine ww_iload_n K dX5_copyTold_70 rfl ?_
  refine ww_aald2 K dX5_copyTold_71 h75 (wc_vin (by decide)) ?_
  refine ww_ifnull K dX5_copyTold_72 ?_
  refine ww_aload_n K dX5_copyTold_75 rfl ?_
  refine ww_get K dX5_copyTold_76 lf_X5_24 h1 rfl ?_
  refine ww_iload_n K dX5_copyTold_79 rfl ?_
  refine ww_aald2 K dX5_copyTold_80 h4 (wc_vin (by decide)) ?_
  refine ww_ifnull K dX5_copyTold_81 ?_
  refine ww_aload_n K dX5_copyTold_84 rfl ?_
  refine ww_get K dX5_copyTold_85 lf_X5_24 h72 rfl ?_
  refine ww_iload_n K dX5_copyTold_88 rfl ?_
  refine ww_aald2 K dX5_copyTold_89 h75 (wc_vin (by decide)) ?_
  refine ww_aload_n K dX5_copyTold_90 rfl ?_
  refine ww_get K dX5_copyTold_91 lf_X5_24 h1 rfl ?_
  refine ww_iload_n K dX5_copyTold_94 rfl ?_
  refine ww_aald2 K dX5_copyTold_95 h4 (wc_vin (by decide)) ?_
  refine ww_xVv K dX5_copyTold_96 lc_X5_46 h77 ⟨_, rfl, rfl⟩ (ct_X2_copyRepublic_77_6 G l h77 h78 h79 h80 h81 h82 h83 h84 h6 h7 h8 h9 h10 h11 h12 h13) rfl ⟨Nat.le_of_ble_eq_true rfl, Nat.le_of_ble_eq_true rfl⟩ (Nat.le_of_ble_eq_true rfl) (fun w8 hq hln_w8 => ?_)
  have hsm := hq
  have h72 := hsm.keep h72 (by decide)
  have h73 := hsm.keep h73 (by decide)
  have h74 := hsm.keep h74 (by decide)
  have h75 := hsm.keep h75 (by decide)
  have h76 := hsm.keep h76 (by decide)
  have h85 := hsm.keep h85 (by decide)
  have h86 := hsm.keep h86 (by decide)
  have h87 := hsm.keep h87 (by decide)
  have h88 := hsm.keep h88 (by decide)
  have h89 := hsm.keep h89 (by decide)
  have h90 := hsm.keep h90 (by decide)
  have h91 := hsm.keep h91 (by decide)
  have h92 := hsm.keep h92 (by decide)
  have h93 := hsm.keep h93 (by decide)
  have h94 := hsm.keep h94 (by decide)
  have h95 := hsm.keep h95 (by decide)
  have h96 := hsm.keep h96 (by decide)
  have h97 := hsm.keep h97 (by decide)
  have h98 := hsm.keep h98 (by decide)
  have h99 := hsm.keep h99 (by decide)
  have h100 := hsm.keep h100 (by decide)
  have h101 := hsm.keep h101 (by decide)
  have h102 := hsm.keep h102 (by decide)
  have h103 := hsm.keep h103 (by decide)
  have h104 := hsm.keep h104 (by decide)
  have h105 := hsm.keep h105 (by decide)
  have h106 := hsm.keep h106 (by decide)
  have h107 := hsm.keep h107 (by decide)
  have h108 := hsm.keep h108 (by decide)
  have h109 := hsm.keep h109 (by decide)
  have h110 := hsm.keep h110 (by decide)
  have h111 := hsm.keep h111 (by decide)
  have h112 := hsm.keep h112 (by decide)
  have h1 := hsm.keep h1 (by decide)
  have h2 := hsm.keep h2 (by decide)
  have h3 := hsm.keep h3 (by decide)
  have h4 := hsm.keep h4 (by decide)
  have h5 := hsm.keep h5 (by decide)
  have h6 := hsm.keep h6 (by decide)
  have h7 := hsm.keep h7 (by decide)
  have h8 := hsm.keep h8 (by decide)
  have h9 := hsm.keep h9 (by decide)
  have h10 := hsm.keep h10 (by decide)
  have h11 := hsm.keep h11 (by decide)
  have h12 := hsm.keep h12 (by decide)
  have h13 := hsm.keep h13 (by decide)
  have h14 := hsm.keep h14 (by decide)
  have h15 := hsm.keep h15 (by decide)
  have h16 := hsm.keep h16 (by decide)
  have h17 := hsm.keep h17 (by decide)
  have h18 := hsm.keep h18 (by decide)
  have h19 := hsm.keep h19 (by decide)
  have h20 := hsm.keep h20 (by decide)
  have h21 := hsm.keep h21 (by decide)
  have h22 := hsm.keep h22 (by decide)
  have h23 := hsm.keep h23 (by decide)
  have h24 := hsm.keep h24 (by decide)
  have h25 := hsm.keep h25 (by decide)
  have h26 := hsm.keep h26 (by decide)
  have h27 := hsm.keep h27 (by decide)
  have h28 := hsm.keep h28 (by decide)
  have h29 := hsm.keep h29 (by decide)
  have h30 := hsm.keep h30 (by decide)
  have h31 := hsm.keep h31 (by decide)
  have h32 := hsm.keep h32 (by decide)
  have h33 := hsm.keep h33 (by decide)
  have h34 := hsm.keep h34 (by decide)
  have h35 := hsm.keep h35 (by decide)
  have h36 := hsm.keep h36 (by decide)
  have h37 := hsm.keep h37 (by decide)
  have h38 := hsm.keep h38 (by decide)
  have h39 := hsm.keep h39 (by decide)
  have h40 := hsm.keep h40 (by decide)
  have h41 := hsm.keep h41 (by decide)
  have hS := hS.call hsm (by decide)
  refine ww_iinc (ls2 := [some (eR (72)), some (eR (1)), some (eI (1))]) K dX5_copyTold_99 (by decide) rfl rfl ?_
  refine ww_goto (tgt := 48) K dX5_copyTold_102 rfl ?_
  refine ww_iload_n K dX5_copyTold_48 rfl ?_
  refine ww_aload_n K dX5_copyTold_49 rfl ?_
  refine ww_get K dX5_copyTold_50 lf_X5_24 h72 rfl ?_
  refine ww_alenq K dX5_copyTold_53 h75 (by decide) ?_
  rw [show Int32.ofNat 2 = 2 from rfl]
  refine ww_icmp_ge (tgt := 105) K dX5_copyTold_54 rfl (fun cc_ => absurd cc_ (by decide)) (fun _ => ?_)
  refine ww_iload_n K dX5_copyTold_57 rfl ?_
  refine ww_aload_n K dX5_copyTold_58 rfl ?_
  refine ww_get K dX5_copyTold_59 lf_X5_24 h1 rfl ?_
  refine ww_alenq K dX5_copyTold_62 h4 (by decide) ?_
  rw [show Int32.ofNat 2 = 2 from rfl]
  refine ww_icmp_ge (tgt := 105) K dX5_copyTold_63 rfl (fun cc_ => absurd cc_ (by decide)) (fun _ => ?_)
  refine ww_aload_n K dX5_copyTold_66 rfl ?_
  refine ww_get K dX5_copyTold_67 lf_X5_24 h72 rfl ?_
  refine ww_iload_n K dX5_copyTold_70 rfl ?_
  refine ww_aald2 K dX5_copyTold_71 h75 (wc_vin (by decide)) ?_
  refine ww_ifnull K dX5_copyTold_72 ?_
  refine ww_aload_n K dX5_copyTold_75 rfl ?_
  refine ww_get K dX5_copyTold_76 lf_X5_24 h1 rfl ?_
  refine ww_iload_n K dX5_copyTold_79 rfl ?_
  refine ww_aald2 K dX5_copyTold_80 h4 (wc_vin (by decide)) ?_
  refine ww_ifnull K dX5_copyTold_81 ?_
  refine ww_aload_n K dX5_copyTold_84 rfl ?_
  refine ww_get K dX5_copyTold_85 lf_X5_24 h72 rfl ?_
  refine ww_iload_n K dX5_copyTold_88 rfl ?_
  refine ww_aald2 K dX5_copyTold_89 h75 (wc_vin (by decide)) ?_
  refine ww_aload_n K dX5_copyTold_90 rfl ?_
  refine ww_get K dX5_copyTold_91 lf_X5_24 h1 rfl ?_
  refine ww_iload_n K dX5_copyTold_94 rfl ?_
  refine ww_aald2 K dX5_copyTold_95 h4 (wc_vin (by decide)) ?_
  refine ww_xVv K dX5_copyTold_96 lc_X5_46 h85 ⟨_, rfl, rfl⟩ (ct_X2_copyRepublic_85_14 G l h85 h86 h87 h88 h89 h90 h91 h92 h14 h15 h16 h17 h18 h19 h20 h21) rfl ⟨Nat.le_of_ble_eq_true rfl, Nat.le_of_ble_eq_true rfl⟩ (Nat.le_of_ble_eq_true rfl) (fun w9 hq hln_w9 => ?_)
  have hsm := hq
  have h72 := hsm.keep h72 (by decide)
  have h73 := hsm.keep h73 (by decide)
  have h74 := hsm.keep h74 (by decide)
  have h75 := hsm.keep h75 (by decide)
  have h76 := hsm.keep h76 (by decide)
  have h93 := hsm.keep h93 (by decide)
  have h94 := hsm.keep h94 (by decide)
  have h95 := hsm.keep h95 (by decide)
  have h96 := hsm.keep h96 (by decide)
  have h97 := hsm.keep h97 (by decide)
  have h98 := hsm.keep h98 (by decide)
  have h99 := hsm.keep h99 (by decide)
  have h100 := hsm.keep h100 (by decide)
  have h101 := hsm.keep h101 (by decide)
  have h102 := hsm.keep h102 (by decide)
  have h103 := hsm.keep h103 (by decide)
  have h104 := hsm.keep h104 (by decide)
  have h105 := hsm.keep h105 (by decide)
  have h106 := hsm.keep h106 (by decide)
  have h107 := hsm.keep h107 (by decide)
  have h108 := hsm.keep h108 (by decide)
  have h109 := hsm.keep h109 (by decide)
  have h110 := hsm.keep h110 (by decide)
  have h111 := hsm.keep h111 (by decide)
  have h112 := hsm.keep h112 (by decide)
  have h1 := hsm.keep h1 (by decide)
  have h2 := hsm.keep h2 (by decide)
  have h3 := hsm.keep h3 (by decide)
  have h4 := hsm.keep h4 (by decide)
  have h5 := hsm.keep h5 (by decide)
  have h6 := hsm.keep h6 (by decide)
  have h7 := hsm.keep h7 (by decide)
  have h8 := hsm.keep h8 (by decide)
  have h9 := hsm.keep h9 (by decide)
  have h10 := hsm.keep h10 (by decide)
  have h11 := hsm.keep h11 (by decide)
  have h12 := hsm.keep h12 (by decide)
  have h13 := hsm.keep h13 (by decide)
  have h14 := hsm.keep h14 (by decide)
  have h15 := hsm.keep h15 (by decide)
  have h16 := hsm.keep h16 (by decide)
  have h17 := hsm.keep h17 (by decide)
  have h18 := hsm.keep h18 (by decide)
  have h19 := hsm.keep h19 (by decide)
  have h20 := hsm.keep h20 (by decide)
  have h21 := hsm.keep h21 (by decide)
  have h22 := hsm.keep h22 (by decide)
  have h23 := hsm.keep h23 (by decide)
  have h24 := hsm.keep h24 (by decide)
  have h25 := hsm.keep h25 (by decide)
  have h26 := hsm.keep h26 (by decide)
  have h27 := hsm.keep h27 (by decide)
  have h28 := hsm.keep h28 (by decide)
  have h29 := hsm.keep h29 (by decide)
  have h30 := hsm.keep h30 (by decide)
  have h31 := hsm.keep h31 (by decide)
  have h32 := hsm.keep h32 (by decide)
  have h33 := hsm.keep h33 (by decide)
  have h34 := hsm.keep h34 (by decide)
  have h35 := hsm.keep h35 (by decide)
  have h36 := hsm.keep h36 (by decide)
  have h37 := hsm.keep h37 (by decide)
  have h38 := hsm.keep h38 (by decide)
  have h39 := hsm.keep h39 (by decide)
  have h40 := hsm.keep h40 (by decide)
  have h41 := hsm.keep h41 (by decide)
  have hS := hS.call hsm (by decide)
  refine ww_iinc (ls2 := [some (eR (72)), some (eR (1)), some (eI (2))]) K dX5_copyTold_99 (by decide) rfl rfl ?_
  refine ww_goto (tgt := 48) K dX5_copyTold_102 rfl ?_
  refine ww_iload_n K dX5_copyTold_48 rfl ?_
  refine ww_aload_n K dX5_copyTold_49 rfl ?_
  refine ww_get K dX5_copyTold_50 lf_X5_24 h72 rfl ?_
  refine ww_alenq K dX5_copyTold_53 h75 (by decide) ?_
  rw [show Int32.ofNat 2 = 2 from rfl]
  refine ww_icmp_ge (tgt := 105) K dX5_copyTold_54 rfl (fun _ => ?_) (fun cc_ => absurd cc_ (by decide))
  refine ww_iconst (v := 0) K dX5_copyTold_105 rfl ?_
  refine ww_istore_n (ls2 := [some (eR (72)), some (eR (1)), some (eI (0))]) K dX5_copyTold_106 (by decide) rfl ?_
  refine ww_iload_n K dX5_copyTold_107 rfl ?_
  refine ww_aload_n K dX5_copyTold_108 rfl ?_
  refine ww_get K dX5_copyTold_109 lf_X5_30 h72 rfl ?_
  refine ww_alenq K dX5_copyTold_112 h76 (by decide) ?_
  rw [show Int32.ofNat 10 = 10 from rfl]
  refine ww_icmp_ge (tgt := 164) K dX5_copyTold_113 rfl (fun cc_ => absurd cc_ (by decide)) (fun _ => ?_)
  refine ww_iload_n K dX5_copyTold_116 rfl ?_
  refine ww_aload_n K dX5_copyTold_117 rfl ?_
  refine ww_get K dX5_copyTold_118 lf_X5_30 h1 rfl ?_
  refine ww_alenq K dX5_copyTold_121 h5 (by decide) ?_
  rw [show Int32.ofNat 10 = 10 from rfl]
  refine ww_icmp_ge (tgt := 164) K dX5_copyTold_122 rfl (fun cc_ => absurd cc_ (by decide)) (fun _ => ?_)
  refine ww_aload_n K dX5_copyTold_125 rfl ?_
  refine ww_get K dX5_copyTold_126 lf_X5_30 h72 rfl ?_
  refine ww_iload_n K dX5_copyTold_129 rfl ?_
  refine ww_aald3 K dX5_copyTold_130 h76 (wc_vin (by decide)) ?_
  refine ww_ifnull K dX5_copyTold_131 ?_
  refine ww_aload_n K dX5_copyTold_134 rfl ?_
  refine ww_get K dX5_copyTold_135 lf_X5_30 h1 rfl ?_
  refine ww_iload_n K dX5_copyTold_138 rfl ?_
  refine ww_aald3 K dX5_copyTold_139 h5 (wc_vin (by decide)) ?_
  refine ww_ifnull K dX5_copyTold_140 ?_
  refine ww_aload_n K dX5_copyTold_143 rfl ?_
  refine ww_get K dX5_copyTold_144 lf_X5_30 h72 rfl ?_
  refine ww_iload_n K dX5_copyTold_147 rfl ?_
  refine ww_aald3 K dX5_copyTold_148 h76 (wc_vin (by decide)) ?_
  refine ww_aload_n K dX5_copyTold_149 rfl ?_
  refine ww_get K dX5_copyTold_150 lf_X5_30 h1 rfl ?_
  refine ww_iload_n K dX5_copyTold_153 rfl ?_
  refine ww_aald3 K dX5_copyTold_154 h5 (wc_vin (by decide)) ?_
  refine ww_xVv K dX5_copyTold_155 lc_X5_50 h93 ⟨_, rfl, rfl⟩ (ct_X3_copyRows_93_22 G l h93 h94 h22 h23) rfl ⟨Nat.le_of_ble_eq_true rfl, Nat.le_of_ble_eq_true rfl⟩ (Nat.le_of_ble_eq_true rfl) (fun w10 hq hln_w10 => ?_)
  have hsm := hq
  have h72 := hsm.keep h72 (by decide)
  have h73 := hsm.keep h73 (by decide)
  have h74 := hsm.keep h74 (by decide)
  have h75 := hsm.keep h75 (by decide)
  have h76 := hsm.keep h76 (by decide)
  have h95 := hsm.keep h95 (by decide)
  have h96 := hsm.keep h96 (by decide)
  have h97 := hsm.keep h97 (by decide)
  have h98 := hsm.keep h98 (by decide)
  have h99 := hsm.keep h99 (by decide)
  have h100 := hsm.keep h100 (by decide)
  have h101 := hsm.keep h101 (by decide)
  have h102 := hsm.keep h102 (by decide)
  have h103 := hsm.keep h103 (by decide)
  have h104 := hsm.keep h104 (by decide)
  have h105 := hsm.keep h105 (by decide)
  have h106 := hsm.keep h106 (by decide)
  have h107 := hsm.keep h107 (by decide)
  have h108 := hsm.keep h108 (by decide)
  have h109 := hsm.keep h109 (by decide)
  have h110 := hsm.keep h110 (by decide)
  have h111 := hsm.keep h111 (by decide)
  have h112 := hsm.keep h112 (by decide)
  have h1 := hsm.keep h1 (by decide)
  have h2 := hsm.keep h2 (by decide)
  have h3 := hsm.keep h3 (by decide)
  have h4 := hsm.keep h4 (by decide)
  have h5 := hsm.keep h5 (by decide)
  have h6 := hsm.keep h6 (by decide)
  have h7 := hsm.keep h7 (by decide)
  have h8 := hsm.keep h8 (by decide)
  have h9 := hsm.keep h9 (by decide)
  have h10 := hsm.keep h10 (by decide)
  have h11 := hsm.keep h11 (by decide)
  have h12 := hsm.keep h12 (by decide)
  have h13 := hsm.keep h13 (by decide)
  have h14 := hsm.keep h14 (by decide)
  have h15 := hsm.keep h15 (by decide)
  have h16 := hsm.keep h16 (by decide)
  have h17 := hsm.keep h17 (by decide)
  have h18 := hsm.keep h18 (by decide)
  have h19 := hsm.keep h19 (by decide)
  have h20 := hsm.keep h20 (by decide)
  have h21 := hsm.keep h21 (by decide)
  have h22 := hsm.keep h22 (by decide)
  have h23 := hsm.keep h23 (by decide)
  have h24 := hsm.keep h24 (by decide)
  have h25 := hsm.keep h25 (by decide)
  have h26 := hsm.keep h26 (by decide)
  have h27 := hsm.keep h27 (by decide)
  have h28 := hsm.keep h28 (by decide)
  have h29 := hsm.keep h29 (by decide)
  have h30 := hsm.keep h30 (by decide)
  have h31 := hsm.keep h31 (by decide)
  have h32 := hsm.keep h32 (by decide)
  have h33 := hsm.keep h33 (by decide)
  have h34 := hsm.keep h34 (by decide)
  have h35 := hsm.keep h35 (by decide)
  have h36 := hsm.keep h36 (by decide)
  have h37 := hsm.keep h37 (by decide)
  have h38 := hsm.keep h38 (by decide)
  have h39 := hsm.keep h39 (by decide)
  have h40 := hsm.keep h40 (by decide)
  have h41 := hsm.keep h41 (by decide)
  have hS := hS.call hsm (by decide)
  refine ww_iinc (ls2 := [some (eR (72)), some (eR (1)), some (eI (1))]) K dX5_copyTold_158 (by decide) rfl rfl ?_
  refine ww_goto (tgt := 107) K dX5_copyTold_161 rfl ?_
  refine ww_iload_n K dX5_copyTold_107 rfl ?_
  refine ww_aload_n K dX5_copyTold_108 rfl ?_
  refine ww_get K dX5_copyTold_109 lf_X5_30 h72 rfl ?_
  refine ww_alenq K dX5_copyTold_112 h76 (by decide) ?_
  rw [show Int32.ofNat 10 = 10 from rfl]
  refine ww_icmp_ge (tgt := 164) K dX5_copyTold_113 rfl (fun cc_ => absurd cc_ (by decide)) (fun _ => ?_)
  refine ww_iload_n K dX5_copyTold_116 rfl ?_
  refine ww_aload_n K dX5_copyTold_117 rfl ?_
  refine ww_get K dX5_copyTold_118 lf_X5_30 h1 rfl ?_
  refine ww_alenq K dX5_copyTold_121 h5 (by decide) ?_
  rw [show Int32.ofNat 10 = 10 from rfl]
  refine ww_icmp_ge (tgt := 164) K dX5_copyTold_122 rfl (fun cc_ => absurd cc_ (by decide)) (fun _ => ?_)
  refine ww_aload_n K dX5_copyTold_125 rfl ?_
  refine ww_get K dX5_copyTold_126 lf_X5_30 h72 rfl ?_
  refine ww_iload_n K dX5_copyTold_129 rfl ?_
  refine ww_aald3 K dX5_copyTold_130 h76 (wc_vin (by decide)) ?_
  refine ww_ifnull K dX5_copyTold_131 ?_
  refine ww_aload_n K dX5_copyTold_134 rfl ?_
  refine ww_get K dX5_copyTold_135 lf_X5_30 h1 rfl ?_
  refine ww_iload_n K dX5_copyTold_138 rfl ?_
  refine ww_aald3 K dX5_copyTold_139 h5 (wc_vin (by decide)) ?_
  refine ww_ifnull K dX5_copyTold_140 ?_
  refine ww_aload_n K dX5_copyTold_143 rfl ?_
  refine ww_get K dX5_copyTold_144 lf_X5_30 h72 rfl ?_
  refine ww_iload_n K dX5_copyTold_147 rfl ?_
  refine ww_aald3 K dX5_copyTold_148 h76 (wc_vin (by decide)) ?_
  refine ww_aload_n K dX5_copyTold_149 rfl ?_
  refine ww_get K dX5_copyTold_150 lf_X5_30 h1 rfl ?_
  refine ww_iload_n K dX5_copyTold_153 rfl ?_
  refine ww_aald3 K dX5_copyTold_154 h5 (wc_vin (by decide)) ?_
  refine ww_xVv K dX5_copyTold_155 lc_X5_50 h95 ⟨_, rfl, rfl⟩ (ct_X3_copyRows_95_24 G l h95 h96 h24 h25) rfl ⟨Nat.le_of_ble_eq_true rfl, Nat.le_of_ble_eq_true rfl⟩ (Nat.le_of_ble_eq_true rfl) (fun w11 hq hln_w11 => ?_)
  have hsm := hq
  have h72 := hsm.keep h72 (by decide)
  have h73 := hsm.keep h73 (by decide)
  have h74 := hsm.keep h74 (by decide)
  have h75 := hsm.keep h75 (by decide)
  have h76 := hsm.keep h76 (by decide)
  have h97 := hsm.keep h97 (by decide)
  have h98 := hsm.keep h98 (by decide)
  have h99 := hsm.keep h99 (by decide)
  have h100 := hsm.keep h100 (by decide)
  have h101 := hsm.keep h101 (by decide)
  have h102 := hsm.keep h102 (by decide)
  have h103 := hsm.keep h103 (by decide)
  have h104 := hsm.keep h104 (by decide)
  have h105 := hsm.keep h105 (by decide)
  have h106 := hsm.keep h106 (by decide)
  have h107 := hsm.keep h107 (by decide)
  have h108 := hsm.keep h108 (by decide)
  have h109 := hsm.keep h109 (by decide)
  have h110 := hsm.keep h110 (by decide)
  have h111 := hsm.keep h111 (by decide)
  have h112 := hsm.keep h112 (by decide)
  have h1 := hsm.keep h1 (by decide)
  have h2 := hsm.keep h2 (by decide)
  have h3 := hsm.keep h3 (by decide)
  have h4 := hsm.keep h4 (by decide)
  have h5 := hsm.keep h5 (by decide)
  have h6 := hsm.keep h6 (by decide)
  have h7 := hsm.keep h7 (by decide)
  have h8 := hsm.keep h8 (by decide)
  have h9 := hsm.keep h9 (by decide)
  have h10 := hsm.keep h10 (by decide)
  have h11 := hsm.keep h11 (by decide)
  have h12 := hsm.keep h12 (by decide)
  have h13 := hsm.keep h13 (by decide)
  have h14 := hsm.keep h14 (by decide)
  have h15 := hsm.keep h15 (by decide)
  have h16 := hsm.keep h16 (by decide)
  have h17 := hsm.keep h17 (by decide)
  have h18 := hsm.keep h18 (by decide)
  have h19 := hsm.keep h19 (by decide)
  have h20 := hsm.keep h20 (by decide)
  have h21 := hsm.keep h21 (by decide)
  have h22 := hsm.keep h22 (by decide)
  have h23 := hsm.keep h23 (by decide)
  have h24 := hsm.keep h24 (by decide)
  have h25 := hsm.keep h25 (by decide)
  have h26 := hsm.keep h26 (by decide)
  have h27 := hsm.keep h27 (by decide)
  have h28 := hsm.keep h28 (by decide)
  have h29 := hsm.keep h29 (by decide)
  have h30 := hsm.keep h30 (by decide)
  have h31 := hsm.keep h31 (by decide)
  have h32 := hsm.keep h32 (by decide)
  have h33 := hsm.keep h33 (by decide)
  have h34 := hsm.keep h34 (by decide)
  have h35 := hsm.keep h35 (by decide)
  have h36 := hsm.keep h36 (by decide)
  have h37 := hsm.keep h37 (by decide)
  have h38 := hsm.keep h38 (by decide)
  have h39 := hsm.keep h39 (by decide)
  have h40 := hsm.keep h40 (by decide)
  have h41 := hsm.keep h41 (by decide)
  have hS := hS.call hsm (by decide)
  refine ww_iinc (ls2 := [some (eR (72)), some (eR (1)), some (eI (2))]) K dX5_copyTold_158 (by decide) rfl rfl ?_
  refine ww_goto (tgt := 107) K dX5_copyTold_161 rfl ?_
  refine ww_iload_n K dX5_copyTold_107 rfl ?_
  refine ww_aload_n K dX5_copyTold_108 rfl ?_
  refine ww_get K dX5_copyTold_109 lf_X5_30 h72 rfl ?_
  refine ww_alenq K dX5_copyTold_112 h76 (by decide) ?_
  rw [show Int32.ofNat 10 = 10 from rfl]
  refine ww_icmp_ge (tgt := 164) K dX5_copyTold_113 rfl (fun cc_ => absurd cc_ (by decide)) (fun _ => ?_)
  refine ww_iload_n K dX5_copyTold_116 rfl ?_
  refine ww_aload_n K dX5_copyTold_117 rfl ?_
  refine ww_get K dX5_copyTold_118 lf_X5_30 h1 rfl ?_
  refine ww_alenq K dX5_copyTold_121 h5 (by decide) ?_
  rw [show Int32.ofNat 10 = 10 from rfl]
  refine ww_icmp_ge (tgt := 164) K dX5_copyTold_122 rfl (fun cc_ => absurd cc_ (by decide)) (fun _ => ?_)
  refine ww_aload_n K dX5_copyTold_125 rfl ?_
  refine ww_get K dX5_copyTold_126 lf_X5_30 h72 rfl ?_
  refine ww_iload_n K dX5_copyTold_129 rfl ?_
  refine ww_aald3 K dX5_copyTold_130 h76 (wc_vin (by decide)) ?_
  refine ww_ifnull K dX5_copyTold_131 ?_
  refine ww_aload_n K dX5_copyTold_134 rfl ?_
  refine ww_get K dX5_copyTold_135 lf_X5_30 h1 rfl ?_
  refine ww_iload_n K dX5_copyTold_138 rfl ?_
  refine ww_aald3 K dX5_copyTold_139 h5 (wc_vin (by decide)) ?_
  refine ww_ifnull K dX5_copyTold_140 ?_
  refine ww_aload_n K dX5_copyTold_143 rfl ?_
  refine ww_get K dX5_copyTold_144 lf_X5_30 h72 rfl ?_
  refine ww_iload_n K dX5_copyTold_147 rfl ?_
  refine ww_aald3 K dX5_copyTold_148 h76 (wc_vin (by decide)) ?_
  refine ww_aload_n K dX5_copyTold_149 rfl ?_
  refine ww_get K dX5_copyTold_150 lf_X5_30 h1 rfl ?_
  refine ww_iload_n K dX5_copyTold_153 rfl ?_
  refine ww_aald3 K dX5_copyTold_154 h5 (wc_vin (by decide)) ?_
  refine ww_xVv K dX5_copyTold_155 lc_X5_50 h97 ⟨_, rfl, rfl⟩ (ct_X3_copyRows_97_26 G l h97 h98 h26 h27) rfl ⟨Nat.le_of_ble_eq_true rfl, Nat.le_of_ble_eq_true rfl⟩ (Nat.le_of_ble_eq_true rfl) (fun w12 hq hln_w12 => ?_)
  have hsm := hq
  have h72 := hsm.keep h72 (by decide)
  have h73 := hsm.keep h73 (by decide)
  have h74 := hsm.keep h74 (by decide)
  have h75 := hsm.keep h75 (by decide)
  have h76 := hsm.keep h76 (by decide)
  have h99 := hsm.keep h99 (by decide)
  have h100 := hsm.keep h100 (by decide)
  have h101 := hsm.keep h101 (by decide)
  have h102 := hsm.keep h102 (by decide)
  have h103 := hsm.keep h103 (by decide)
  have h104 := hsm.keep h104 (by decide)
  have h105 := hsm.keep h105 (by decide)
  have h106 := hsm.keep h106 (by decide)
  have h107 := hsm.keep h107 (by decide)
  have h108 := hsm.keep h108 (by decide)
  have h109 := hsm.keep h109 (by decide)
  have h110 := hsm.keep h110 (by decide)
  have h111 := hsm.keep h111 (by decide)
  have h112 := hsm.keep h112 (by decide)
  have h1 := hsm.keep h1 (by decide)
  have h2 := hsm.keep h2 (by decide)
  have h3 := hsm.keep h3 (by decide)
  have h4 := hsm.keep h4 (by decide)
  have h5 := hsm.keep h5 (by decide)
  have h6 := hsm.keep h6 (by decide)
  have h7 := hsm.keep h7 (by decide)
  have h8 := hsm.keep h8 (by decide)
  have h9 := hsm.keep h9 (by decide)
  have h10 := hsm.keep h10 (by decide)
  have h11 := hsm.keep h11 (by decide)
  have h12 := hsm.keep h12 (by decide)
  have h13 := hsm.keep h13 (by decide)
  have h14 := hsm.keep h14 (by decide)
  have h15 := hsm.keep h15 (by decide)
  have h16 := hsm.keep h16 (by decide)
  have h17 := hsm.keep h17 (by decide)
  have h18 := hsm.keep h18 (by decide)
  have h19 := hsm.keep h19 (by decide)
  have h20 := hsm.keep h20 (by decide)
  have h21 := hsm.keep h21 (by decide)
  have h22 := hsm.keep h22 (by decide)
  have h23 := hsm.keep h23 (by decide)
  have h24 := hsm.keep h24 (by decide)
  have h25 := hsm.keep h25 (by decide)
  have h26 := hsm.keep h26 (by decide)
  have h27 := hsm.keep h27 (by decide)
  have h28 := hsm.keep h28 (by decide)
  have h29 := hsm.keep h29 (by decide)
  have h30 := hsm.keep h30 (by decide)
  have h31 := hsm.keep h31 (by decide)
  have h32 := hsm.keep h32 (by decide)
  have h33 := hsm.keep h33 (by decide)
  have h34 := hsm.keep h34 (by decide)
  have h35 := hsm.keep h35 (by decide)
  have h36 := hsm.keep h36 (by decide)
  have h37 := hsm.keep h37 (by decide)
  have h38 := hsm.keep h38 (by decide)
  have h39 := hsm.keep h39 (by decide)
  have h40 := hsm.keep h40 (by decide)
  have h41 := hsm.keep h41 (by decide)
  have hS := hS.call hsm (by decide)
  refine ww_iinc (ls2 := [some (eR (72)), some (eR (1)), some (eI (3))]) K dX5_copyTold_158 (by decide) rfl rfl ?_
  refine ww_goto (tgt := 107) K dX5_copyTold_161 rfl ?_
  refine ww_iload_n K dX5_copyTold_107 rfl ?_
  refine ww_aload_n K dX5_copyTold_108 rfl ?_
  refine ww_get K dX5_copyTold_109 lf_X5_30 h72 rfl ?_
  refine ww_alenq K dX5_copyTold_112 h76 (by decide) ?_
  rw [show Int32.ofNat 10 = 10 from rfl]
  refine ww_icmp_ge (tgt := 164) K dX5_copyTold_113 rfl (fun cc_ => absurd cc_ (by decide)) (fun _ => ?_)
  refine ww_iload_n K dX5_copyTold_116 rfl ?_
  refine ww_aload_n K dX5_copyTold_117 rfl ?_
  refine ww_get K dX5_copyTold_118 lf_X5_30 h1 rfl ?_
  refine ww_alenq K dX5_copyTold_121 h5 (by decide) ?_
  rw [show Int32.ofNat 10 = 10 from rfl]
  refine ww_icmp_ge (tgt := 164) K dX5_copyTold_122 rfl (fun cc_ => absurd cc_ (by decide)) (fun _ => ?_)
  refine ww_aload_n K dX5_copyTold_125 rfl ?_
  refine ww_get K dX5_copyTold_126 lf_X5_30 h72 rfl ?_
  refine ww_iload_n K dX5_copyTold_129 rfl ?_
  refine ww_aald3 K dX5_copyTold_130 h76 (wc_vin (by decide)) ?_
  refine ww_ifnull K dX5_copyTold_131 ?_
  refine ww_aload_n K dX5_copyTold_134 rfl ?_
  refine ww_get K dX5_copyTold_135 lf_X5_30 h1 rfl ?_
  refine ww_iload_n K dX5_copyTold_138 rfl ?_
  refine ww_aald3 K dX5_copyTold_139 h5 (wc_vin (by decide)) ?_
  refine ww_ifnull K dX5_copyTold_140 ?_
  refine ww_aload_n K dX5_copyTold_143 rfl ?_
  refine ww_get K dX5_copyTold_144 lf_X5_30 h72 rfl ?_
  refine ww_iload_n K dX5_copyTold_147 rfl ?_
  refine ww_aald3 K dX5_copyTold_148 h76 (wc_vin (by decide)) ?_
  refine ww_aload_n K dX5_copyTold_149 rfl ?_
  refine ww_get K dX5_copyTold_150 lf_X5_30 h1 rfl ?_
  refine ww_iload_n K dX5_copyTold_153 rfl ?_
  refine ww_aald3 K dX5_copyTold_154 h5 (wc_vin (by decide)) ?_
  refine ww_xVv K dX5_copyTold_155 lc_X5_50 h99 ⟨_, rfl, rfl⟩ (ct_X3_copyRows_99_28 G l h99 h100 h28 h29) rfl ⟨Nat.le_of_ble_eq_true rfl, Nat.le_of_ble_eq_true rfl⟩ (Nat.le_of_ble_eq_true rfl) (fun w13 hq hln_w13 => ?_)
  have hsm := hq
  have h72 := hsm.keep h72 (by decide)
  have h73 := hsm.keep h73 (by decide)
  have h74 := hsm.keep h74 (by decide)
  have h75 := hsm.keep h75 (by decide)
  have h76 := hsm.keep h76 (by decide)
  have h101 := hsm.keep h101 (by decide)
  have h102 := hsm.keep h102 (by decide)
  have h103 := hsm.keep h103 (by decide)
  have h104 := hsm.keep h104 (by decide)
  have h105 := hsm.keep h105 (by decide)
  have h106 := hsm.keep h106 (by decide)
  have h107 := hsm.keep h107 (by decide)
  have h108 := hsm.keep h108 (by decide)
  have h109 := hsm.keep h109 (by decide)
  have h110 := hsm.keep h110 (by decide)
  have h111 := hsm.keep h111 (by decide)
  have h112 := hsm.keep h112 (by decide)
  have h1 := hsm.keep h1 (by decide)
  have h2 := hsm.keep h2 (by decide)
  have h3 := hsm.keep h3 (by decide)
  have h4 := hsm.keep h4 (by decide)
  have h5 := hsm.keep h5 (by decide)
  have h6 := hsm.keep h6 (by decide)
  have h7 := hsm.keep h7 (by decide)
  have h8 := hsm.keep h8 (by decide)
  have h9 := hsm.keep h9 (by decide)
  have h10 := hsm.keep h10 (by decide)
  have h11 := hsm.keep h11 (by decide)
  have h12 := hsm.keep h12 (by decide)
  have h13 := hsm.keep h13 (by decide)
  have h14 := hsm.keep h14 (by decide)
  have h15 := hsm.keep h15 (by decide)
  have h16 := hsm.keep h16 (by decide)
  have h17 := hsm.keep h17 (by decide)
  have h18 := hsm.keep h18 (by decide)
  have h19 := hsm.keep h19 (by decide)
  have h20 := hsm.keep h20 (by decide)
  have h21 := hsm.keep h21 (by decide)
  have h22 := hsm.keep h22 (by decide)
  have h23 := hsm.keep h23 (by decide)
  have h24 := hsm.keep h24 (by decide)
  have h25 := hsm.keep h25 (by decide)
  have h26 := hsm.keep h26 (by decide)
  have h27 := hsm.keep h27 (by decide)
  have h28 := hsm.keep h28 (by decide)
  have h29 := hsm.keep h29 (by decide)
  have h30 := hsm.keep h30 (by decide)
  have h31 := hsm.keep h31 (by decide)
  have h32 := hsm.keep h32 (by decide)
  have h33 := hsm.keep h33 (by decide)
  have h34 := hsm.keep h34 (by decide)
  have h35 := hsm.keep h35 (by decide)
  have h36 := hsm.keep h36 (by decide)
  have h37 := hsm.keep h37 (by decide)
  have h38 := hsm.keep h38 (by decide)
  have h39 := hsm.keep h39 (by decide)
  have h40 := hsm.keep h40 (by decide)
  have h41 := hsm.keep h41 (by decide)
  have hS := hS.call hsm (by decide)
  refine ww_iinc (ls2 := [some (eR (72)), some (eR (1)), some (eI (4))]) K dX5_copyTold_158 (by decide) rfl rfl ?_
  refine ww_goto (tgt := 107) K dX5_copyTold_161 rfl ?_
  refine ww_iload_n K dX5_copyTold_107 rfl ?_
  refine ww_aload_n K dX5_copyTold_108 rfl ?_
  refine ww_get K dX5_copyTold_109 lf_X5_30 h72 rfl ?_
  refine ww_alenq K dX5_copyTold_112 h76 (by decide) ?_
  rw [show Int32.ofNat 10 = 10 from rfl]
  refine ww_icmp_ge (tgt := 164) K dX5_copyTold_113 rfl (fun cc_ => absurd cc_ (by decide)) (fun _ => ?_)
  refine ww_iload_n K dX5_copyTold_116 rfl ?_
  refine ww_aload_n K dX5_copyTold_117 rfl ?_
  refine ww_get K dX5_copyTold_118 lf_X5_30 h1 rfl ?_
  refine ww_alenq K dX5_copyTold_121 h5 (by decide) ?_
  rw [show Int32.ofNat 10 = 10 from rfl]
  refine ww_icmp_ge (tgt := 164) K dX5_copyTold_122 rfl (fun cc_ => absurd cc_ (by decide)) (fun _ => ?_)
  refine ww_aload_n K dX5_copyTold_125 rfl ?_
  refine ww_get K dX5_copyTold_126 lf_X5_30 h72 rfl ?_
  refine ww_iload_n K dX5_copyTold_129 rfl ?_
  refine ww_aald3 K dX5_copyTold_130 h76 (wc_vin (by decide)) ?_
  refine ww_ifnull K dX5_copyTold_131 ?_
  refine ww_aload_n K dX5_copyTold_134 rfl ?_
  refine ww_get K dX5_copyTold_135 lf_X5_30 h1 rfl ?_
  refine ww_iload_n K dX5_copyTold_138 rfl ?_
  refine ww_aald3 K dX5_copyTold_139 h5 (wc_vin (by decide)) ?_
  refine ww_ifnull K dX5_copyTold_140 ?_
  refine ww_aload_n K dX5_copyTold_143 rfl ?_
  refine ww_get K dX5_copyTold_144 lf_X5_30 h72 rfl ?_
  refine ww_iload_n K dX5_copyTold_147 rfl ?_
  refine ww_aald3 K dX5_copyTold_148 h76 (wc_vin (by decide)) ?_
  refine ww_aload_n K dX5_copyTold_149 rfl ?_
  refine ww_get K dX5_copyTold_150 lf_X5_30 h1 rfl ?_
  refine ww_iload_n K dX5_copyTold_153 rfl ?_
  refine ww_aald3 K dX5_copyTold_154 h5 (wc_vin (by decide)) ?_
  refine ww_xVv K dX5_copyTold_155 lc_X5_50 h101 ⟨_, rfl, rfl⟩ (ct_X3_copyRows_101_30 G l h101 h102 h30 h31) rfl ⟨Nat.le_of_ble_eq_true rfl, Nat.le_of_ble_eq_true rfl⟩ (Nat.le_of_ble_eq_true rfl) (fun w14 hq hln_w14 => ?_)
  have hsm := hq
  have h72 := hsm.keep h72 (by decide)
  have h73 := hsm.keep h73 (by decide)
  have h74 := hsm.keep h74 (by decide)
  have h75 := hsm.keep h75 (by decide)
  have h76 := hsm.keep h76 (by decide)
  have h103 := hsm.keep h103 (by decide)
  have h104 := hsm.keep h104 (by decide)
  have h105 := hsm.keep h105 (by decide)
  have h106 := hsm.keep h106 (by decide)
  have h107 := hsm.keep h107 (by decide)
  have h108 := hsm.keep h108 (by decide)
  have h109 := hsm.keep h109 (by decide)
  have h110 := hsm.keep h110 (by decide)
  have h111 := hsm.keep h111 (by decide)
  have h112 := hsm.keep h112 (by decide)
  have h1 := hsm.keep h1 (by decide)
  have h2 := hsm.keep h2 (by decide)
  have h3 := hsm.keep h3 (by decide)
  have h4 := hsm.keep h4 (by decide)
  have h5 := hsm.keep h5 (by decide)
  have h6 := hsm.keep h6 (by decide)
  have h7 := hsm.keep h7 (by decide)
  have h8 := hsm.keep h8 (by decide)
  have h9 := hsm.keep h9 (by decide)
  have h10 := hsm.keep h10 (by decide)
  have h11 := hsm.keep h11 (by decide)
  have h12 := hsm.keep h12 (by decide)
  have h13 := hsm.keep h13 (by decide)
  have h14 := hsm.keep h14 (by decide)
  have h15 := hsm.keep h15 (by decide)
  have h16 := hsm.keep h16 (by decide)
  have h17 := hsm.keep h17 (by decide)
  have h18 := hsm.keep h18 (by decide)
  have h19 := hsm.keep h19 (by decide)
  have h20 := hsm.keep h20 (by decide)
  have h21 := hsm.keep h21 (by decide)
  have h22 := hsm.keep h22 (by decide)
  have h23 := hsm.keep h23 (by decide)
  have h24 := hsm.keep h24 (by decide)
  have h25 := hsm.keep h25 (by decide)
  have h26 := hsm.keep h26 (by decide)
  have h27 := hsm.keep h27 (by decide)
  have h28 := hsm.keep h28 (by decide)
  have h29 := hsm.keep h29 (by decide)
  have h30 := hsm.keep h30 (by decide)
  have h31 := hsm.keep h31 (by decide)
  have h32 := hsm.keep h32 (by decide)
  have h33 := hsm.keep h33 (by decide)
  have h34 := hsm.keep h34 (by decide)
  have h35 := hsm.keep h35 (by decide)
  have h36 := hsm.keep h36 (by decide)
  have h37 := hsm.keep h37 (by decide)
  have h38 := hsm.keep h38 (by decide)
  have h39 := hsm.keep h39 (by decide)
  have h40 := hsm.keep h40 (by decide)
  have h41 := hsm.keep h41 (by decide)
  have hS := hS.call hsm (by decide)
  refine ww_iinc (ls2 := [some (eR (72)), some (eR (1)), some (eI (5))]) K dX5_copyTold_158 (by decide) rfl rfl ?_
  refine ww_goto (tgt := 107) K dX5_copyTold_161 rfl ?_
  refine ww_iload_n K dX5_copyTold_107 rfl ?_
  refine ww_aload_n K dX5_copyTold_108 rfl ?_
  refine ww_get K dX5_copyTold_109 lf_X5_30 h72 rfl ?_
  refine ww_alenq K dX5_copyTold_112 h76 (by decide) ?_
  rw [show Int32.ofNat 10 = 10 from rfl]
  refine ww_icmp_ge (tgt := 164) K dX5_copyTold_113 rfl (fun cc_ => absurd cc_ (by decide)) (fun _ => ?_)
  refine ww_iload_n K dX5_copyTold_116 rfl ?_
  refine ww_aload_n K dX5_copyTold_117 rfl ?_
  refine ww_get K dX5_copyTold_118 lf_X5_30 h1 rfl ?_
  refine ww_alenq K dX5_copyTold_121 h5 (by decide) ?_
  rw [show Int32.ofNat 10 = 10 from rfl]
  refine ww_icmp_ge (tgt := 164) K dX5_copyTold_122 rfl (fun cc_ => absurd cc_ (by decide)) (fun _ => ?_)
  refine ww_aload_n K dX5_copyTold_125 rfl ?_
  refine ww_get K dX5_copyTold_126 lf_X5_30 h72 rfl ?_
  refine ww_iload_n K dX5_copyTold_129 rfl ?_
  refine ww_aald3 K dX5_copyTold_130 h76 (wc_vin (by decide)) ?_
  refine ww_ifnull K dX5_copyTold_131 ?_
  refine ww_aload_n K dX5_copyTold_134 rfl ?_
  refine ww_get K dX5_copyTold_135 lf_X5_30 h1 rfl ?_
  refine ww_iload_n K dX5_copyTold_138 rfl ?_
  refine ww_aald3 K dX5_copyTold_139 h5 (wc_vin (by decide)) ?_
  refine ww_ifnull K dX5_copyTold_140 ?_
  refine ww_aload_n K dX5_copyTold_143 rfl ?_
  refine ww_get K dX5_copyTold_144 lf_X5_30 h72 rfl ?_
  refine ww_iload_n K dX5_copyTold_147 rfl ?_
  refine ww_aald3 K dX5_copyTold_148 h76 (wc_vin (by decide)) ?_
  refine ww_aload_n K dX5_copyTold_149 rfl ?_
  refine ww_get K dX5_copyTold_150 lf_X5_30 h1 rfl ?_
  refine ww_iload_n K dX5_copyTold_153 rfl ?_
  refine ww_aald3 K dX5_copyTold_154 h5 (wc_vin (by decide)) ?_
  refine ww_xVv K dX5_copyTold_155 lc_X5_50 h103 ⟨_, rfl, rfl⟩ (ct_X3_copyRows_103_32 G l h103 h104 h32 h33) rfl ⟨Nat.le_of_ble_eq_true rfl, Nat.le_of_ble_eq_true rfl⟩ (Nat.le_of_ble_eq_true rfl) (fun w15 hq hln_w15 => ?_)
  have hsm := hq
  have h72 := hsm.keep h72 (by decide)
  have h73 := hsm.keep h73 (by decide)
  have h74 := hsm.keep h74 (by decide)
  have h75 := hsm.keep h75 (by decide)
  have h76 := hsm.keep h76 (by decide)
  have h105 := hsm.keep h105 (by decide)
  have h106 := hsm.keep h106 (by decide)
  have h107 := hsm.keep h107 (by decide)
  have h108 := hsm.keep h108 (by decide)
  have h109 := hsm.keep h109 (by decide)
  have h110 := hsm.keep h110 (by decide)
  have h111 := hsm.keep h111 (by decide)
  have h112 := hsm.keep h112 (by decide)
  have h1 := hsm.keep h1 (by decide)
  have h2 := hsm.keep h2 (by decide)
  have h3 := hsm.keep h3 (by decide)
  have h4 := hsm.keep h4 (by decide)
  have h5 := hsm.keep h5 (by decide)
  have h6 := hsm.keep h6 (by decide)
  have h7 := hsm.keep h7 (by decide)
  have h8 := hsm.keep h8 (by decide)
  have h9 := hsm.keep h9 (by decide)
  have h10 := hsm.keep h10 (by decide)
  have h11 := hsm.keep h11 (by decide)
  have h12 := hsm.keep h12 (by decide)
  have h13 := hsm.keep h13 (by decide)
  have h14 := hsm.keep h14 (by decide)
  have h15 := hsm.keep h15 (by decide)
  have h16 := hsm.keep h16 (by decide)
  have h17 := hsm.keep h17 (by decide)
  have h18 := hsm.keep h18 (by decide)
  have h19 := hsm.keep h19 (by decide)
  have h20 := hsm.keep h20 (by decide)
  have h21 := hsm.keep h21 (by decide)
  have h22 := hsm.keep h22 (by decide)
  have h23 := hsm.keep h23 (by decide)
  have h24 := hsm.keep h24 (by decide)
  have h25 := hsm.keep h25 (by decide)
  have h26 := hsm.keep h26 (by decide)
  have h27 := hsm.keep h27 (by decide)
  have h28 := hsm.keep h28 (by decide)
  have h29 := hsm.keep h29 (by decide)
  have h30 := hsm.keep h30 (by decide)
  have h31 := hsm.keep h31 (by decide)
  have h32 := hsm.keep h32 (by decide)
  have h33 := hsm.keep h33 (by decide)
  have h34 := hsm.keep h34 (by decide)
  have h35 := hsm.keep h35 (by decide)
  have h36 := hsm.keep h36 (by decide)
  have h37 := hsm.keep h37 (by decide)
  have h38 := hsm.keep h38 (by decide)
  have h39 := hsm.keep h39 (by decide)
  have h40 := hsm.keep h40 (by decide)
  have h41 := hsm.keep h41 (by decide)
  have hS := hS.call hsm (by decide)
  refine ww_iinc (ls2 := [some (eR (72)), some (eR (1)), some (eI (6))]) K dX5_copyTold_158 (by decide) rfl rfl ?_
  refine ww_goto (tgt := 107) K dX5_copyTold_161 rfl ?_
  refine ww_iload_n K dX5_copyTold_107 rfl ?_
  refine ww_aload_n K dX5_copyTold_108 rfl ?_
  refine ww_get K dX5_copyTold_109 lf_X5_30 h72 rfl ?_
  refine ww_alenq K dX5_copyTold_112 h76 (by decide) ?_
  rw [show Int32.ofNat 10 = 10 from rfl]
  refine ww_icmp_ge (tgt := 164) K dX5_copyTold_113 rfl (fun cc_ => absurd cc_ (by decide)) (fun _ => ?_)
  refine ww_iload_n K dX5_copyTold_116 rfl ?_
  refine ww_aload_n K dX5_copyTold_117 rfl ?_
  refine ww_get K dX5_copyTold_118 lf_X5_30 h1 rfl ?_
  refine ww_alenq K dX5_copyTold_121 h5 (by decide) ?_
  rw [show Int32.ofNat 10 = 10 from rfl]
  refine ww_icmp_ge (tgt := 164) K dX5_copyTold_122 rfl (fun cc_ => absurd cc_ (by decide)) (fun _ => ?_)
  refine ww_aload_n K dX5_copyTold_125 rfl ?_
  refine ww_get K dX5_copyTold_126 lf_X5_30 h72 rfl ?_
  refine ww_iload_n K dX5_copyTold_129 rfl ?_
  refine ww_aald3 K dX5_copyTold_130 h76 (wc_vin (by decide)) ?_
  refine ww_ifnull K dX5_copyTold_131 ?_
  refine ww_aload_n K dX5_copyTold_134 rfl ?_
  refine ww_get K dX5_copyTold_135 lf_X5_30 h1 rfl ?_
  refine ww_iload_n K dX5_copyTold_138 rfl ?_
  refine ww_aald3 K dX5_copyTold_139 h5 (wc_vin (by decide)) ?_
  refine ww_ifnull K dX5_copyTold_140 ?_
  refine ww_aload_n K dX5_copyTold_143 rfl ?_
  refine ww_get K dX5_copyTold_144 lf_X5_30 h72 rfl ?_
  refine ww_iload_n K dX5_copyTold_147 rfl ?_
  refine ww_aald3 K dX5_copyTold_148 h76 (wc_vin (by decide)) ?_
  refine ww_aload_n K dX5_copyTold_149 rfl ?_
  refine ww_get K dX5_copyTold_150 lf_X5_30 h1 rfl ?_
  refine ww_iload_n K dX5_copyTold_153 rfl ?_
  refine ww_aald3 K dX5_copyTold_154 h5 (wc_vin (by decide)) ?_
  refine ww_xVv K dX5_copyTold_155 lc_X5_50 h105 ⟨_, rfl, rfl⟩ (ct_X3_copyRows_105_34 G l h105 h106 h34 h35) rfl ⟨Nat.le_of_ble_eq_true rfl, Nat.le_of_ble_eq_true rfl⟩ (Nat.le_of_ble_eq_true rfl) (fun w16 hq hln_w16 => ?_)
  have hsm := hq
  have h72 := hsm.keep h72 (by decide)
  have h73 := hsm.keep h73 (by decide)
  have h74 := hsm.keep h74 (by decide)
  have h75 := hsm.keep h75 (by decide)
  have h76 := hsm.keep h76 (by decide)
  have h107 := hsm.keep h107 (by decide)
  have h108 := hsm.keep h108 (by decide)
  have h109 := hsm.keep h109 (by decide)
  have h110 := hsm.keep h110 (by decide)
  have h111 := hsm.keep h111 (by decide)
  have h112 := hsm.keep h112 (by decide)
  have h1 := hsm.keep h1 (by decide)
  have h2 := hsm.keep h2 (by decide)
  have h3 := hsm.keep h3 (by decide)
  have h4 := hsm.keep h4 (by decide)
  have h5 := hsm.keep h5 (by decide)
  have h6 := hsm.keep h6 (by decide)
  have h7 := hsm.keep h7 (by decide)
  have h8 := hsm.keep h8 (by decide)
  have h9 := hsm.keep h9 (by decide)
  have h10 := hsm.keep h10 (by decide)
  have h11 := hsm.keep h11 (by decide)
  have h12 := hsm.keep h12 (by decide)
  have h13 := hsm.keep h13 (by decide)
  have h14 := hsm.keep h14 (by decide)
  have h15 := hsm.keep h15 (by decide)
  have h16 := hsm.keep h16 (by decide)
  have h17 := hsm.keep h17 (by decide)
  have h18 := hsm.keep h18 (by decide)
  have h19 := hsm.keep h19 (by decide)
  have h20 := hsm.keep h20 (by decide)
  have h21 := hsm.keep h21 (by decide)
  have h22 := hsm.keep h22 (by decide)
  have h23 := hsm.keep h23 (by decide)
  have h24 := hsm.keep h24 (by decide)
  have h25 := hsm.keep h25 (by decide)
  have h26 := hsm.keep h26 (by decide)
  have h27 := hsm.keep h27 (by decide)
  have h28 := hsm.keep h28 (by decide)
  have h29 := hsm.keep h29 (by decide)
  have h30 := hsm.keep h30 (by decide)
  have h31 := hsm.keep h31 (by decide)
  have h32 := hsm.keep h32 (by decide)
  have h33 := hsm.keep h33 (by decide)
  have h34 := hsm.keep h34 (by decide)
  have h35 := hsm.keep h35 (by decide)
  have h36 := hsm.keep h36 (by decide)
  have h37 := hsm.keep h37 (by decide)
  have h38 := hsm.keep h38 (by decide)
  have h39 := hsm.keep h39 (by decide)
  have h40 := hsm.keep h40 (by decide)
  have h41 := hsm.keep h41 (by decide)
  have hS := hS.call hsm (by decide)
  refine ww_iinc (ls2 := [some (eR (72)), some (eR (1)), some (eI (7))]) K dX5_copyTold_158 (by decide) rfl rfl ?_
  refine ww_goto (tgt := 107) K dX5_copyTold_161 rfl ?_
  refine ww_iload_n K dX5_copyTold_107 rfl ?_
  refine ww_aload_n K dX5_copyTold_108 rfl ?_
  refine ww_get K dX5_copyTold_109 lf_X5_30 h72 rfl ?_
  refine ww_alenq K dX5_copyTold_112 h76 (by decide) ?_
  rw [show Int32.ofNat 10 = 10 from rfl]
  refine ww_icmp_ge (tgt := 164) K dX5_copyTold_113 rfl (fun cc_ => absurd cc_ (by decide)) (fun _ => ?_)
  refine ww_iload_n K dX5_copyTold_116 rfl ?_
  refine ww_aload_n K dX5_copyTold_117 rfl ?_
  refine ww_get K dX5_copyTold_118 lf_X5_30 h1 rfl ?_
  refine ww_alenq K dX5_copyTold_121 h5 (by decide) ?_
  rw [show Int32.ofNat 10 = 10 from rfl]
  refine ww_icmp_ge (tgt := 164) K dX5_copyTold_122 rfl (fun cc_ => absurd cc_ (by decide)) (fun _ => ?_)
  refine ww_aload_n K dX5_copyTold_125 rfl ?_
  refine ww_get K dX5_copyTold_126 lf_X5_30 h72 rfl ?_
  refine ww_iload_n K dX5_copyTold_129 rfl ?_
  refine ww_aald3 K dX5_copyTold_130 h76 (wc_vin (by decide)) ?_
  refine ww_ifnull K dX5_copyTold_131 ?_
  refine ww_aload_n K dX5_copyTold_134 rfl ?_
  refine ww_get K dX5_copyTold_135 lf_X5_30 h1 rfl ?_
  refine ww_iload_n K dX5_copyTold_138 rfl ?_
  refine ww_aald3 K dX5_copyTold_139 h5 (wc_vin (by decide)) ?_
  refine ww_ifnull K dX5_copyTold_140 ?_
  refine ww_aload_n K dX5_copyTold_143 rfl ?_
  refine ww_get K dX5_copyTold_144 lf_X5_30 h72 rfl ?_
  refine ww_iload_n K dX5_copyTold_147 rfl ?_
  refine ww_aald3 K dX5_copyTold_148 h76 (wc_vin (by decide)) ?_
  refine ww_aload_n K dX5_copyTold_149 rfl ?_
  refine ww_get K dX5_copyTold_150 lf_X5_30 h1 rfl ?_
  refine ww_iload_n K dX5_copyTold_153 rfl ?_
  refine ww_aald3 K dX5_copyTold_154 h5 (wc_vin (by decide)) ?_
  refine ww_xVv K dX5_copyTold_155 lc_X5_50 h107 ⟨_, rfl, rfl⟩ (ct_X3_copyRows_107_36 G l h107 h108 h36 h37) rfl ⟨Nat.le_of_ble_eq_true rfl, Nat.le_of_ble_eq_true rfl⟩ (Nat.le_of_ble_eq_true rfl) (fun w17 hq hln_w17 => ?_)
  have hsm := hq
  have h72 := hsm.keep h72 (by decide)
  have h73 := hsm.keep h73 (by decide)
  have h74 := hsm.keep h74 (by decide)
  have h75 := hsm.keep h75 (by decide)
  have h76 := hsm.keep h76 (by decide)
  have h109 := hsm.keep h109 (by decide)
  have h110 := hsm.keep h110 (by decide)
  have h111 := hsm.keep h111 (by decide)
  have h112 := hsm.keep h112 (by decide)
  have h1 := hsm.keep h1 (by decide)
  have h2 := hsm.keep h2 (by decide)
  have h3 := hsm.keep h3 (by decide)
  have h4 := hsm.keep h4 (by decide)
  have h5 := hsm.keep h5 (by decide)
  have h6 := hsm.keep h6 (by decide)
  have h7 := hsm.keep h7 (by decide)
  have h8 := hsm.keep h8 (by decide)
  have h9 := hsm.keep h9 (by decide)
  have h10 := hsm.keep h10 (by decide)
  have h11 := hsm.keep h11 (by decide)
  have h12 := hsm.keep h12 (by decide)
  have h13 := hsm.keep h13 (by decide)
  have h14 := hsm.keep h14 (by decide)
  have h15 := hsm.keep h15 (by decide)
  have h16 := hsm.keep h16 (by decide)
  have h17 := hsm.keep h17 (by decide)
  have h18 := hsm.keep h18 (by decide)
  have h19 := hsm.keep h19 (by decide)
  have h20 := hsm.keep h20 (by decide)
  have h21 := hsm.keep h21 (by decide)
  have h22 := hsm.keep h22 (by decide)
  have h23 := hsm.keep h23 (by decide)
  have h24 := hsm.keep h24 (by decide)
  have h25 := hsm.keep h25 (by decide)
  have h26 := hsm.keep h26 (by decide)
  have h27 := hsm.keep h27 (by decide)
  have h28 := hsm.keep h28 (by decide)
  have h29 := hsm.keep h29 (by decide)
  have h30 := hsm.keep h30 (by decide)
  have h31 := hsm.keep h31 (by decide)
  have h32 := hsm.keep h32 (by decide)
  have h33 := hsm.keep h33 (by decide)
  have h34 := hsm.keep h34 (by decide)
  have h35 := hsm.keep h35 (by decide)
  have h36 := hsm.keep h36 (by decide)
  have h37 := hsm.keep h37 (by decide)
  have h38 := hsm.keep h38 (by decide)
  have h39 := hsm.keep h39 (by decide)
  have h40 := hsm.keep h40 (by decide)
  have h41 := hsm.keep h41 (by decide)
  have hS := hS.call hsm (by decide)
  refine ww_iinc (ls2 := [some (eR (72)), some (eR (1)), some (eI (8))]) K dX5_copyTold_158 (by decide) rfl rfl ?_
  refine ww_goto (tgt := 107) K dX5_copyTold_161 rfl ?_
  refine ww_iload_n K dX5_copyTold_107 rfl ?_
  refine ww_aload_n K dX5_copyTold_108 rfl ?_
  refine ww_get K dX5_copyTold_109 lf_X5_30 h72 rfl ?_
  refine ww_alenq K dX5_copyTold_112 h76 (by decide) ?_
  rw [show Int32.ofNat 10 = 10 from rfl]
  refine ww_icmp_ge (tgt := 164) K dX5_copyTold_113 rfl (fun cc_ => absurd cc_ (by decide)) (fun _ => ?_)
  refine ww_iload_n K dX5_copyTold_116 rfl ?_
  refine ww_aload_n K dX5_copyTold_117 rfl ?_
  refine ww_get K dX5_copyTold_118 lf_X5_30 h1 rfl ?_
  refine ww_alenq K dX5_copyTold_121 h5 (by decide) ?_
  rw [show Int32.ofNat 10 = 10 from rfl]
  refine ww_icmp_ge (tgt := 164) K dX5_copyTold_122 rfl (fun cc_ => absurd cc_ (by decide)) (fun _ => ?_)
  refine ww_aload_n K dX5_copyTold_125 rfl ?_
  refine ww_get K dX5_copyTold_126 lf_X5_30 h72 rfl ?_
  refine ww_iload_n K dX5_copyTold_129 rfl ?_
  refine ww_aald3 K dX5_copyTold_130 h76 (wc_vin (by decide)) ?_
  refine ww_ifnull K dX5_copyTold_131 ?_
  refine ww_aload_n K dX5_copyTold_134 rfl ?_
  refine ww_get K dX5_copyTold_135 lf_X5_30 h1 rfl ?_
  refine ww_iload_n K dX5_copyTold_138 rfl ?_
  refine ww_aald3 K dX5_copyTold_139 h5 (wc_vin (by decide)) ?_
  refine ww_ifnull K dX5_copyTold_140 ?_
  refine ww_aload_n K dX5_copyTold_143 rfl ?_
  refine ww_get K dX5_copyTold_144 lf_X5_30 h72 rfl ?_
  refine ww_iload_n K dX5_copyTold_147 rfl ?_
  refine ww_aald3 K dX5_copyTold_148 h76 (wc_vin (by decide)) ?_
  refine ww_aload_n K dX5_copyTold_149 rfl ?_
  refine ww_get K dX5_copyTold_150 lf_X5_30 h1 rfl ?_
  refine ww_iload_n K dX5_copyTold_153 rfl ?_
  refine ww_aald3 K dX5_copyTold_154 h5 (wc_vin (by decide)) ?_
  refine ww_xVv K dX5_copyTold_155 lc_X5_50 h109 ⟨_, rfl, rfl⟩ (ct_X3_copyRows_109_38 G l h109 h110 h38 h39) rfl ⟨Nat.le_of_ble_eq_true rfl, Nat.le_of_ble_eq_true rfl⟩ (Nat.le_of_ble_eq_true rfl) (fun w18 hq hln_w18 => ?_)
  have hsm := hq
  have h72 := hsm.keep h72 (by decide)
  have h73 := hsm.keep h73 (by decide)
  have h74 := hsm.keep h74 (by decide)
  have h75 := hsm.keep h75 (by decide)
  have h76 := hsm.keep h76 (by decide)
  have h111 := hsm.keep h111 (by decide)
  have h112 := hsm.keep h112 (by decide)
  have h1 := hsm.keep h1 (by decide)
  have h2 := hsm.keep h2 (by decide)
  have h3 := hsm.keep h3 (by decide)
  have h4 := hsm.keep h4 (by decide)
  have h5 := hsm.keep h5 (by decide)
  have h6 := hsm.keep h6 (by decide)
  have h7 := hsm.keep h7 (by decide)
  have h8 := hsm.keep h8 (by decide)
  have h9 := hsm.keep h9 (by decide)
  have h10 := hsm.keep h10 (by decide)
  have h11 := hsm.keep h11 (by decide)
  have h12 := hsm.keep h12 (by decide)
  have h13 := hsm.keep h13 (by decide)
  have h14 := hsm.keep h14 (by decide)
  have h15 := hsm.keep h15 (by decide)
  have h16 := hsm.keep h16 (by decide)
  have h17 := hsm.keep h17 (by decide)
  have h18 := hsm.keep h18 (by decide)
  have h19 := hsm.keep h19 (by decide)
  have h20 := hsm.keep h20 (by decide)
  have h21 := hsm.keep h21 (by decide)
  have h22 := hsm.keep h22 (by decide)
  have h23 := hsm.keep h23 (by decide)
  have h24 := hsm.keep h24 (by decide)
  have h25 := hsm.keep h25 (by decide)
  have h26 := hsm.keep h26 (by decide)
  have h27 := hsm.keep h27 (by decide)
  have h28 := hsm.keep h28 (by decide)
  have h29 := hsm.keep h29 (by decide)
  have h30 := hsm.keep h30 (by decide)
  have h31 := hsm.keep h31 (by decide)
  have h32 := hsm.keep h32 (by decide)
  have h33 := hsm.keep h33 (by decide)
  have h34 := hsm.keep h34 (by decide)
  have h35 := hsm.keep h35 (by decide)
  have h36 := hsm.keep h36 (by decide)
  have h37 := hsm.keep h37 (by decide)
  have h38 := hsm.keep h38 (by decide)
  have h39 := hsm.keep h39 (by decide)
  have h40 := hsm.keep h40 (by decide)
  have h41 := hsm.keep h41 (by decide)
  have hS := hS.call hsm (by decide)
  refine ww_iinc (ls2 := [some (eR (72)), some (eR (1)), some (eI (9))]) K dX5_copyTold_158 (by decide) rfl rfl ?_
  refine ww_goto (tgt := 107) K dX5_copyTold_161 rfl ?_
  refine ww_iload_n K dX5_copyTold_107 rfl ?_
  refine ww_aload_n K dX5_copyTold_108 rfl ?_
  refine ww_get K dX5_copyTold_109 lf_X5_30 h72 rfl ?_
  refine ww_alenq K dX5_copyTold_112 h76 (by decide) ?_
  rw [show Int32.ofNat 10 = 10 from rfl]
  refine ww_icmp_ge (tgt := 164) K dX5_copyTold_113 rfl (fun cc_ => absurd cc_ (by decide)) (fun _ => ?_)
  refine ww_iload_n K dX5_copyTold_116 rfl ?_
  refine ww_aload_n K dX5_copyTold_117 rfl ?_
  refine ww_get K dX5_copyTold_118 lf_X5_30 h1 rfl ?_
  refine ww_alenq K dX5_copyTold_121 h5 (by decide) ?_
  rw [show Int32.ofNat 10 = 10 from rfl]
  refine ww_icmp_ge (tgt := 164) K dX5_copyTold_122 rfl (fun cc_ => absurd cc_ (by decide)) (fun _ => ?_)
  refine ww_aload_n K dX5_copyTold_125 rfl ?_
  refine ww_get K dX5_copyTold_126 lf_X5_30 h72 rfl ?_
  refine ww_iload_n K dX5_copyTold_129 rfl ?_
  refine ww_aald3 K dX5_copyTold_130 h76 (wc_vin (by decide)) ?_
  refine ww_ifnull K dX5_copyTold_131 ?_
  refine ww_aload_n K dX5_copyTold_134 rfl ?_
  refine ww_get K dX5_copyTold_135 lf_X5_30 h1 rfl ?_
  refine ww_iload_n K dX5_copyTold_138 rfl ?_
  refine ww_aald3 K dX5_copyTold_139 h5 (wc_vin (by decide)) ?_
  refine ww_ifnull K dX5_copyTold_140 ?_
  refine ww_aload_n K dX5_copyTold_143 rfl ?_
  refine ww_get K dX5_copyTold_144 lf_X5_30 h72 rfl ?_
  refine ww_iload_n K dX5_copyTold_147 rfl ?_
  refine ww_aald3 K dX5_copyTold_148 h76 (wc_vin (by decide)) ?_
  refine ww_aload_n K dX5_copyTold_149 rfl ?_
  refine ww_get K dX5_copyTold_150 lf_X5_30 h1 rfl ?_
  refine ww_iload_n K dX5_copyTold_153 rfl ?_
  refine ww_aald3 K dX5_copyTold_154 h5 (wc_vin (by decide)) ?_
  refine ww_xVv K dX5_copyTold_155 lc_X5_50 h111 ⟨_, rfl, rfl⟩ (ct_X3_copyRows_111_40 G l h111 h112 h40 h41) rfl ⟨Nat.le_of_ble_eq_true rfl, Nat.le_of_ble_eq_true rfl⟩ (Nat.le_of_ble_eq_true rfl) (fun w19 hq hln_w19 => ?_)
  have hsm := hq
  have h72 := hsm.keep h72 (by decide)
  have h73 := hsm.keep h73 (by decide)
  have h74 := hsm.keep h74 (by decide)
  have h75 := hsm.keep h75 (by decide)
  have h76 := hsm.keep h76 (by decide)
  have h1 := hsm.keep h1 (by decide)
  have h2 := hsm.keep h2 (by decide)
  have h3 := hsm.keep h3 (by decide)
  have h4 := hsm.keep h4 (by decide)
  have h5 := hsm.keep h5 (by decide)
  have h6 := hsm.keep h6 (by decide)
  have h7 := hsm.keep h7 (by decide)
  have h8 := hsm.keep h8 (by decide)
  have h9 := hsm.keep h9 (by decide)
  have h10 := hsm.keep h10 (by decide)
  have h11 := hsm.keep h11 (by decide)
  have h12 := hsm.keep h12 (by decide)
  have h13 := hsm.keep h13 (by decide)
  have h14 := hsm.keep h14 (by decide)
  have h15 := hsm.keep h15 (by decide)
  have h16 := hsm.keep h16 (by decide)
  have h17 := hsm.keep h17 (by decide)
  have h18 := hsm.keep h18 (by decide)
  have h19 := hsm.keep h19 (by decide)
  have h20 := hsm.keep h20 (by decide)
  have h21 := hsm.keep h21 (by decide)
  have h22 := hsm.keep h22 (by decide)
  have h23 := hsm.keep h23 (by decide)
  have h24 := hsm.keep h24 (by decide)
  have h25 := hsm.keep h25 (by decide)
  have h26 := hsm.keep h26 (by decide)
  have h27 := hsm.keep h27 (by decide)
  have h28 := hsm.keep h28 (by decide)
  have h29 := hsm.keep h29 (by decide)
  have h30 := hsm.keep h30 (by decide)
  have h31 := hsm.keep h31 (by decide)
  have h32 := hsm.keep h32 (by decide)
  have h33 := hsm.keep h33 (by decide)
  have h34 := hsm.keep h34 (by decide)
  have h35 := hsm.keep h35 (by decide)
  have h36 := hsm.keep h36 (by decide)
  have h37 := hsm.keep h37 (by decide)
  have h38 := hsm.keep h38 (by decide)
  have h39 := hsm.keep h39 (by decide)
  have h40 := hsm.keep h40 (by decide)
  have h41 := hsm.keep h41 (by decide)
  have hS := hS.call hsm (by decide)
  refine ww_iinc (ls2 := [some (eR (72)), some (eR (1)), some (eI (10))]) K dX5_copyTold_158 (by decide) rfl rfl ?_
  refine ww_goto (tgt := 107) K dX5_copyTold_161 rfl ?_
  refine ww_iload_n K dX5_copyTold_107 rfl ?_
  refine ww_aload_n K dX5_copyTold_108 rfl ?_
  refine ww_get K dX5_copyTold_109 lf_X5_30 h72 rfl ?_
  refine ww_alenq K dX5_copyTold_112 h76 (by decide) ?_
  rw [show Int32.ofNat 10 = 10 from rfl]
  refine ww_icmp_ge (tgt := 164) K dX5_copyTold_113 rfl (fun _ => ?_) (fun cc_ => absurd cc_ (by decide))
  exact ww_vret K dX5_copyTold_164 hr ⟨rfl, ⟨h72, hS⟩⟩
theorem WW_all {p : Program} {l : Launch} {e : Env} {R : Room} {s : State} {m : MethodId} {args : Array Value} {below : List Frame} {meth : Method} {c : Code} {Q : State → Prop} {G : EG} {nL n0 s0 rc rs pc : Nat} {ls ls2 : List (Option EV)} {st st2 : List EV} {w w2 : EW} (h1 : ls = ls2) (h2 : st = st2) (h3 : w = w2) (k : WW p l e R s m args below meth c Q G nL n0 s0 rc rs pc ls2 st2 w2) : WW p l e R s m args below meth c Q G nL n0 s0 rc rs pc ls st w := by subst h1; subst h2; subst h3; exact k
theorem wc_agetN {w0 L : EW} {n k j : Nat} {cx : EC} (h : w0.length = n) (hk : n + j = k) (hL : L[j]? = some cx) : (w0 ++ L)[k]? = some cx := by
  subst hk; subst h; exact wc_aget hL
set_option maxRecDepth 100000 in
set_option maxHeartbeats 4000000 in
theorem ct_X6_image_0 (G : EG) (l : Launch) {w : EW} (hlen : w.length = 72) (h0 : w[0]? = some (cO 6 [eR (1), eR (42), eR (43), eR (56), eR (60), eR (61), eR (62), eR (63)])) (h1 : w[1]? = some (cO 5 [eR (2), eI (0), eI (0), eI ((-1)), eR (3), eR (4), eR (5)])) (h2 : w[2]? = some (cI 0 600 (fun _ => 0))) (h3 : w[3]? = some (cI 0 6 (fun _ => 0))) (h4 : w[4]? = some (cQ 2 2 (va_up (va_up (fun _ => none) 0 (some 6)) 1 (some 14)))) (h5 : w[5]? = some (cQ 3 10 (va_up (va_up (va_up (va_up (va_up (va_up (va_up (va_up (va_up (va_up (fun _ => none) 0 (some 22)) 1 (some 24)) 2 (some 26)) 3 (some 28)) 4 (some 30)) 5 (some 32)) 6 (some 34)) 7 (some 36)) 8 (some 38)) 9 (some 40)))) (h6 : w[6]? = some (cO 2 [eI (0), eR (7), eR (8), eR (9), eR (10), eR (11), eR (12), eR (13), eI (0), eI (0), eI (0), eI (0), eI (0), eI (0)])) (h7 : w[7]? = some (cI 0 6 (fun _ => 0))) (h8 : w[8]? = some (cI 0 6 (fun _ => 0))) (h9 : w[9]? = some (cI 0 6 (fun _ => 0))) (h10 : w[10]? = some (cI 0 6 (fun _ => 0))) (h11 : w[11]? = some (cI 0 72 (fun _ => 0))) (h12 : w[12]? = some (cI 0 6 (fun _ => 0))) (h13 : w[13]? = some (cI 0 3 (fun _ => 0))) (h14 : w[14]? = some (cO 2 [eI (0), eR (15), eR (16), eR (17), eR (18), eR (19), eR (20), eR (21), eI (0), eI (0), eI (0), eI (0), eI (0), eI (0)])) (h15 : w[15]? = some (cI 0 6 (fun _ => 0))) (h16 : w[16]? = some (cI 0 6 (fun _ => 0))) (h17 : w[17]? = some (cI 0 6 (fun _ => 0))) (h18 : w[18]? = some (cI 0 6 (fun _ => 0))) (h19 : w[19]? = some (cI 0 72 (fun _ => 0))) (h20 : w[20]? = some (cI 0 6 (fun _ => 0))) (h21 : w[21]? = some (cI 0 3 (fun _ => 0))) (h22 : w[22]? = some (cO 3 [eI (0), eR (23)])) (h23 : w[23]? = some (cI 0 200 (fun _ => 0))) (h24 : w[24]? = some (cO 3 [eI (0), eR (25)])) (h25 : w[25]? = some (cI 0 200 (fun _ => 0))) (h26 : w[26]? = some (cO 3 [eI (0), eR (27)])) (h27 : w[27]? = some (cI 0 200 (fun _ => 0))) (h28 : w[28]? = some (cO 3 [eI (0), eR (29)])) (h29 : w[29]? = some (cI 0 200 (fun _ => 0))) (h30 : w[30]? = some (cO 3 [eI (0), eR (31)])) (h31 : w[31]? = some (cI 0 200 (fun _ => 0))) (h32 : w[32]? = some (cO 3 [eI (0), eR (33)])) (h33 : w[33]? = some (cI 0 200 (fun _ => 0))) (h34 : w[34]? = some (cO 3 [eI (0), eR (35)])) (h35 : w[35]? = some (cI 0 200 (fun _ => 0))) (h36 : w[36]? = some (cO 3 [eI (0), eR (37)])) (h37 : w[37]? = some (cI 0 200 (fun _ => 0))) (h38 : w[38]? = some (cO 3 [eI (0), eR (39)])) (h39 : w[39]? = some (cI 0 200 (fun _ => 0))) (h40 : w[40]? = some (cO 3 [eI (0), eR (41)])) (h41 : w[41]? = some (cI 0 200 (fun _ => 0))) (h42 : w[42]? = some (cQ 4 3 (fun _ => none))) : Ct G l yX6_image cX6_image 3 (some .boolean) 4 41 2883 [eR (0), eI (0)] w (fun r w2 => (∃ x : Int32, r = some (eI x) ∧ (x = 1 ∧ wc_same [42, 72, 73, 74, 75, 76, 77, 78, 79, 80, 81, 82, 83, 84, 85, 86, 87, 88, 89, 90, 91, 92, 93, 94, 95, 96, 97, 98, 99, 100, 101, 102, 103, 104, 105, 106, 107, 108, 109, 110, 111, 112] w w2))) := by
  refine Ct_of (by decide +kernel) (Nat.le_of_ble_eq_true rfl) ?_
  intro p_ e_ s_ m_ a_ b_ t_ c_ K0 hr hin
  have K : wc_C p_ s_ m_ a_ t_ c_ G RX6 cX6_image 3 w.length := K0
  clear K0
  refine WW_ls (ls2 := [some (eR (0)), some (eI (0)), none]) rfl ?_
  have hS : wc_same [42, 72, 73, 74, 75, 76, 77, 78, 79, 80, 81, 82, 83, 84, 85, 86, 87, 88, 89, 90, 91, 92, 93, 94, 95, 96, 97, 98, 99, 100, 101, 102, 103, 104, 105, 106, 107, 108, 109, 110, 111, 112] w w := wc_same.rf
  refine ww_iload_n K dX6_image_0 rfl ?_
  refine ww_if_lt (tgt := 13) K dX6_image_1 rfl (fun cc_ => absurd cc_ (by decide)) (fun _ => ?_)
  refine ww_iload_n K dX6_image_4 rfl ?_
  refine ww_aload_n K dX6_image_5 rfl ?_
  refine ww_get K dX6_image_6 lf_X6_16 h0 rfl ?_
  refine ww_alenq K dX6_image_9 h42 (by decide) ?_
  rw [show Int32.ofNat 3 = 3 from rfl]
  refine ww_icmp_lt (tgt := 15) K dX6_image_10 rfl (fun _ => ?_) (fun cc_ => absurd cc_ (by decide))
  refine ww_aload_n K dX6_image_15 rfl ?_
  refine ww_get K dX6_image_16 lf_X6_16 h0 rfl ?_
  refine ww_iload_n K dX6_image_19 rfl ?_
  refine ww_aald4 K dX6_image_20 h42 (wc_vin (by decide)) ?_
  refine ww_ifnonnullN K dX6_image_21 ?_
  refine ww_new (rc := 40) (rs := 2876) K dX6_image_24 ln_X6_7 ?_
  refine ww_dup K dX6_image_27 trivial ?_
  refine ww_callI (rc := 0) (rs := 0) K dX6_image_28 lc_X6_9 (ct_X5_init G l (w0 := w) (n := w.length) rfl) rfl ⟨Nat.le_of_ble_eq_true rfl, Nat.le_of_ble_eq_true rfl⟩ (Nat.le_of_ble_eq_true rfl) (fun r w2 hq _ _ => ?_)
  obtain ⟨rfl, rfl⟩ := hq
  refine WW_all (ls2 := [some (eR (0)), some (eI (0)), none]) (st2 := [eR 72]) (w2 := w ++ [cO 5 [eR (73), eI 0, eI 0, eI ((-1)), eR (74), eR (75), eR (76)], cI 0 600 (fun _ => 0), cI 0 6 (fun _ => 0), cQ 2 2 (va_up (va_up (fun _ => none) 0 (some 77)) 1 (some 85)), cQ 3 10 (va_up (va_up (va_up (va_up (va_up (va_up (va_up (va_up (va_up (va_up (fun _ => none) 0 (some 93)) 1 (some 95)) 2 (some 97)) 3 (some 99)) 4 (some 101)) 5 (some 103)) 6 (some 105)) 7 (some 107)) 8 (some 109)) 9 (some 111)), cO 2 [eI 0, eR (78), eR (79), eR (80), eR (81), eR (82), eR (83), eR (84), eI 0, eI 0, eI 0, eI 0, eI 0, eI 0], cI 0 6 (fun _ => 0), cI 0 6 (fun _ => 0), cI 0 6 (fun _ => 0), cI 0 6 (fun _ => 0), cI 0 72 (fun _ => 0), cI 0 6 (fun _ => 0), cI 0 3 (fun _ => 0), cO 2 [eI 0, eR (86), eR (87), eR (88), eR (89), eR (90), eR (91), eR (92), eI 0, eI 0, eI 0, eI 0, eI 0, eI 0], cI 0 6 (fun _ => 0), cI 0 6 (fun _ => 0), cI 0 6 (fun _ => 0), cI 0 6 (fun _ => 0), cI 0 72 (fun _ => 0), cI 0 6 (fun _ => 0), cI 0 3 (fun _ => 0), cO 3 [eI 0, eR (94)], cI 0 200 (fun _ => 0), cO 3 [eI 0, eR (96)], cI 0 200 (fun _ => 0), cO 3 [eI 0, eR (98)], cI 0 200 (fun _ => 0), cO 3 [eI 0, eR (100)], cI 0 200 (fun _ => 0), cO 3 [eI 0, eR (102)], cI 0 200 (fun _ => 0), cO 3 [eI 0, eR (104)], cI 0 200 (fun _ => 0), cO 3 [eI 0, eR (106)], cI 0 200 (fun _ => 0), cO 3 [eI 0, eR (108)], cI 0 200 (fun _ => 0), cO 3 [eI 0, eR (110)], cI 0 200 (fun _ => 0), cO 3 [eI 0, eR (112)], cI 0 200 (fun _ => 0)]) rfl (by rw [hlen]; rfl) (by rw [hlen]) ?_
  obtain ⟨wi, hwi⟩ : ∃ z, z = w ++ [cO 5 [eR (73), eI 0, eI 0, eI ((-1)), eR (74), eR (75), eR (76)], cI 0 600 (fun _ => 0), cI 0 6 (fun _ => 0), cQ 2 2 (va_up (va_up (fun _ => none) 0 (some 77)) 1 (some 85)), cQ 3 10 (va_up (va_up (va_up (va_up (va_up (va_up (va_up (va_up (va_up (va_up (fun _ => none) 0 (some 93)) 1 (some 95)) 2 (some 97)) 3 (some 99)) 4 (some 101)) 5 (some 103)) 6 (some 105)) 7 (some 107)) 8 (some 109)) 9 (some 111)), cO 2 [eI 0, eR (78), eR (79), eR (80), eR (81), eR (82), eR (83), eR (84), eI 0, eI 0, eI 0, eI 0, eI 0, eI 0], cI 0 6 (fun _ => 0), cI 0 6 (fun _ => 0), cI 0 6 (fun _ => 0), cI 0 6 (fun _ => 0), cI 0 72 (fun _ => 0), cI 0 6 (fun _ => 0), cI 0 3 (fun _ => 0), cO 2 [eI 0, eR (86), eR (87), eR (88), eR (89), eR (90), eR (91), eR (92), eI 0, eI 0, eI 0, eI 0, eI 0, eI 0], cI 0 6 (fun _ => 0), cI 0 6 (fun _ => 0), cI 0 6 (fun _ => 0), cI 0 6 (fun _ => 0), cI 0 72 (fun _ => 0), cI 0 6 (fun _ => 0), cI 0 3 (fun _ => 0), cO 3 [eI 0, eR (94)], cI 0 200 (fun _ => 0), cO 3 [eI 0, eR (96)], cI 0 200 (fun _ => 0), cO 3 [eI 0, eR (98)], cI 0 200 (fun _ => 0), cO 3 [eI 0, eR (100)], cI 0 200 (fun _ => 0), cO 3 [eI 0, eR (102)], cI 0 200 (fun _ => 0), cO 3 [eI 0, eR (104)], cI 0 200 (fun _ => 0), cO 3 [eI 0, eR (106)], cI 0 200 (fun _ => 0), cO 3 [eI 0, eR (108)], cI 0 200 (fun _ => 0), cO 3 [eI 0, eR (110)], cI 0 200 (fun _ => 0), cO 3 [eI 0, eR (112)], cI 0 200 (fun _ => 0)] := ⟨_, rfl⟩
  rw [← hwi]
  have hold : ∀ j : Nat, j < 72 → wi[j]? = w[j]? := fun j hj => by rw [hwi, List.getElem?_append_left (by omega)]
  have h0 := (hold 0 (by decide)).trans h0
  have h1 := (hold 1 (by decide)).trans h1
  have h2 := (hold 2 (by decide)).trans h2
  have h3 := (hold 3 (by decide)).trans h3
  have h4 := (hold 4 (by decide)).trans h4
  have h5 := (hold 5 (by decide)).trans h5
  have h6 := (hold 6 (by decide)).trans h6
  have h7 := (hold 7 (by decide)).trans h7
  have h8 := (hold 8 (by decide)).trans h8
  have h9 := (hold 9 (by decide)).trans h9
  have h10 := (hold 10 (by decide)).trans h10
  have h11 := (hold 11 (by decide)).trans h11
  have h12 := (hold 12 (by decide)).trans h12
  have h13 := (hold 13 (by decide)).trans h13
  have h14 := (hold 14 (by decide)).trans h14
  have h15 := (hold 15 (by decide)).trans h15
  have h16 := (hold 16 (by decide)).trans h16
  have h17 := (hold 17 (by decide)).trans h17
  have h18 := (hold 18 (by decide)).trans h18
  have h19 := (hold 19 (by decide)).trans h19
  have h20 := (hold 20 (by decide)).trans h20
  have h21 := (hold 21 (by decide)).trans h21
  have h22 := (hold 22 (by decide)).trans h22
  have h23 := (hold 23 (by decide)).trans h23
  have h24 := (hold 24 (by decide)).trans h24
  have h25 := (hold 25 (by decide)).trans h25
  have h26 := (hold 26 (by decide)).trans h26
  have h27 := (hold 27 (by decide)).trans h27
  have h28 := (hold 28 (by decide)).trans h28
  have h29 := (hold 29 (by decide)).trans h29
  have h30 := (hold 30 (by decide)).trans h30
  have h31 := (hold 31 (by decide)).trans h31
  have h32 := (hold 32 (by decide)).trans h32
  have h33 := (hold 33 (by decide)).trans h33
  have h34 := (hold 34 (by decide)).trans h34
  have h35 := (hold 35 (by decide)).trans h35
  have h36 := (hold 36 (by decide)).trans h36
  have h37 := (hold 37 (by decide)).trans h37
  have h38 := (hold 38 (by decide)).trans h38
  have h39 := (hold 39 (by decide)).trans h39
  have h40 := (hold 40 (by decide)).trans h40
  have h41 := (hold 41 (by decide)).trans h41
  have h42 := (hold 42 (by decide)).trans h42
  have h72 : wi[72]? = some (cO 5 [eR (73), eI 0, eI 0, eI ((-1)), eR (74), eR (75), eR (76)]) := by rw [hwi]; exact wc_agetN hlen (j := 0) rfl rfl
  have h73 : wi[73]? = some (cI 0 600 (fun _ => 0)) := by rw [hwi]; exact wc_agetN hlen (j := 1) rfl rfl
  have h74 : wi[74]? = some (cI 0 6 (fun _ => 0)) := by rw [hwi]; exact wc_agetN hlen (j := 2) rfl rfl
  have h75 : wi[75]? = some (cQ 2 2 (va_up (va_up (fun _ => none) 0 (some 77)) 1 (some 85))) := by rw [hwi]; exact wc_agetN hlen (j := 3) rfl rfl
  have h76 : wi[76]? = some (cQ 3 10 (va_up (va_up (va_up (va_up (va_up (va_up (va_up (va_up (va_up (va_up (fun _ => none) 0 (some 93)) 1 (some 95)) 2 (some 97)) 3 (some 99)) 4 (some 101)) 5 (some 103)) 6 (some 105)) 7 (some 107)) 8 (some 109)) 9 (some 111))) := by rw [hwi]; exact wc_agetN hlen (j := 4) rfl rfl
  have h77 : wi[77]? = some (cO 2 [eI 0, eR (78), eR (79), eR (80), eR (81), eR (82), eR (83), eR (84), eI 0, eI 0, eI 0, eI 0, eI 0, eI 0]) := by rw [hwi]; exact wc_agetN hlen (j := 5) rfl rfl
  have h78 : wi[78]? = some (cI 0 6 (fun _ => 0)) := by rw [hwi]; exact wc_agetN hlen (j := 6) rfl rfl
  have h79 : wi[79]? = some (cI 0 6 (fun _ => 0)) := by rw [hwi]; exact wc_agetN hlen (j := 7) rfl rfl
  have h80 : wi[80]? = some (cI 0 6 (fun _ => 0)) := by rw [hwi]; exact wc_agetN hlen (j := 8) rfl rfl
  have h81 : wi[81]? = some (cI 0 6 (fun _ => 0)) := by rw [hwi]; exact wc_agetN hlen (j := 9) rfl rfl
  have h82 : wi[82]? = some (cI 0 72 (fun _ => 0)) := by rw [hwi]; exact wc_agetN hlen (j := 10) rfl rfl
  have h83 : wi[83]? = some (cI 0 6 (fun _ => 0)) := by rw [hwi]; exact wc_agetN hlen (j := 11) rfl rfl
  have h84 : wi[84]? = some (cI 0 3 (fun _ => 0)) := by rw [hwi]; exact wc_agetN hlen (j := 12) rfl rfl
  have h85 : wi[85]? = some (cO 2 [eI 0, eR (86), eR (87), eR (88), eR (89), eR (90), eR (91), eR (92), eI 0, eI 0, eI 0, eI 0, eI 0, eI 0]) := by rw [hwi]; exact wc_agetN hlen (j := 13) rfl rfl
  have h86 : wi[86]? = some (cI 0 6 (fun _ => 0)) := by rw [hwi]; exact wc_agetN hlen (j := 14) rfl rfl
  have h87 : wi[87]? = some (cI 0 6 (fun _ => 0)) := by rw [hwi]; exact wc_agetN hlen (j := 15) rfl rfl
  have h88 : wi[88]? = some (cI 0 6 (fun _ => 0)) := by rw [hwi]; exact wc_agetN hlen (j := 16) rfl rfl
  have h89 : wi[89]? = some (cI 0 6 (fun _ => 0)) := by rw [hwi]; exact wc_agetN hlen (j := 17) rfl rfl
  have h90 : wi[90]? = some (cI 0 72 (fun _ => 0)) := by rw [hwi]; exact wc_agetN hlen (j := 18) rfl rfl
  have h91 : wi[91]? = some (cI 0 6 (fun _ => 0)) := by rw [hwi]; exact wc_agetN hlen (j := 19) rfl rfl
  have h92 : wi[92]? = some (cI 0 3 (fun _ => 0)) := by rw [hwi]; exact wc_agetN hlen (j := 20) rfl rfl
  have h93 : wi[93]? = some (cO 3 [eI 0, eR (94)]) := by rw [hwi]; exact wc_agetN hlen (j := 21) rfl rfl
  have h94 : wi[94]? = some (cI 0 200 (fun _ => 0)) := by rw [hwi]; exact wc_agetN hlen (j := 22) rfl rfl
  have h95 : wi[95]? = some (cO 3 [eI 0, eR (96)]) := by rw [hwi]; exact wc_agetN hlen (j := 23) rfl rfl
  have h96 : wi[96]? = some (cI 0 200 (fun _ => 0)) := by rw [hwi]; exact wc_agetN hlen (j := 24) rfl rfl
  have h97 : wi[97]? = some (cO 3 [eI 0, eR (98)]) := by rw [hwi]; exact wc_agetN hlen (j := 25) rfl rfl
  have h98 : wi[98]? = some (cI 0 200 (fun _ => 0)) := by rw [hwi]; exact wc_agetN hlen (j := 26) rfl rfl
  have h99 : wi[99]? = some (cO 3 [eI 0, eR (100)]) := by rw [hwi]; exact wc_agetN hlen (j := 27) rfl rfl
  have h100 : wi[100]? = some (cI 0 200 (fun _ => 0)) := by rw [hwi]; exact wc_agetN hlen (j := 28) rfl rfl
  have h101 : wi[101]? = some (cO 3 [eI 0, eR (102)]) := by rw [hwi]; exact wc_agetN hlen (j := 29) rfl rfl
  have h102 : wi[102]? = some (cI 0 200 (fun _ => 0)) := by rw [hwi]; exact wc_agetN hlen (j := 30) rfl rfl
  have h103 : wi[103]? = some (cO 3 [eI 0, eR (104)]) := by rw [hwi]; exact wc_agetN hlen (j := 31) rfl rfl
  have h104 : wi[104]? = some (cI 0 200 (fun _ => 0)) := by rw [hwi]; exact wc_agetN hlen (j := 32) rfl rfl
  have h105 : wi[105]? = some (cO 3 [eI 0, eR (106)]) := by rw [hwi]; exact wc_agetN hlen (j := 33) rfl rfl
  have h106 : wi[106]? = some (cI 0 200 (fun _ => 0)) := by rw [hwi]; exact wc_agetN hlen (j := 34) rfl rfl
  have h107 : wi[107]? = some (cO 3 [eI 0, eR (108)]) := by rw [hwi]; exact wc_agetN hlen (j := 35) rfl rfl
  have h108 : wi[108]? = some (cI 0 200 (fun _ => 0)) := by rw [hwi]; exact wc_agetN hlen (j := 36) rfl rfl
  have h109 : wi[109]? = some (cO 3 [eI 0, eR (110)]) := by rw [hwi]; exact wc_agetN hlen (j := 37) rfl rfl
  have h110 : wi[110]? = some (cI 0 200 (fun _ => 0)) := by rw [hwi]; exact wc_agetN hlen (j := 38) rfl rfl
  have h111 : wi[111]? = some (cO 3 [eI 0, eR (112)]) := by rw [hwi]; exact wc_agetN hlen (j := 39) rfl rfl
  have h112 : wi[112]? = some (cI 0 200 (fun _ => 0)) := by rw [hwi]; exact wc_agetN hlen (j := 40) rfl rfl
  have hS : wc_same [42, 72, 73, 74, 75, 76, 77, 78, 79, 80, 81, 82, 83, 84, 85, 86, 87, 88, 89, 90, 91, 92, 93, 94, 95, 96, 97, 98, 99, 100, 101, 102, 103, 104, 105, 106, 107, 108, 109, 110, 111, 112] w wi := fun j hj => by
    by_cases h : j < 72
    · exact hold j h
    · have h2 : 113 ≤ j := by simp only [List.mem_cons, List.not_mem_nil, or_false, not_or] at hj; omega
      rw [List.getElem?_eq_none (by rw [hwi, List.length_append, hlen]; show 72 + 41 ≤ j; omega), List.getElem?_eq_none (by omega)]
  refine ww_goto (tgt := 40) K dX6_image_31 rfl ?_
  refine ww_astore_n (ls2 := [some (eR (0)), some (eI (0)), some (eR (72))]) K dX6_image_40 (by decide) rfl ?_
  refine ww_aload_n K dX6_image_41 rfl ?_
  refine ww_aload_n K dX6_image_42 rfl ?_
  refine ww_get K dX6_image_43 lf_X6_10 h0 rfl ?_
  refine ww_xVv K dX6_image_46 lc_X6_125 h72 ⟨_, rfl, rfl⟩ (ct_X5_copyTold_72_1 G l h72 h73 h74 h75 h76 h77 h78 h79 h80 h81 h82 h83 h84 h85 h86 h87 h88 h89 h90 h91 h92 h93 h94 h95 h96 h97 h98 h99 h100 h101 h102 h103 h104 h105 h106 h107 h108 h109 h110 h111 h112 h1 h2 h3 h4 h5 h6 h7 h8 h9 h10 h11 h12 h13 h14 h15 h16 h17 h18 h19 h20 h21 h22 h23 h24 h25 h26 h27 h28 h29 h30 h31 h32 h33 h34 h35 h36 h37 h38 h39 h40 h41) rfl ⟨Nat.le_of_ble_eq_true rfl, Nat.le_of_ble_eq_true rfl⟩ (Nat.le_of_ble_eq_true rfl) (fun w1 hq hln_w1 => ?_)
  obtain ⟨h72, hsm⟩ := hq
  have h0 := hsm.keep h0 (by decide)
  have h1 := hsm.keep h1 (by decide)
  have h2 := hsm.keep h2 (by decide)
  have h3 := hsm.keep h3 (by decide)
  have h4 := hsm.keep h4 (by decide)
  have h5 := hsm.keep h5 (by decide)
  have h6 := hsm.keep h6 (by decide)
  have h7 := hsm.keep h7 (by decide)
  have h8 := hsm.keep h8 (by decide)
  have h9 := hsm.keep h9 (by decide)
  have h10 := hsm.keep h10 (by decide)
  have h11 := hsm.keep h11 (by decide)
  have h12 := hsm.keep h12 (by decide)
  have h13 := hsm.keep h13 (by decide)
  have h14 := hsm.keep h14 (by decide)
  have h15 := hsm.keep h15 (by decide)
  have h16 := hsm.keep h16 (by decide)
  have h17 := hsm.keep h17 (by decide)
  have h18 := hsm.keep h18 (by decide)
  have h19 := hsm.keep h19 (by decide)
  have h20 := hsm.keep h20 (by decide)
  have h21 := hsm.keep h21 (by decide)
  have h22 := hsm.keep h22 (by decide)
  have h23 := hsm.keep h23 (by decide)
  have h24 := hsm.keep h24 (by decide)
  have h25 := hsm.keep h25 (by decide)
  have h26 := hsm.keep h26 (by decide)
  have h27 := hsm.keep h27 (by decide)
  have h28 := hsm.keep h28 (by decide)
  have h29 := hsm.keep h29 (by decide)
  have h30 := hsm.keep h30 (by decide)
  have h31 := hsm.keep h31 (by decide)
  have h32 := hsm.keep h32 (by decide)
  have h33 := hsm.keep h33 (by decide)
  have h34 := hsm.keep h34 (by decide)
  have h35 := hsm.keep h35 (by decide)
  have h36 := hsm.keep h36 (by decide)
  have h37 := hsm.keep h37 (by decide)
  have h38 := hsm.keep h38 (by decide)
  have h39 := hsm.keep h39 (by decide)
  have h40 := hsm.keep h40 (by decide)
  have h41 := hsm.keep h41 (by decide)
  have h42 := hsm.keep h42 (by decide)
  have hS := hS.call hsm (by decide)
  refine ww_aload_n K dX6_image_49 rfl ?_
  refine ww_get K dX6_image_50 lf_X6_16 h0 rfl ?_
  refine ww_iload_n K dX6_image_53 rfl ?_
  refine ww_aload_n K dX6_image_54 rfl ?_
  refine ww_aast4 K dX6_image_55 h42 h72 (wc_vin (by decide)) ?_
  have hS2 : ∀ d, wc_same [42, 72, 73, 74, 75, 76, 77, 78, 79, 80, 81, 82, 83, 84, 85, 86, 87, 88, 89, 90, 91, 92, 93, 94, 95, 96, 97, 98, 99, 100, 101, 102, 103, 104, 105, 106, 107, 108, 109, 110, 111, 112] w (w1.set 42 d) := fun d => hS.put (k := 42) (by decide) wc_set_ne
  refine ww_iconst (v := 1) K dX6_image_56 rfl ?_
  exact ww_zret K rfl dX6_image_57 hr ⟨_, rfl, rfl, hS2 _⟩
set_option maxRecDepth 100000 in
set_option maxHeartbeats 4000000 in
theorem ct_X6_image_1 (G : EG) (l : Launch) {w : EW} (hlen : w.length = 72) (h0 : w[0]? = some (cO 6 [eR (1), eR (42), eR (43), eR (56), eR (60), eR (61), eR (62), eR (63)])) (h1 : w[1]? = some (cO 5 [eR (2), eI (0), eI (0), eI ((-1)), eR (3), eR (4), eR (5)])) (h2 : w[2]? = some (cI 0 600 (fun _ => 0))) (h3 : w[3]? = some (cI 0 6 (fun _ => 0))) (h4 : w[4]? = some (cQ 2 2 (va_up (va_up (fun _ => none) 0 (some 6)) 1 (some 14)))) (h5 : w[5]? = some (cQ 3 10 (va_up (va_up (va_up (va_up (va_up (va_up (va_up (va_up (va_up (va_up (fun _ => none) 0 (some 22)) 1 (some 24)) 2 (some 26)) 3 (some 28)) 4 (some 30)) 5 (some 32)) 6 (some 34)) 7 (some 36)) 8 (some 38)) 9 (some 40)))) (h6 : w[6]? = some (cO 2 [eI (0), eR (7), eR (8), eR (9), eR (10), eR (11), eR (12), eR (13), eI (0), eI (0), eI (0), eI (0), eI (0), eI (0)])) (h7 : w[7]? = some (cI 0 6 (fun _ => 0))) (h8 : w[8]? = some (cI 0 6 (fun _ => 0))) (h9 : w[9]? = some (cI 0 6 (fun _ => 0))) (h10 : w[10]? = some (cI 0 6 (fun _ => 0))) (h11 : w[11]? = some (cI 0 72 (fun _ => 0))) (h12 : w[12]? = some (cI 0 6 (fun _ => 0))) (h13 : w[13]? = some (cI 0 3 (fun _ => 0))) (h14 : w[14]? = some (cO 2 [eI (0), eR (15), eR (16), eR (17), eR (18), eR (19), eR (20), eR (21), eI (0), eI (0), eI (0), eI (0), eI (0), eI (0)])) (h15 : w[15]? = some (cI 0 6 (fun _ => 0))) (h16 : w[16]? = some (cI 0 6 (fun _ => 0))) (h17 : w[17]? = some (cI 0 6 (fun _ => 0))) (h18 : w[18]? = some (cI 0 6 (fun _ => 0))) (h19 : w[19]? = some (cI 0 72 (fun _ => 0))) (h20 : w[20]? = some (cI 0 6 (fun _ => 0))) (h21 : w[21]? = some (cI 0 3 (fun _ => 0))) (h22 : w[22]? = some (cO 3 [eI (0), eR (23)])) (h23 : w[23]? = some (cI 0 200 (fun _ => 0))) (h24 : w[24]? = some (cO 3 [eI (0), eR (25)])) (h25 : w[25]? = some (cI 0 200 (fun _ => 0))) (h26 : w[26]? = some (cO 3 [eI (0), eR (27)])) (h27 : w[27]? = some (cI 0 200 (fun _ => 0))) (h28 : w[28]? = some (cO 3 [eI (0), eR (29)])) (h29 : w[29]? = some (cI 0 200 (fun _ => 0))) (h30 : w[30]? = some (cO 3 [eI (0), eR (31)])) (h31 : w[31]? = some (cI 0 200 (fun _ => 0))) (h32 : w[32]? = some (cO 3 [eI (0), eR (33)])) (h33 : w[33]? = some (cI 0 200 (fun _ => 0))) (h34 : w[34]? = some (cO 3 [eI (0), eR (35)])) (h35 : w[35]? = some (cI 0 200 (fun _ => 0))) (h36 : w[36]? = some (cO 3 [eI (0), eR (37)])) (h37 : w[37]? = some (cI 0 200 (fun _ => 0))) (h38 : w[38]? = some (cO 3 [eI (0), eR (39)])) (h39 : w[39]? = some (cI 0 200 (fun _ => 0))) (h40 : w[40]? = some (cO 3 [eI (0), eR (41)])) (h41 : w[41]? = some (cI 0 200 (fun _ => 0))) (h42 : w[42]? = some (cQ 4 3 (fun _ => none))) : Ct G l yX6_image cX6_image 3 (some .boolean) 4 41 2883 [eR (0), eI (1)] w (fun r w2 => (∃ x : Int32, r = some (eI x) ∧ (x = 1 ∧ wc_same [42, 72, 73, 74, 75, 76, 77, 78, 79, 80, 81, 82, 83, 84, 85, 86, 87, 88, 89, 90, 91, 92, 93, 94, 95, 96, 97, 98, 99, 100, 101, 102, 103, 104, 105, 106, 107, 108, 109, 110, 111, 112] w w2))) := by
  refine Ct_of (by decide +kernel) (Nat.le_of_ble_eq_true rfl) ?_
  intro p_ e_ s_ m_ a_ b_ t_ c_ K0 hr hin
  have K : wc_C p_ s_ m_ a_ t_ c_ G RX6 cX6_image 3 w.length := K0
  clear K0
  refine WW_ls (ls2 := [some (eR (0)), some (eI (1)), none]) rfl ?_
  have hS : wc_same [42, 72, 73, 74, 75, 76, 77, 78, 79, 80, 81, 82, 83, 84, 85, 86, 87, 88, 89, 90, 91, 92, 93, 94, 95, 96, 97, 98, 99, 100, 101, 102, 103, 104, 105, 106, 107, 108, 109, 110, 111, 112] w w := wc_same.rf
  refine ww_iload_n K dX6_image_0 rfl ?_
  refine ww_if_lt (tgt := 13) K dX6_image_1 rfl (fun cc_ => absurd cc_ (by decide)) (fun _ => ?_)
  refine ww_iload_n K dX6_image_4 rfl ?_
  refine ww_aload_n K dX6_image_5 rfl ?_
  refine ww_get K dX6_image_6 lf_X6_16 h0 rfl ?_
  refine ww_alenq K dX6_image_9 h42 (by decide) ?_
  rw [show Int32.ofNat 3 = 3 from rfl]
  refine ww_icmp_lt (tgt := 15) K dX6_image_10 rfl (fun _ => ?_) (fun cc_ => absurd cc_ (by decide))
  refine ww_aload_n K dX6_image_15 rfl ?_
  refine ww_get K dX6_image_16 lf_X6_16 h0 rfl ?_
  refine ww_iload_n K dX6_image_19 rfl ?_
  refine ww_aald4 K dX6_image_20 h42 (wc_vin (by decide)) ?_
  refine ww_ifnonnullN K dX6_image_21 ?_
  refine ww_new (rc := 40) (rs := 2876) K dX6_image_24 ln_X6_7 ?_
  refine ww_dup K dX6_image_27 trivial ?_
  refine ww_callI (rc := 0) (rs := 0) K dX6_image_28 lc_X6_9 (ct_X5_init G l (w0 := w) (n := w.length) rfl) rfl ⟨Nat.le_of_ble_eq_true rfl, Nat.le_of_ble_eq_true rfl⟩ (Nat.le_of_ble_eq_true rfl) (fun r w2 hq _ _ => ?_)
  obtain ⟨rfl, rfl⟩ := hq
  refine WW_all (ls2 := [some (eR (0)), some (eI (1)), none]) (st2 := [eR 72]) (w2 := w ++ [cO 5 [eR (73), eI 0, eI 0, eI ((-1)), eR (74), eR (75), eR (76)], cI 0 600 (fun _ => 0), cI 0 6 (fun _ => 0), cQ 2 2 (va_up (va_up (fun _ => none) 0 (some 77)) 1 (some 85)), cQ 3 10 (va_up (va_up (va_up (va_up (va_up (va_up (va_up (va_up (va_up (va_up (fun _ => none) 0 (some 93)) 1 (some 95)) 2 (some 97)) 3 (some 99)) 4 (some 101)) 5 (some 103)) 6 (some 105)) 7 (some 107)) 8 (some 109)) 9 (some 111)), cO 2 [eI 0, eR (78), eR (79), eR (80), eR (81), eR (82), eR (83), eR (84), eI 0, eI 0, eI 0, eI 0, eI 0, eI 0], cI 0 6 (fun _ => 0), cI 0 6 (fun _ => 0), cI 0 6 (fun _ => 0), cI 0 6 (fun _ => 0), cI 0 72 (fun _ => 0), cI 0 6 (fun _ => 0), cI 0 3 (fun _ => 0), cO 2 [eI 0, eR (86), eR (87), eR (88), eR (89), eR (90), eR (91), eR (92), eI 0, eI 0, eI 0, eI 0, eI 0, eI 0], cI 0 6 (fun _ => 0), cI 0 6 (fun _ => 0), cI 0 6 (fun _ => 0), cI 0 6 (fun _ => 0), cI 0 72 (fun _ => 0), cI 0 6 (fun _ => 0), cI 0 3 (fun _ => 0), cO 3 [eI 0, eR (94)], cI 0 200 (fun _ => 0), cO 3 [eI 0, eR (96)], cI 0 200 (fun _ => 0), cO 3 [eI 0, eR (98)], cI 0 200 (fun _ => 0), cO 3 [eI 0, eR (100)], cI 0 200 (fun _ => 0), cO 3 [eI 0, eR (102)], cI 0 200 (fun _ => 0), cO 3 [eI 0, eR (104)], cI 0 200 (fun _ => 0), cO 3 [eI 0, eR (106)], cI 0 200 (fun _ => 0), cO 3 [eI 0, eR (108)], cI 0 200 (fun _ => 0), cO 3 [eI 0, eR (110)], cI 0 200 (fun _ => 0), cO 3 [eI 0, eR (112)], cI 0 200 (fun _ => 0)]) rfl (by rw [hlen]; rfl) (by rw [hlen]) ?_
  obtain ⟨wi, hwi⟩ : ∃ z, z = w ++ [cO 5 [eR (73), eI 0, eI 0, eI ((-1)), eR (74), eR (75), eR (76)], cI 0 600 (fun _ => 0), cI 0 6 (fun _ => 0), cQ 2 2 (va_up (va_up (fun _ => none) 0 (some 77)) 1 (some 85)), cQ 3 10 (va_up (va_up (va_up (va_up (va_up (va_up (va_up (va_up (va_up (va_up (fun _ => none) 0 (some 93)) 1 (some 95)) 2 (some 97)) 3 (some 99)) 4 (some 101)) 5 (some 103)) 6 (some 105)) 7 (some 107)) 8 (some 109)) 9 (some 111)), cO 2 [eI 0, eR (78), eR (79), eR (80), eR (81), eR (82), eR (83), eR (84), eI 0, eI 0, eI 0, eI 0, eI 0, eI 0], cI 0 6 (fun _ => 0), cI 0 6 (fun _ => 0), cI 0 6 (fun _ => 0), cI 0 6 (fun _ => 0), cI 0 72 (fun _ => 0), cI 0 6 (fun _ => 0), cI 0 3 (fun _ => 0), cO 2 [eI 0, eR (86), eR (87), eR (88), eR (89), eR (90), eR (91), eR (92), eI 0, eI 0, eI 0, eI 0, eI 0, eI 0], cI 0 6 (fun _ => 0), cI 0 6 (fun _ => 0), cI 0 6 (fun _ => 0), cI 0 6 (fun _ => 0), cI 0 72 (fun _ => 0), cI 0 6 (fun _ => 0), cI 0 3 (fun _ => 0), cO 3 [eI 0, eR (94)], cI 0 200 (fun _ => 0), cO 3 [eI 0, eR (96)], cI 0 200 (fun _ => 0), cO 3 [eI 0, eR (98)], cI 0 200 (fun _ => 0), cO 3 [eI 0, eR (100)], cI 0 200 (fun _ => 0), cO 3 [eI 0, eR (102)], cI 0 200 (fun _ => 0), cO 3 [eI 0, eR (104)], cI 0 200 (fun _ => 0), cO 3 [eI 0, eR (106)], cI 0 200 (fun _ => 0), cO 3 [eI 0, eR (108)], cI 0 200 (fun _ => 0), cO 3 [eI 0, eR (110)], cI 0 200 (fun _ => 0), cO 3 [eI 0, eR (112)], cI 0 200 (fun _ => 0)] := ⟨_, rfl⟩
  rw [← hwi]
  have hold : ∀ j : Nat, j < 72 → wi[j]? = w[j]? := fun j hj => by rw [hwi, List.getElem?_append_left (by omega)]
  have h0 := (hold 0 (by decide)).trans h0
  have h1 := (hold 1 (by decide)).trans h1
  have h2 := (hold 2 (by decide)).trans h2
  have h3 := (hold 3 (by decide)).trans h3
  have h4 := (hold 4 (by decide)).trans h4
  have h5 := (hold 5 (by decide)).trans h5
  have h6 := (hold 6 (by decide)).trans h6
  have h7 := (hold 7 (by decide)).trans h7
  have h8 := (hold 8 (by decide)).trans h8
  have h9 := (hold 9 (by decide)).trans h9
  have h10 := (hold 10 (by decide)).trans h10
  have h11 := (hold 11 (by decide)).trans h11
  have h12 := (hold 12 (by decide)).trans h12
  have h13 := (hold 13 (by decide)).trans h13
  have h14 := (hold 14 (by decide)).trans h14
  have h15 := (hold 15 (by decide)).trans h15
  have h16 := (hold 16 (by decide)).trans h16
  have h17 := (hold 17 (by decide)).trans h17
  have h18 := (hold 18 (by decide)).trans h18
  have h19 := (hold 19 (by decide)).trans h19
  have h20 := (hold 20 (by decide)).trans h20
  have h21 := (hold 21 (by decide)).trans h21
  have h22 := (hold 22 (by decide)).trans h22
  have h23 := (hold 23 (by decide)).trans h23
  have h24 := (hold 24 (by decide)).trans h24
  have h25 := (hold 25 (by decide)).trans h25
  have h26 := (hold 26 (by decide)).trans h26
  have h27 := (hold 27 (by decide)).trans h27
  have h28 := (hold 28 (by decide)).trans h28
  have h29 := (hold 29 (by decide)).trans h29
  have h30 := (hold 30 (by decide)).trans h30
  have h31 := (hold 31 (by decide)).trans h31
  have h32 := (hold 32 (by decide)).trans h32
  have h33 := (hold 33 (by decide)).trans h33
  have h34 := (hold 34 (by decide)).trans h34
  have h35 := (hold 35 (by decide)).trans h35
  have h36 := (hold 36 (by decide)).trans h36
  have h37 := (hold 37 (by decide)).trans h37
  have h38 := (hold 38 (by decide)).trans h38
  have h39 := (hold 39 (by decide)).trans h39
  have h40 := (hold 40 (by decide)).trans h40
  have h41 := (hold 41 (by decide)).trans h41
  have h42 := (hold 42 (by decide)).trans h42
  have h72 : wi[72]? = some (cO 5 [eR (73), eI 0, eI 0, eI ((-1)), eR (74), eR (75), eR (76)]) := by rw [hwi]; exact wc_agetN hlen (j := 0) rfl rfl
  have h73 : wi[73]? = some (cI 0 600 (fun _ => 0)) := by rw [hwi]; exact wc_agetN hlen (j := 1) rfl rfl
  have h74 : wi[74]? = some (cI 0 6 (fun _ => 0)) := by rw [hwi]; exact wc_agetN hlen (j := 2) rfl rfl
  have h75 : wi[75]? = some (cQ 2 2 (va_up (va_up (fun _ => none) 0 (some 77)) 1 (some 85))) := by rw [hwi]; exact wc_agetN hlen (j := 3) rfl rfl
  have h76 : wi[76]? = some (cQ 3 10 (va_up (va_up (va_up (va_up (va_up (va_up (va_up (va_up (va_up (va_up (fun _ => none) 0 (some 93)) 1 (some 95)) 2 (some 97)) 3 (some 99)) 4 (some 101)) 5 (some 103)) 6 (some 105)) 7 (some 107)) 8 (some 109)) 9 (some 111))) := by rw [hwi]; exact wc_agetN hlen (j := 4) rfl rfl
  have h77 : wi[77]? = some (cO 2 [eI 0, eR (78), eR (79), eR (80), eR (81), eR (82), eR (83), eR (84), eI 0, eI 0, eI 0, eI 0, eI 0, eI 0]) := by rw [hwi]; exact wc_agetN hlen (j := 5) rfl rfl
  have h78 : wi[78]? = some (cI 0 6 (fun _ => 0)) := by rw [hwi]; exact wc_agetN hlen (j := 6) rfl rfl
  have h79 : wi[79]? = some (cI 0 6 (fun _ => 0)) := by rw [hwi]; exact wc_agetN hlen (j := 7) rfl rfl
  have h80 : wi[80]? = some (cI 0 6 (fun _ => 0)) := by rw [hwi]; exact wc_agetN hlen (j := 8) rfl rfl
  have h81 : wi[81]? = some (cI 0 6 (fun _ => 0)) := by rw [hwi]; exact wc_agetN hlen (j := 9) rfl rfl
  have h82 : wi[82]? = some (cI 0 72 (fun _ => 0)) := by rw [hwi]; exact wc_agetN hlen (j := 10) rfl rfl
  have h83 : wi[83]? = some (cI 0 6 (fun _ => 0)) := by rw [hwi]; exact wc_agetN hlen (j := 11) rfl rfl
  have h84 : wi[84]? = some (cI 0 3 (fun _ => 0)) := by rw [hwi]; exact wc_agetN hlen (j := 12) rfl rfl
  have h85 : wi[85]? = some (cO 2 [eI 0, eR (86), eR (87), eR (88), eR (89), eR (90), eR (91), eR (92), eI 0, eI 0, eI 0, eI 0, eI 0, eI 0]) := by rw [hwi]; exact wc_agetN hlen (j := 13) rfl rfl
  have h86 : wi[86]? = some (cI 0 6 (fun _ => 0)) := by rw [hwi]; exact wc_agetN hlen (j := 14) rfl rfl
  have h87 : wi[87]? = some (cI 0 6 (fun _ => 0)) := by rw [hwi]; exact wc_agetN hlen (j := 15) rfl rfl
  have h88 : wi[88]? = some (cI 0 6 (fun _ => 0)) := by rw [hwi]; exact wc_agetN hlen (j := 16) rfl rfl
  have h89 : wi[89]? = some (cI 0 6 (fun _ => 0)) := by rw [hwi]; exact wc_agetN hlen (j := 17) rfl rfl
  have h90 : wi[90]? = some (cI 0 72 (fun _ => 0)) := by rw [hwi]; exact wc_agetN hlen (j := 18) rfl rfl
  have h91 : wi[91]? = some (cI 0 6 (fun _ => 0)) := by rw [hwi]; exact wc_agetN hlen (j := 19) rfl rfl
  have h92 : wi[92]? = some (cI 0 3 (fun _ => 0)) := by rw [hwi]; exact wc_agetN hlen (j := 20) rfl rfl
  have h93 : wi[93]? = some (cO 3 [eI 0, eR (94)]) := by rw [hwi]; exact wc_agetN hlen (j := 21) rfl rfl
  have h94 : wi[94]? = some (cI 0 200 (fun _ => 0)) := by rw [hwi]; exact wc_agetN hlen (j := 22) rfl rfl
  have h95 : wi[95]? = some (cO 3 [eI 0, eR (96)]) := by rw [hwi]; exact wc_agetN hlen (j := 23) rfl rfl
  have h96 : wi[96]? = some (cI 0 200 (fun _ => 0)) := by rw [hwi]; exact wc_agetN hlen (j := 24) rfl rfl
  have h97 : wi[97]? = some (cO 3 [eI 0, eR (98)]) := by rw [hwi]; exact wc_agetN hlen (j := 25) rfl rfl
  have h98 : wi[98]? = some (cI 0 200 (fun _ => 0)) := by rw [hwi]; exact wc_agetN hlen (j := 26) rfl rfl
  have h99 : wi[99]? = some (cO 3 [eI 0, eR (100)]) := by rw [hwi]; exact wc_agetN hlen (j := 27) rfl rfl
  have h100 : wi[100]? = some (cI 0 200 (fun _ => 0)) := by rw [hwi]; exact wc_agetN hlen (j := 28) rfl rfl
  have h101 : wi[101]? = some (cO 3 [eI 0, eR (102)]) := by rw [hwi]; exact wc_agetN hlen (j := 29) rfl rfl
  have h102 : wi[102]? = some (cI 0 200 (fun _ => 0)) := by rw [hwi]; exact wc_agetN hlen (j := 30) rfl rfl
  have h103 : wi[103]? = some (cO 3 [eI 0, eR (104)]) := by rw [hwi]; exact wc_agetN hlen (j := 31) rfl rfl
  have h104 : wi[104]? = some (cI 0 200 (fun _ => 0)) := by rw [hwi]; exact wc_agetN hlen (j := 32) rfl rfl
  have h105 : wi[105]? = some (cO 3 [eI 0, eR (106)]) := by rw [hwi]; exact wc_agetN hlen (j := 33) rfl rfl
  have h106 : wi[106]? = some (cI 0 200 (fun _ => 0)) := by rw [hwi]; exact wc_agetN hlen (j := 34) rfl rfl
  have h107 : wi[107]? = some (cO 3 [eI 0, eR (108)]) := by rw [hwi]; exact wc_agetN hlen (j := 35) rfl rfl
  have h108 : wi[108]? = some (cI 0 200 (fun _ => 0)) := by rw [hwi]; exact wc_agetN hlen (j := 36) rfl rfl
  have h109 : wi[109]? = some (cO 3 [eI 0, eR (110)]) := by rw [hwi]; exact wc_agetN hlen (j := 37) rfl rfl
  have h110 : wi[110]? = some (cI 0 200 (fun _ => 0)) := by rw [hwi]; exact wc_agetN hlen (j := 38) rfl rfl
  have h111 : wi[111]? = some (cO 3 [eI 0, eR (112)]) := by rw [hwi]; exact wc_agetN hlen (j := 39) rfl rfl
  have h112 : wi[112]? = some (cI 0 200 (fun _ => 0)) := by rw [hwi]; exact wc_agetN hlen (j := 40) rfl rfl
  have hS : wc_same [42, 72, 73, 74, 75, 76, 77, 78, 79, 80, 81, 82, 83, 84, 85, 86, 87, 88, 89, 90, 91, 92, 93, 94, 95, 96, 97, 98, 99, 100, 101, 102, 103, 104, 105, 106, 107, 108, 109, 110, 111, 112] w wi := fun j hj => by
    by_cases h : j < 72
    · exact hold j h
    · have h2 : 113 ≤ j := by simp only [List.mem_cons, List.not_mem_nil, or_false, not_or] at hj; omega
      rw [List.getElem?_eq_none (by rw [hwi, List.length_append, hlen]; show 72 + 41 ≤ j; omega), List.getElem?_eq_none (by omega)]
  refine ww_goto (tgt := 40) K dX6_image_31 rfl ?_
  refine ww_astore_n (ls2 := [some (eR (0)), some (eI (1)), some (eR (72))]) K dX6_image_40 (by decide) rfl ?_
  refine ww_aload_n K dX6_image_41 rfl ?_
  refine ww_aload_n K dX6_image_42 rfl ?_
  refine ww_get K dX6_image_43 lf_X6_10 h0 rfl ?_
  refine ww_xVv K dX6_image_46 lc_X6_125 h72 ⟨_, rfl, rfl⟩ (ct_X5_copyTold_72_1 G l h72 h73 h74 h75 h76 h77 h78 h79 h80 h81 h82 h83 h84 h85 h86 h87 h88 h89 h90 h91 h92 h93 h94 h95 h96 h97 h98 h99 h100 h101 h102 h103 h104 h105 h106 h107 h108 h109 h110 h111 h112 h1 h2 h3 h4 h5 h6 h7 h8 h9 h10 h11 h12 h13 h14 h15 h16 h17 h18 h19 h20 h21 h22 h23 h24 h25 h26 h27 h28 h29 h30 h31 h32 h33 h34 h35 h36 h37 h38 h39 h40 h41) rfl ⟨Nat.le_of_ble_eq_true rfl, Nat.le_of_ble_eq_true rfl⟩ (Nat.le_of_ble_eq_true rfl) (fun w1 hq hln_w1 => ?_)
  obtain ⟨h72, hsm⟩ := hq
  have h0 := hsm.keep h0 (by decide)
  have h1 := hsm.keep h1 (by decide)
  have h2 := hsm.keep h2 (by decide)
  have h3 := hsm.keep h3 (by decide)
  have h4 := hsm.keep h4 (by decide)
  have h5 := hsm.keep h5 (by decide)
  have h6 := hsm.keep h6 (by decide)
  have h7 := hsm.keep h7 (by decide)
  have h8 := hsm.keep h8 (by decide)
  have h9 := hsm.keep h9 (by decide)
  have h10 := hsm.keep h10 (by decide)
  have h11 := hsm.keep h11 (by decide)
  have h12 := hsm.keep h12 (by decide)
  have h13 := hsm.keep h13 (by decide)
  have h14 := hsm.keep h14 (by decide)
  have h15 := hsm.keep h15 (by decide)
  have h16 := hsm.keep h16 (by decide)
  have h17 := hsm.keep h17 (by decide)
  have h18 := hsm.keep h18 (by decide)
  have h19 := hsm.keep h19 (by decide)
  have h20 := hsm.keep h20 (by decide)
  have h21 := hsm.keep h21 (by decide)
  have h22 := hsm.keep h22 (by decide)
  have h23 := hsm.keep h23 (by decide)
  have h24 := hsm.keep h24 (by decide)
  have h25 := hsm.keep h25 (by decide)
  have h26 := hsm.keep h26 (by decide)
  have h27 := hsm.keep h27 (by decide)
  have h28 := hsm.keep h28 (by decide)
  have h29 := hsm.keep h29 (by decide)
  have h30 := hsm.keep h30 (by decide)
  have h31 := hsm.keep h31 (by decide)
  have h32 := hsm.keep h32 (by decide)
  have h33 := hsm.keep h33 (by decide)
  have h34 := hsm.keep h34 (by decide)
  have h35 := hsm.keep h35 (by decide)
  have h36 := hsm.keep h36 (by decide)
  have h37 := hsm.keep h37 (by decide)
  have h38 := hsm.keep h38 (by decide)
  have h39 := hsm.keep h39 (by decide)
  have h40 := hsm.keep h40 (by decide)
  have h41 := hsm.keep h41 (by decide)
  have h42 := hsm.keep h42 (by decide)
  have hS := hS.call hsm (by decide)
  refine ww_aload_n K dX6_image_49 rfl ?_
  refine ww_get K dX6_image_50 lf_X6_16 h0 rfl ?_
  refine ww_iload_n K dX6_image_53 rfl ?_
  refine ww_aload_n K dX6_image_54 rfl ?_
  refine ww_aast4 K dX6_image_55 h42 h72 (wc_vin (by decide)) ?_
  have hS2 : ∀ d, wc_same [42, 72, 73, 74, 75, 76, 77, 78, 79, 80, 81, 82, 83, 84, 85, 86, 87, 88, 89, 90, 91, 92, 93, 94, 95, 96, 97, 98, 99, 100, 101, 102, 103, 104, 105, 106, 107, 108, 109, 110, 111, 112] w (w1.set 42 d) := fun d => hS.put (k := 42) (by decide) wc_set_ne
  refine ww_iconst (v := 1) K dX6_image_56 rfl ?_
  exact ww_zret K rfl dX6_image_57 hr ⟨_, rfl, rfl, hS2 _⟩
set_option maxRecDepth 100000 in
set_option maxHeartbeats 4000000 in
theorem ct_X6_image_2 (G : EG) (l : Launch) {w : EW} (hlen : w.length = 72) (h0 : w[0]? = some (cO 6 [eR (1), eR (42), eR (43), eR (56), eR (60), eR (61), eR (62), eR (63)])) (h1 : w[1]? = some (cO 5 [eR (2), eI (0), eI (0), eI ((-1)), eR (3), eR (4), eR (5)])) (h2 : w[2]? = some (cI 0 600 (fun _ => 0))) (h3 : w[3]? = some (cI 0 6 (fun _ => 0))) (h4 : w[4]? = some (cQ 2 2 (va_up (va_up (fun _ => none) 0 (some 6)) 1 (some 14)))) (h5 : w[5]? = some (cQ 3 10 (va_up (va_up (va_up (va_up (va_up (va_up (va_up (va_up (va_up (va_up (fun _ => none) 0 (some 22)) 1 (some 24)) 2 (some 26)) 3 (some 28)) 4 (some 30)) 5 (some 32)) 6 (some 34)) 7 (some 36)) 8 (some 38)) 9 (some 40)))) (h6 : w[6]? = some (cO 2 [eI (0), eR (7), eR (8), eR (9), eR (10), eR (11), eR (12), eR (13), eI (0), eI (0), eI (0), eI (0), eI (0), eI (0)])) (h7 : w[7]? = some (cI 0 6 (fun _ => 0))) (h8 : w[8]? = some (cI 0 6 (fun _ => 0))) (h9 : w[9]? = some (cI 0 6 (fun _ => 0))) (h10 : w[10]? = some (cI 0 6 (fun _ => 0))) (h11 : w[11]? = some (cI 0 72 (fun _ => 0))) (h12 : w[12]? = some (cI 0 6 (fun _ => 0))) (h13 : w[13]? = some (cI 0 3 (fun _ => 0))) (h14 : w[14]? = some (cO 2 [eI (0), eR (15), eR (16), eR (17), eR (18), eR (19), eR (20), eR (21), eI (0), eI (0), eI (0), eI (0), eI (0), eI (0)])) (h15 : w[15]? = some (cI 0 6 (fun _ => 0))) (h16 : w[16]? = some (cI 0 6 (fun _ => 0))) (h17 : w[17]? = some (cI 0 6 (fun _ => 0))) (h18 : w[18]? = some (cI 0 6 (fun _ => 0))) (h19 : w[19]? = some (cI 0 72 (fun _ => 0))) (h20 : w[20]? = some (cI 0 6 (fun _ => 0))) (h21 : w[21]? = some (cI 0 3 (fun _ => 0))) (h22 : w[22]? = some (cO 3 [eI (0), eR (23)])) (h23 : w[23]? = some (cI 0 200 (fun _ => 0))) (h24 : w[24]? = some (cO 3 [eI (0), eR (25)])) (h25 : w[25]? = some (cI 0 200 (fun _ => 0))) (h26 : w[26]? = some (cO 3 [eI (0), eR (27)])) (h27 : w[27]? = some (cI 0 200 (fun _ => 0))) (h28 : w[28]? = some (cO 3 [eI (0), eR (29)])) (h29 : w[29]? = some (cI 0 200 (fun _ => 0))) (h30 : w[30]? = some (cO 3 [eI (0), eR (31)])) (h31 : w[31]? = some (cI 0 200 (fun _ => 0))) (h32 : w[32]? = some (cO 3 [eI (0), eR (33)])) (h33 : w[33]? = some (cI 0 200 (fun _ => 0))) (h34 : w[34]? = some (cO 3 [eI (0), eR (35)])) (h35 : w[35]? = some (cI 0 200 (fun _ => 0))) (h36 : w[36]? = some (cO 3 [eI (0), eR (37)])) (h37 : w[37]? = some (cI 0 200 (fun _ => 0))) (h38 : w[38]? = some (cO 3 [eI (0), eR (39)])) (h39 : w[39]? = some (cI 0 200 (fun _ => 0))) (h40 : w[40]? = some (cO 3 [eI (0), eR (41)])) (h41 : w[41]? = some (cI 0 200 (fun _ => 0))) (h42 : w[42]? = some (cQ 4 3 (fun _ => none))) : Ct G l yX6_image cX6_image 3 (some .boolean) 4 41 2883 [eR (0), eI (2)] w (fun r w2 => (∃ x : Int32, r = some (eI x) ∧ (x = 1 ∧ wc_same [42, 72, 73, 74, 75, 76, 77, 78, 79, 80, 81, 82, 83, 84, 85, 86, 87, 88, 89, 90, 91, 92, 93, 94, 95, 96, 97, 98, 99, 100, 101, 102, 103, 104, 105, 106, 107, 108, 109, 110, 111, 112] w w2))) := by
  refine Ct_of (by decide +kernel) (Nat.le_of_ble_eq_true rfl) ?_
  intro p_ e_ s_ m_ a_ b_ t_ c_ K0 hr hin
  have K : wc_C p_ s_ m_ a_ t_ c_ G RX6 cX6_image 3 w.length := K0
  clear K0
  refine WW_ls (ls2 := [some (eR (0)), some (eI (2)), none]) rfl ?_
  have hS : wc_same [42, 72, 73, 74, 75, 76, 77, 78, 79, 80, 81, 82, 83, 84, 85, 86, 87, 88, 89, 90, 91, 92, 93, 94, 95, 96, 97, 98, 99, 100, 101, 102, 103, 104, 105, 106, 107, 108, 109, 110, 111, 112] w w := wc_same.rf
  refine ww_iload_n K dX6_image_0 rfl ?_
  refine ww_if_lt (tgt := 13) K dX6_image_1 rfl (fun cc_ => absurd cc_ (by decide)) (fun _ => ?_)
  refine ww_iload_n K dX6_image_4 rfl ?_
  refine ww_aload_n K dX6_image_5 rfl ?_
  refine ww_get K dX6_image_6 lf_X6_16 h0 rfl ?_
  refine ww_alenq K dX6_image_9 h42 (by decide) ?_
  rw [show Int32.ofNat 3 = 3 from rfl]
  refine ww_icmp_lt (tgt := 15) K dX6_image_10 rfl (fun _ => ?_) (fun cc_ => absurd cc_ (by decide))
  refine ww_aload_n K dX6_image_15 rfl ?_
  refine ww_get K dX6_image_16 lf_X6_16 h0 rfl ?_
  refine ww_iload_n K dX6_image_19 rfl ?_
  refine ww_aald4 K dX6_image_20 h42 (wc_vin (by decide)) ?_
  refine ww_ifnonnullN K dX6_image_21 ?_
  refine ww_new (rc := 40) (rs := 2876) K dX6_image_24 ln_X6_7 ?_
  refine ww_dup K dX6_image_27 trivial ?_
  refine ww_callI (rc := 0) (rs := 0) K dX6_image_28 lc_X6_9 (ct_X5_init G l (w0 := w) (n := w.length) rfl) rfl ⟨Nat.le_of_ble_eq_true rfl, Nat.le_of_ble_eq_true rfl⟩ (Nat.le_of_ble_eq_true rfl) (fun r w2 hq _ _ => ?_)
  obtain ⟨rfl, rfl⟩ := hq
  refine WW_all (ls2 := [some (eR (0)), some (eI (2)), none]) (st2 := [eR 72]) (w2 := w ++ [cO 5 [eR (73), eI 0, eI 0, eI ((-1)), eR (74), eR (75), eR (76)], cI 0 600 (fun _ => 0), cI 0 6 (fun _ => 0), cQ 2 2 (va_up (va_up (fun _ => none) 0 (some 77)) 1 (some 85)), cQ 3 10 (va_up (va_up (va_up (va_up (va_up (va_up (va_up (va_up (va_up (va_up (fun _ => none) 0 (some 93)) 1 (some 95)) 2 (some 97)) 3 (some 99)) 4 (some 101)) 5 (some 103)) 6 (some 105)) 7 (some 107)) 8 (some 109)) 9 (some 111)), cO 2 [eI 0, eR (78), eR (79), eR (80), eR (81), eR (82), eR (83), eR (84), eI 0, eI 0, eI 0, eI 0, eI 0, eI 0], cI 0 6 (fun _ => 0), cI 0 6 (fun _ => 0), cI 0 6 (fun _ => 0), cI 0 6 (fun _ => 0), cI 0 72 (fun _ => 0), cI 0 6 (fun _ => 0), cI 0 3 (fun _ => 0), cO 2 [eI 0, eR (86), eR (87), eR (88), eR (89), eR (90), eR (91), eR (92), eI 0, eI 0, eI 0, eI 0, eI 0, eI 0], cI 0 6 (fun _ => 0), cI 0 6 (fun _ => 0), cI 0 6 (fun _ => 0), cI 0 6 (fun _ => 0), cI 0 72 (fun _ => 0), cI 0 6 (fun _ => 0), cI 0 3 (fun _ => 0), cO 3 [eI 0, eR (94)], cI 0 200 (fun _ => 0), cO 3 [eI 0, eR (96)], cI 0 200 (fun _ => 0), cO 3 [eI 0, eR (98)], cI 0 200 (fun _ => 0), cO 3 [eI 0, eR (100)], cI 0 200 (fun _ => 0), cO 3 [eI 0, eR (102)], cI 0 200 (fun _ => 0), cO 3 [eI 0, eR (104)], cI 0 200 (fun _ => 0), cO 3 [eI 0, eR (106)], cI 0 200 (fun _ => 0), cO 3 [eI 0, eR (108)], cI 0 200 (fun _ => 0), cO 3 [eI 0, eR (110)], cI 0 200 (fun _ => 0), cO 3 [eI 0, eR (112)], cI 0 200 (fun _ => 0)]) rfl (by rw [hlen]; rfl) (by rw [hlen]) ?_
  obtain ⟨wi, hwi⟩ : ∃ z, z = w ++ [cO 5 [eR (73), eI 0, eI 0, eI ((-1)), eR (74), eR (75), eR (76)], cI 0 600 (fun _ => 0), cI 0 6 (fun _ => 0), cQ 2 2 (va_up (va_up (fun _ => none) 0 (some 77)) 1 (some 85)), cQ 3 10 (va_up (va_up (va_up (va_up (va_up (va_up (va_up (va_up (va_up (va_up (fun _ => none) 0 (some 93)) 1 (some 95)) 2 (some 97)) 3 (some 99)) 4 (some 101)) 5 (some 103)) 6 (some 105)) 7 (some 107)) 8 (some 109)) 9 (some 111)), cO 2 [eI 0, eR (78), eR (79), eR (80), eR (81), eR (82), eR (83), eR (84), eI 0, eI 0, eI 0, eI 0, eI 0, eI 0], cI 0 6 (fun _ => 0), cI 0 6 (fun _ => 0), cI 0 6 (fun _ => 0), cI 0 6 (fun _ => 0), cI 0 72 (fun _ => 0), cI 0 6 (fun _ => 0), cI 0 3 (fun _ => 0), cO 2 [eI 0, eR (86), eR (87), eR (88), eR (89), eR (90), eR (91), eR (92), eI 0, eI 0, eI 0, eI 0, eI 0, eI 0], cI 0 6 (fun _ => 0), cI 0 6 (fun _ => 0), cI 0 6 (fun _ => 0), cI 0 6 (fun _ => 0), cI 0 72 (fun _ => 0), cI 0 6 (fun _ => 0), cI 0 3 (fun _ => 0), cO 3 [eI 0, eR (94)], cI 0 200 (fun _ => 0), cO 3 [eI 0, eR (96)], cI 0 200 (fun _ => 0), cO 3 [eI 0, eR (98)], cI 0 200 (fun _ => 0), cO 3 [eI 0, eR (100)], cI 0 200 (fun _ => 0), cO 3 [eI 0, eR (102)], cI 0 200 (fun _ => 0), cO 3 [eI 0, eR (104)], cI 0 200 (fun _ => 0), cO 3 [eI 0, eR (106)], cI 0 200 (fun _ => 0), cO 3 [eI 0, eR (108)], cI 0 200 (fun _ => 0), cO 3 [eI 0, eR (110)], cI 0 200 (fun _ => 0), cO 3 [eI 0, eR (112)], cI 0 200 (fun _ => 0)] := ⟨_, rfl⟩
  rw [← hwi]
  have hold : ∀ j : Nat, j < 72 → wi[j]? = w[j]? := fun j hj => by rw [hwi, List.getElem?_append_left (by omega)]
  have h0 := (hold 0 (by decide)).trans h0
  have h1 := (hold 1 (by decide)).trans h1
  have h2 := (hold 2 (by decide)).trans h2
  have h3 := (hold 3 (by decide)).trans h3
  have h4 := (hold 4 (by decide)).trans h4
  have h5 := (hold 5 (by decide)).trans h5
  have h6 := (hold 6 (by decide)).trans h6
  have h7 := (hold 7 (by decide)).trans h7
  have h8 := (hold 8 (by decide)).trans h8
  have h9 := (hold 9 (by decide)).trans h9
  have h10 := (hold 10 (by decide)).trans h10
  have h11 := (hold 11 (by decide)).trans h11
  have h12 := (hold 12 (by decide)).trans h12
  have h13 := (hold 13 (by decide)).trans h13
  have h14 := (hold 14 (by decide)).trans h14
  have h15 := (hold 15 (by decide)).trans h15
  have h16 := (hold 16 (by decide)).trans h16
  have h17 := (hold 17 (by decide)).trans h17
  have h18 := (hold 18 (by decide)).trans h18
  have h19 := (hold 19 (by decide)).trans h19
  have h20 := (hold 20 (by decide)).trans h20
  have h21 := (hold 21 (by decide)).trans h21
  have h22 := (hold 22 (by decide)).trans h22
  have h23 := (hold 23 (by decide)).trans h23
  have h24 := (hold 24 (by decide)).trans h24
  have h25 := (hold 25 (by decide)).trans h25
  have h26 := (hold 26 (by decide)).trans h26
  have h27 := (hold 27 (by decide)).trans h27
  have h28 := (hold 28 (by decide)).trans h28
  have h29 := (hold 29 (by decide)).trans h29
  have h30 := (hold 30 (by decide)).trans h30
  have h31 := (hold 31 (by decide)).trans h31
  have h32 := (hold 32 (by decide)).trans h32
  have h33 := (hold 33 (by decide)).trans h33
  have h34 := (hold 34 (by decide)).trans h34
  have h35 := (hold 35 (by decide)).trans h35
  have h36 := (hold 36 (by decide)).trans h36
  have h37 := (hold 37 (by decide)).trans h37
  have h38 := (hold 38 (by decide)).trans h38
  have h39 := (hold 39 (by decide)).trans h39
  have h40 := (hold 40 (by decide)).trans h40
  have h41 := (hold 41 (by decide)).trans h41
  have h42 := (hold 42 (by decide)).trans h42
  have h72 : wi[72]? = some (cO 5 [eR (73), eI 0, eI 0, eI ((-1)), eR (74), eR (75), eR (76)]) := by rw [hwi]; exact wc_agetN hlen (j := 0) rfl rfl
  have h73 : wi[73]? = some (cI 0 600 (fun _ => 0)) := by rw [hwi]; exact wc_agetN hlen (j := 1) rfl rfl
  have h74 : wi[74]? = some (cI 0 6 (fun _ => 0)) := by rw [hwi]; exact wc_agetN hlen (j := 2) rfl rfl
  have h75 : wi[75]? = some (cQ 2 2 (va_up (va_up (fun _ => none) 0 (some 77)) 1 (some 85))) := by rw [hwi]; exact wc_agetN hlen (j := 3) rfl rfl
  have h76 : wi[76]? = some (cQ 3 10 (va_up (va_up (va_up (va_up (va_up (va_up (va_up (va_up (va_up (va_up (fun _ => none) 0 (some 93)) 1 (some 95)) 2 (some 97)) 3 (some 99)) 4 (some 101)) 5 (some 103)) 6 (some 105)) 7 (some 107)) 8 (some 109)) 9 (some 111))) := by rw [hwi]; exact wc_agetN hlen (j := 4) rfl rfl
  have h77 : wi[77]? = some (cO 2 [eI 0, eR (78), eR (79), eR (80), eR (81), eR (82), eR (83), eR (84), eI 0, eI 0, eI 0, eI 0, eI 0, eI 0]) := by rw [hwi]; exact wc_agetN hlen (j := 5) rfl rfl
  have h78 : wi[78]? = some (cI 0 6 (fun _ => 0)) := by rw [hwi]; exact wc_agetN hlen (j := 6) rfl rfl
  have h79 : wi[79]? = some (cI 0 6 (fun _ => 0)) := by rw [hwi]; exact wc_agetN hlen (j := 7) rfl rfl
  have h80 : wi[80]? = some (cI 0 6 (fun _ => 0)) := by rw [hwi]; exact wc_agetN hlen (j := 8) rfl rfl
  have h81 : wi[81]? = some (cI 0 6 (fun _ => 0)) := by rw [hwi]; exact wc_agetN hlen (j := 9) rfl rfl
  have h82 : wi[82]? = some (cI 0 72 (fun _ => 0)) := by rw [hwi]; exact wc_agetN hlen (j := 10) rfl rfl
  have h83 : wi[83]? = some (cI 0 6 (fun _ => 0)) := by rw [hwi]; exact wc_agetN hlen (j := 11) rfl rfl
  have h84 : wi[84]? = some (cI 0 3 (fun _ => 0)) := by rw [hwi]; exact wc_agetN hlen (j := 12) rfl rfl
  have h85 : wi[85]? = some (cO 2 [eI 0, eR (86), eR (87), eR (88), eR (89), eR (90), eR (91), eR (92), eI 0, eI 0, eI 0, eI 0, eI 0, eI 0]) := by rw [hwi]; exact wc_agetN hlen (j := 13) rfl rfl
  have h86 : wi[86]? = some (cI 0 6 (fun _ => 0)) := by rw [hwi]; exact wc_agetN hlen (j := 14) rfl rfl
  have h87 : wi[87]? = some (cI 0 6 (fun _ => 0)) := by rw [hwi]; exact wc_agetN hlen (j := 15) rfl rfl
  have h88 : wi[88]? = some (cI 0 6 (fun _ => 0)) := by rw [hwi]; exact wc_agetN hlen (j := 16) rfl rfl
  have h89 : wi[89]? = some (cI 0 6 (fun _ => 0)) := by rw [hwi]; exact wc_agetN hlen (j := 17) rfl rfl
  have h90 : wi[90]? = some (cI 0 72 (fun _ => 0)) := by rw [hwi]; exact wc_agetN hlen (j := 18) rfl rfl
  have h91 : wi[91]? = some (cI 0 6 (fun _ => 0)) := by rw [hwi]; exact wc_agetN hlen (j := 19) rfl rfl
  have h92 : wi[92]? = some (cI 0 3 (fun _ => 0)) := by rw [hwi]; exact wc_agetN hlen (j := 20) rfl rfl
  have h93 : wi[93]? = some (cO 3 [eI 0, eR (94)]) := by rw [hwi]; exact wc_agetN hlen (j := 21) rfl rfl
  have h94 : wi[94]? = some (cI 0 200 (fun _ => 0)) := by rw [hwi]; exact wc_agetN hlen (j := 22) rfl rfl
  have h95 : wi[95]? = some (cO 3 [eI 0, eR (96)]) := by rw [hwi]; exact wc_agetN hlen (j := 23) rfl rfl
  have h96 : wi[96]? = some (cI 0 200 (fun _ => 0)) := by rw [hwi]; exact wc_agetN hlen (j := 24) rfl rfl
  have h97 : wi[97]? = some (cO 3 [eI 0, eR (98)]) := by rw [hwi]; exact wc_agetN hlen (j := 25) rfl rfl
  have h98 : wi[98]? = some (cI 0 200 (fun _ => 0)) := by rw [hwi]; exact wc_agetN hlen (j := 26) rfl rfl
  have h99 : wi[99]? = some (cO 3 [eI 0, eR (100)]) := by rw [hwi]; exact wc_agetN hlen (j := 27) rfl rfl
  have h100 : wi[100]? = some (cI 0 200 (fun _ => 0)) := by rw [hwi]; exact wc_agetN hlen (j := 28) rfl rfl
  have h101 : wi[101]? = some (cO 3 [eI 0, eR (102)]) := by rw [hwi]; exact wc_agetN hlen (j := 29) rfl rfl
  have h102 : wi[102]? = some (cI 0 200 (fun _ => 0)) := by rw [hwi]; exact wc_agetN hlen (j := 30) rfl rfl
  have h103 : wi[103]? = some (cO 3 [eI 0, eR (104)]) := by rw [hwi]; exact wc_agetN hlen (j := 31) rfl rfl
  have h104 : wi[104]? = some (cI 0 200 (fun _ => 0)) := by rw [hwi]; exact wc_agetN hlen (j := 32) rfl rfl
  have h105 : wi[105]? = some (cO 3 [eI 0, eR (106)]) := by rw [hwi]; exact wc_agetN hlen (j := 33) rfl rfl
  have h106 : wi[106]? = some (cI 0 200 (fun _ => 0)) := by rw [hwi]; exact wc_agetN hlen (j := 34) rfl rfl
  have h107 : wi[107]? = some (cO 3 [eI 0, eR (108)]) := by rw [hwi]; exact wc_agetN hlen (j := 35) rfl rfl
  have h108 : wi[108]? = some (cI 0 200 (fun _ => 0)) := by rw [hwi]; exact wc_agetN hlen (j := 36) rfl rfl
  have h109 : wi[109]? = some (cO 3 [eI 0, eR (110)]) := by rw [hwi]; exact wc_agetN hlen (j := 37) rfl rfl
  have h110 : wi[110]? = some (cI 0 200 (fun _ => 0)) := by rw [hwi]; exact wc_agetN hlen (j := 38) rfl rfl
  have h111 : wi[111]? = some (cO 3 [eI 0, eR (112)]) := by rw [hwi]; exact wc_agetN hlen (j := 39) rfl rfl
  have h112 : wi[112]? = some (cI 0 200 (fun _ => 0)) := by rw [hwi]; exact wc_agetN hlen (j := 40) rfl rfl
  have hS : wc_same [42, 72, 73, 74, 75, 76, 77, 78, 79, 80, 81, 82, 83, 84, 85, 86, 87, 88, 89, 90, 91, 92, 93, 94, 95, 96, 97, 98, 99, 100, 101, 102, 103, 104, 105, 106, 107, 108, 109, 110, 111, 112] w wi := fun j hj => by
    by_cases h : j < 72
    · exact hold j h
    · have h2 : 113 ≤ j := by simp only [List.mem_cons, List.not_mem_nil, or_false, not_or] at hj; omega
      rw [List.getElem?_eq_none (by rw [hwi, List.length_append, hlen]; show 72 + 41 ≤ j; omega), List.getElem?_eq_none (by omega)]
  refine ww_goto (tgt := 40) K dX6_image_31 rfl ?_
  refine ww_astore_n (ls2 := [some (eR (0)), some (eI (2)), some (eR (72))]) K dX6_image_40 (by decide) rfl ?_
  refine ww_aload_n K dX6_image_41 rfl ?_
  refine ww_aload_n K dX6_image_42 rfl ?_
  refine ww_get K dX6_image_43 lf_X6_10 h0 rfl ?_
  refine ww_xVv K dX6_image_46 lc_X6_125 h72 ⟨_, rfl, rfl⟩ (ct_X5_copyTold_72_1 G l h72 h73 h74 h75 h76 h77 h78 h79 h80 h81 h82 h83 h84 h85 h86 h87 h88 h89 h90 h91 h92 h93 h94 h95 h96 h97 h98 h99 h100 h101 h102 h103 h104 h105 h106 h107 h108 h109 h110 h111 h112 h1 h2 h3 h4 h5 h6 h7 h8 h9 h10 h11 h12 h13 h14 h15 h16 h17 h18 h19 h20 h21 h22 h23 h24 h25 h26 h27 h28 h29 h30 h31 h32 h33 h34 h35 h36 h37 h38 h39 h40 h41) rfl ⟨Nat.le_of_ble_eq_true rfl, Nat.le_of_ble_eq_true rfl⟩ (Nat.le_of_ble_eq_true rfl) (fun w1 hq hln_w1 => ?_)
  obtain ⟨h72, hsm⟩ := hq
  have h0 := hsm.keep h0 (by decide)
  have h1 := hsm.keep h1 (by decide)
  have h2 := hsm.keep h2 (by decide)
  have h3 := hsm.keep h3 (by decide)
  have h4 := hsm.keep h4 (by decide)
  have h5 := hsm.keep h5 (by decide)
  have h6 := hsm.keep h6 (by decide)
  have h7 := hsm.keep h7 (by decide)
  have h8 := hsm.keep h8 (by decide)
  have h9 := hsm.keep h9 (by decide)
  have h10 := hsm.keep h10 (by decide)
  have h11 := hsm.keep h11 (by decide)
  have h12 := hsm.keep h12 (by decide)
  have h13 := hsm.keep h13 (by decide)
  have h14 := hsm.keep h14 (by decide)
  have h15 := hsm.keep h15 (by decide)
  have h16 := hsm.keep h16 (by decide)
  have h17 := hsm.keep h17 (by decide)
  have h18 := hsm.keep h18 (by decide)
  have h19 := hsm.keep h19 (by decide)
  have h20 := hsm.keep h20 (by decide)
  have h21 := hsm.keep h21 (by decide)
  have h22 := hsm.keep h22 (by decide)
  have h23 := hsm.keep h23 (by decide)
  have h24 := hsm.keep h24 (by decide)
  have h25 := hsm.keep h25 (by decide)
  have h26 := hsm.keep h26 (by decide)
  have h27 := hsm.keep h27 (by decide)
  have h28 := hsm.keep h28 (by decide)
  have h29 := hsm.keep h29 (by decide)
  have h30 := hsm.keep h30 (by decide)
  have h31 := hsm.keep h31 (by decide)
  have h32 := hsm.keep h32 (by decide)
  have h33 := hsm.keep h33 (by decide)
  have h34 := hsm.keep h34 (by decide)
  have h35 := hsm.keep h35 (by decide)
  have h36 := hsm.keep h36 (by decide)
  have h37 := hsm.keep h37 (by decide)
  have h38 := hsm.keep h38 (by decide)
  have h39 := hsm.keep h39 (by decide)
  have h40 := hsm.keep h40 (by decide)
  have h41 := hsm.keep h41 (by decide)
  have h42 := hsm.keep h42 (by decide)
  have hS := hS.call hsm (by decide)
  refine ww_aload_n K dX6_image_49 rfl ?_
  refine ww_get K dX6_image_50 lf_X6_16 h0 rfl ?_
  refine ww_iload_n K dX6_image_53 rfl ?_
  refine ww_aload_n K dX6_image_54 rfl ?_
  refine ww_aast4 K dX6_image_55 h42 h72 (wc_vin (by decide)) ?_
  have hS2 : ∀ d, wc_same [42, 72, 73, 74, 75, 76, 77, 78, 79, 80, 81, 82, 83, 84, 85, 86, 87, 88, 89, 90, 91, 92, 93, 94, 95, 96, 97, 98, 99, 100, 101, 102, 103, 104, 105, 106, 107, 108, 109, 110, 111, 112] w (w1.set 42 d) := fun d => hS.put (k := 42) (by decide) wc_set_ne
  refine ww_iconst (v := 1) K dX6_image_56 rfl ?_
  exact ww_zret K rfl dX6_image_57 hr ⟨_, rfl, rfl, hS2 _⟩
