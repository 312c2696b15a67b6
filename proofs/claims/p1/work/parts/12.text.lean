set_option maxRecDepth 100000 in
set_option maxHeartbeats 4000000 in
theorem ct_X6_text_0 (G : EG) (l : Launch) {w : EW} {cnt : Nat → Int32} (hz : ∀ k, k < 6 → cnt k = 0) {x1 x2 x3 x4 x5 x6 x7 x8 r1 : Int32} {q1 q2 : Nat → Int32} {a1 a2 a3 a4 a5 a6 a7 : Int32} {f1 f2 f3 f4 f5 f6 f7 : Nat → Int32} {tp : Nat → Int32} {e1 e2 e3 e4 e5 e6 e7 : Int32} {k1 k2 k3 k4 k5 k6 k7 : Nat → Int32} (h0 : w[0]? = some (cO 6 [eR (1), eR (42), eR (43), eR (56), eR (60), eR (61), eR (62), eR (63)])) (h1 : w[1]? = some (cO 5 [eR (2), eI (0), eI (0), eI ((-1)), eR (3), eR (4), eR (5)])) (h2 : w[2]? = some (cI 0 600 tp)) (h3 : w[3]? = some (cI 0 6 cnt)) (h43 : w[43]? = some (cO 1 [eR (44), eR (52), eI (x1), eI (x2), eR (54), eR (55), eI (x3), eI (x4), eI (x5), eI (x6), eI (x7), eI (x8)])) (h44 : w[44]? = some (cO 2 [eI (a1), eR (45), eR (46), eR (47), eR (48), eR (49), eR (50), eR (51), eI (a2), eI (a3), eI (a4), eI (a5), eI (a6), eI (a7)])) (h45 : w[45]? = some (cI 0 6 f1)) (h46 : w[46]? = some (cI 0 6 f2)) (h47 : w[47]? = some (cI 0 6 f3)) (h48 : w[48]? = some (cI 0 6 f4)) (h49 : w[49]? = some (cI 0 72 f5)) (h50 : w[50]? = some (cI 0 6 f6)) (h51 : w[51]? = some (cI 0 3 f7)) (h52 : w[52]? = some (cO 3 [eI (r1), eR (53)])) (h53 : w[53]? = some (cI 0 200 q1)) (h54 : w[54]? = some (cI 0 600 q2)) (h4 : w[4]? = some (cQ 2 2 (va_up (va_up (fun _ => none) 0 (some 6)) 1 (some 14)))) (h6 : w[6]? = some (cO 2 [eI (e1), eR (7), eR (8), eR (9), eR (10), eR (11), eR (12), eR (13), eI (e2), eI (e3), eI (e4), eI (e5), eI (e6), eI (e7)])) (h7 : w[7]? = some (cI 0 6 k1)) (h8 : w[8]? = some (cI 0 6 k2)) (h9 : w[9]? = some (cI 0 6 k3)) (h10 : w[10]? = some (cI 0 6 k4)) (h11 : w[11]? = some (cI 0 72 k5)) (h12 : w[12]? = some (cI 0 6 k6)) (h13 : w[13]? = some (cI 0 3 k7)) : Ct G l yX6_text cX6_text 5 (some .int) 4 0 0 [eR (0), eI (0), eI ((-1))] w (fun r w2 => (∃ x : Int32, r = some (eI x) ∧ (x = 0 ∧ wc_same [1, 3, 6, 7, 8, 9, 10, 11, 12, 13, 43, 44, 49, 50, 51, 52, 53, 54] w w2))) := by
  refine Ct_of (by decide +kernel) (Nat.le_of_ble_eq_true rfl) ?_
  intro p_ e_ s_ m_ a_ b_ t_ c_ K0 hr hin
  have K : wc_C p_ s_ m_ a_ t_ c_ G RX6 cX6_text 5 w.length := K0
  clear K0
  refine WW_ls (ls2 := [some (eR (0)), some (eI (0)), some (eI ((-1))), none, none]) rfl ?_
  have hS : wc_same [1, 3, 6, 7, 8, 9, 10, 11, 12, 13, 43, 44, 49, 50, 51, 52, 53, 54] w w := wc_same.rf
  refine ww_aload_n K dX6_text_0 rfl ?_
  refine ww_iload_n K dX6_text_1 rfl ?_
  refine ww_iload_n K dX6_text_2 rfl ?_
  refine ww_cV K dX6_text_3 lc_X6_66 h0 ⟨_, rfl, rfl⟩ (ct_X6_placeFor_0 G l hz h0 h1 h3) rfl ⟨Nat.le_of_ble_eq_true rfl, Nat.le_of_ble_eq_true rfl⟩ (Nat.le_of_ble_eq_true rfl) ?_
  refine ww_istore_n (ls2 := [some (eR (0)), some (eI (0)), some (eI ((-1))), some (eI (0)), none]) K dX6_text_6 (by decide) rfl ?_
  refine ww_aload_n K dX6_text_7 rfl ?_
  refine ww_get K dX6_text_8 lf_X6_10 h0 rfl ?_
  refine ww_get K dX6_text_11 lf_X6_51 h1 rfl ?_
  refine ww_istore (ls2 := [some (eR (0)), some (eI (0)), some (eI ((-1))), some (eI (0)), some (eI (0))]) K dX6_text_14 (by decide) rfl ?_
  refine ww_aload_n K dX6_text_16 rfl ?_
  refine ww_get K dX6_text_17 lf_X6_10 h0 rfl ?_
  refine ww_iconst (v := 0) K dX6_text_20 rfl ?_
  refine ww_putX K dX6_text_21 lp_X6_51 h1 (Nat.le_of_ble_eq_true rfl) rfl rfl (fun w1 hln_w1 h1 hne_w1 => ?_)
  have h1 : w1[1]? = some (cO 5 [eR (2), eI (0), eI (0), eI ((-1)), eR (3), eR (4), eR (5)]) := h1
  have h0 := (hne_w1 0 (by decide)).trans h0
  have h2 := (hne_w1 2 (by decide)).trans h2
  have h3 := (hne_w1 3 (by decide)).trans h3
  have h43 := (hne_w1 43 (by decide)).trans h43
  have h44 := (hne_w1 44 (by decide)).trans h44
  have h45 := (hne_w1 45 (by decide)).trans h45
  have h46 := (hne_w1 46 (by decide)).trans h46
  have h47 := (hne_w1 47 (by decide)).trans h47
  have h48 := (hne_w1 48 (by decide)).trans h48
  have h49 := (hne_w1 49 (by decide)).trans h49
  have h50 := (hne_w1 50 (by decide)).trans h50
  have h51 := (hne_w1 51 (by decide)).trans h51
  have h52 := (hne_w1 52 (by decide)).trans h52
  have h53 := (hne_w1 53 (by decide)).trans h53
  have h54 := (hne_w1 54 (by decide)).trans h54
  have h4 := (hne_w1 4 (by decide)).trans h4
  have h6 := (hne_w1 6 (by decide)).trans h6
  have h7 := (hne_w1 7 (by decide)).trans h7
  have h8 := (hne_w1 8 (by decide)).trans h8
  have h9 := (hne_w1 9 (by decide)).trans h9
  have h10 := (hne_w1 10 (by decide)).trans h10
  have h11 := (hne_w1 11 (by decide)).trans h11
  have h12 := (hne_w1 12 (by decide)).trans h12
  have h13 := (hne_w1 13 (by decide)).trans h13
  have hS := hS.put (k := 1) (by decide) hne_w1
  refine ww_aload_n K dX6_text_24 rfl ?_
  refine ww_get K dX6_text_25 lf_X6_10 h0 rfl ?_
  refine ww_iconst (v := 0) K dX6_text_28 rfl ?_
  refine ww_putX K dX6_text_29 lp_X6_70 h1 (Nat.le_of_ble_eq_true rfl) rfl rfl (fun w2 hln_w2 h1 hne_w2 => ?_)
  have h1 : w2[1]? = some (cO 5 [eR (2), eI (0), eI (0), eI ((-1)), eR (3), eR (4), eR (5)]) := h1
  have h0 := (hne_w2 0 (by decide)).trans h0
  have h2 := (hne_w2 2 (by decide)).trans h2
  have h3 := (hne_w2 3 (by decide)).trans h3
  have h43 := (hne_w2 43 (by decide)).trans h43
  have h44 := (hne_w2 44 (by decide)).trans h44
  have h45 := (hne_w2 45 (by decide)).trans h45
  have h46 := (hne_w2 46 (by decide)).trans h46
  have h47 := (hne_w2 47 (by decide)).trans h47
  have h48 := (hne_w2 48 (by decide)).trans h48
  have h49 := (hne_w2 49 (by decide)).trans h49
  have h50 := (hne_w2 50 (by decide)).trans h50
  have h51 := (hne_w2 51 (by decide)).trans h51
  have h52 := (hne_w2 52 (by decide)).trans h52
  have h53 := (hne_w2 53 (by decide)).trans h53
  have h54 := (hne_w2 54 (by decide)).trans h54
  have h4 := (hne_w2 4 (by decide)).trans h4
  have h6 := (hne_w2 6 (by decide)).trans h6
  have h7 := (hne_w2 7 (by decide)).trans h7
  have h8 := (hne_w2 8 (by decide)).trans h8
  have h9 := (hne_w2 9 (by decide)).trans h9
  have h10 := (hne_w2 10 (by decide)).trans h10
  have h11 := (hne_w2 11 (by decide)).trans h11
  have h12 := (hne_w2 12 (by decide)).trans h12
  have h13 := (hne_w2 13 (by decide)).trans h13
  have hS := hS.put (k := 1) (by decide) hne_w2
  refine ww_aload_n K dX6_text_32 rfl ?_
  refine ww_get K dX6_text_33 lf_X6_10 h0 rfl ?_
  refine ww_iconst (v := (-1)) K dX6_text_36 rfl ?_
  refine ww_putX K dX6_text_37 lp_X6_73 h1 (Nat.le_of_ble_eq_true rfl) rfl rfl (fun w3 hln_w3 h1 hne_w3 => ?_)
  have h1 : w3[1]? = some (cO 5 [eR (2), eI (0), eI (0), eI ((-1)), eR (3), eR (4), eR (5)]) := h1
  have h0 := (hne_w3 0 (by decide)).trans h0
  have h2 := (hne_w3 2 (by decide)).trans h2
  have h3 := (hne_w3 3 (by decide)).trans h3
  have h43 := (hne_w3 43 (by decide)).trans h43
  have h44 := (hne_w3 44 (by decide)).trans h44
  have h45 := (hne_w3 45 (by decide)).trans h45
  have h46 := (hne_w3 46 (by decide)).trans h46
  have h47 := (hne_w3 47 (by decide)).trans h47
  have h48 := (hne_w3 48 (by decide)).trans h48
  have h49 := (hne_w3 49 (by decide)).trans h49
  have h50 := (hne_w3 50 (by decide)).trans h50
  have h51 := (hne_w3 51 (by decide)).trans h51
  have h52 := (hne_w3 52 (by decide)).trans h52
  have h53 := (hne_w3 53 (by decide)).trans h53
  have h54 := (hne_w3 54 (by decide)).trans h54
  have h4 := (hne_w3 4 (by decide)).trans h4
  have h6 := (hne_w3 6 (by decide)).trans h6
  have h7 := (hne_w3 7 (by decide)).trans h7
  have h8 := (hne_w3 8 (by decide)).trans h8
  have h9 := (hne_w3 9 (by decide)).trans h9
  have h10 := (hne_w3 10 (by decide)).trans h10
  have h11 := (hne_w3 11 (by decide)).trans h11
  have h12 := (hne_w3 12 (by decide)).trans h12
  have h13 := (hne_w3 13 (by decide)).trans h13
  have hS := hS.put (k := 1) (by decide) hne_w3
  refine ww_iload_n K dX6_text_40 rfl ?_
  refine ww_iconst (v := (-1)) K dX6_text_41 rfl ?_
  refine ww_icmp_ne (tgt := 48) K dX6_text_42 rfl (fun _ => ?_) (fun cc_ => absurd cc_ (by decide))
  refine ww_aload_n K dX6_text_48 rfl ?_
  refine ww_get K dX6_text_49 lf_X6_23 h0 rfl ?_
  refine ww_aload_n K dX6_text_52 rfl ?_
  refine ww_get K dX6_text_53 lf_X6_10 h0 rfl ?_
  refine ww_get K dX6_text_56 lf_X6_59 h1 rfl ?_
  refine ww_iload K dX6_text_59 rfl ?_
  refine ww_iload_n K dX6_text_61 rfl ?_
  refine ww_xVv K dX6_text_62 lc_X6_76 h43 ⟨_, rfl, rfl⟩ (ct_X1_read_0 G l h2 h43 h44 h45 h46 h47 h48 h49 h50 h51 h52 h53 h54) rfl ⟨Nat.le_of_ble_eq_true rfl, Nat.le_of_ble_eq_true rfl⟩ (Nat.le_of_ble_eq_true rfl) (fun w9 hq hln_w9 => ?_)
  obtain ⟨h43, h44, h52, ⟨F4, h49⟩, ⟨F5, h50⟩, ⟨F6, h51⟩, ⟨F7, h53⟩, ⟨F8, h54⟩, hsm⟩ := hq
  have h0 := hsm.keep h0 (by decide)
  have h1 := hsm.keep h1 (by decide)
  have h2 := hsm.keep h2 (by decide)
  have h3 := hsm.keep h3 (by decide)
  have h45 := hsm.keep h45 (by decide)
  have h46 := hsm.keep h46 (by decide)
  have h47 := hsm.keep h47 (by decide)
  have h48 := hsm.keep h48 (by decide)
  have h4 := hsm.keep h4 (by decide)
  have h6 := hsm.keep h6 (by decide)
  have h7 := hsm.keep h7 (by decide)
  have h8 := hsm.keep h8 (by decide)
  have h9 := hsm.keep h9 (by decide)
  have h10 := hsm.keep h10 (by decide)
  have h11 := hsm.keep h11 (by decide)
  have h12 := hsm.keep h12 (by decide)
  have h13 := hsm.keep h13 (by decide)
  have hS := hS.call hsm (by decide)
  refine ww_aload_n K dX6_text_65 rfl ?_
  refine ww_get K dX6_text_66 lf_X6_10 h0 rfl ?_
  refine ww_aload_n K dX6_text_69 rfl ?_
  refine ww_get K dX6_text_70 lf_X6_23 h0 rfl ?_
  refine ww_get K dX6_text_73 lf_X6_79 h43 rfl ?_
  refine ww_putX K dX6_text_76 lp_X6_70 h1 (Nat.le_of_ble_eq_true rfl) rfl rfl (fun w10 hln_w10 h1 hne_w10 => ?_)
  have h1 : w10[1]? = some (cO 5 [eR (2), eI (0), eI (0), eI ((-1)), eR (3), eR (4), eR (5)]) := h1
  have h0 := (hne_w10 0 (by decide)).trans h0
  have h2 := (hne_w10 2 (by decide)).trans h2
  have h3 := (hne_w10 3 (by decide)).trans h3
  have h43 := (hne_w10 43 (by decide)).trans h43
  have h44 := (hne_w10 44 (by decide)).trans h44
  have h45 := (hne_w10 45 (by decide)).trans h45
  have h46 := (hne_w10 46 (by decide)).trans h46
  have h47 := (hne_w10 47 (by decide)).trans h47
  have h48 := (hne_w10 48 (by decide)).trans h48
  have h49 := (hne_w10 49 (by decide)).trans h49
  have h50 := (hne_w10 50 (by decide)).trans h50
  have h51 := (hne_w10 51 (by decide)).trans h51
  have h52 := (hne_w10 52 (by decide)).trans h52
  have h53 := (hne_w10 53 (by decide)).trans h53
  have h54 := (hne_w10 54 (by decide)).trans h54
  have h4 := (hne_w10 4 (by decide)).trans h4
  have h6 := (hne_w10 6 (by decide)).trans h6
  have h7 := (hne_w10 7 (by decide)).trans h7
  have h8 := (hne_w10 8 (by decide)).trans h8
  have h9 := (hne_w10 9 (by decide)).trans h9
  have h10 := (hne_w10 10 (by decide)).trans h10
  have h11 := (hne_w10 11 (by decide)).trans h11
  have h12 := (hne_w10 12 (by decide)).trans h12
  have h13 := (hne_w10 13 (by decide)).trans h13
  have hS := hS.put (k := 1) (by decide) hne_w10
  refine ww_aload_n K dX6_text_79 rfl ?_
  refine ww_get K dX6_text_80 lf_X6_10 h0 rfl ?_
  refine ww_aload_n K dX6_text_83 rfl ?_
  refine ww_get K dX6_text_84 lf_X6_23 h0 rfl ?_
  refine ww_get K dX6_text_87 lf_X6_80 h43 rfl ?_
  refine ww_putX K dX6_text_90 lp_X6_73 h1 (Nat.le_of_ble_eq_true rfl) rfl rfl (fun w11 hln_w11 h1 hne_w11 => ?_)
  have h1 : w11[1]? = some (cO 5 [eR (2), eI (0), eI (0), eI ((-1)), eR (3), eR (4), eR (5)]) := h1
  have h0 := (hne_w11 0 (by decide)).trans h0
  have h2 := (hne_w11 2 (by decide)).trans h2
  have h3 := (hne_w11 3 (by decide)).trans h3
  have h43 := (hne_w11 43 (by decide)).trans h43
  have h44 := (hne_w11 44 (by decide)).trans h44
  have h45 := (hne_w11 45 (by decide)).trans h45
  have h46 := (hne_w11 46 (by decide)).trans h46
  have h47 := (hne_w11 47 (by decide)).trans h47
  have h48 := (hne_w11 48 (by decide)).trans h48
  have h49 := (hne_w11 49 (by decide)).trans h49
  have h50 := (hne_w11 50 (by decide)).trans h50
  have h51 := (hne_w11 51 (by decide)).trans h51
  have h52 := (hne_w11 52 (by decide)).trans h52
  have h53 := (hne_w11 53 (by decide)).trans h53
  have h54 := (hne_w11 54 (by decide)).trans h54
  have h4 := (hne_w11 4 (by decide)).trans h4
  have h6 := (hne_w11 6 (by decide)).trans h6
  have h7 := (hne_w11 7 (by decide)).trans h7
  have h8 := (hne_w11 8 (by decide)).trans h8
  have h9 := (hne_w11 9 (by decide)).trans h9
  have h10 := (hne_w11 10 (by decide)).trans h10
  have h11 := (hne_w11 11 (by decide)).trans h11
  have h12 := (hne_w11 12 (by decide)).trans h12
  have h13 := (hne_w11 13 (by decide)).trans h13
  have hS := hS.put (k := 1) (by decide) hne_w11
  refine ww_aload_n K dX6_text_93 rfl ?_
  refine ww_get K dX6_text_94 lf_X6_23 h0 rfl ?_
  refine ww_get K dX6_text_97 lf_X6_79 h43 rfl ?_
  refine ww_if_eq (tgt := 105) K dX6_text_100 rfl (fun _ => ?_) (fun cc_ => absurd cc_ (by decide))
  refine ww_aload_n K dX6_text_105 rfl ?_
  refine ww_iload_n K dX6_text_106 rfl ?_
  refine ww_iload_n K dX6_text_107 rfl ?_
  refine ww_xVv K dX6_text_108 lc_X6_81 h0 ⟨_, rfl, rfl⟩ (ct_X6_keep_0 G l hz h0 h1 h3 h43 h4 h6 h7 h8 h9 h10 h11 h12 h13 h44 h45 h46 h47 h48 h49 h50 h51) rfl ⟨Nat.le_of_ble_eq_true rfl, Nat.le_of_ble_eq_true rfl⟩ (Nat.le_of_ble_eq_true rfl) (fun w12 hq hln_w12 => ?_)
  have hsm := hq
  have h0 := hsm.keep h0 (by decide)
  have h1 := hsm.keep h1 (by decide)
  have h2 := hsm.keep h2 (by decide)
  have h43 := hsm.keep h43 (by decide)
  have h44 := hsm.keep h44 (by decide)
  have h45 := hsm.keep h45 (by decide)
  have h46 := hsm.keep h46 (by decide)
  have h47 := hsm.keep h47 (by decide)
  have h48 := hsm.keep h48 (by decide)
  have h49 := hsm.keep h49 (by decide)
  have h50 := hsm.keep h50 (by decide)
  have h51 := hsm.keep h51 (by decide)
  have h52 := hsm.keep h52 (by decide)
  have h53 := hsm.keep h53 (by decide)
  have h54 := hsm.keep h54 (by decide)
  have h4 := hsm.keep h4 (by decide)
  have hS := hS.call hsm (by decide)
  refine ww_iload_n K dX6_text_111 rfl ?_
  exact ww_iret K dX6_text_112 hr ⟨_, rfl, rfl, hS⟩
set_option maxRecDepth 100000 in
set_option maxHeartbeats 4000000 in
theorem ct_X6_text_1 (G : EG) (l : Launch) {w : EW} {cnt : Nat → Int32} (hz : ∀ k, k < 6 → cnt k = 0) {x1 x2 x3 x4 x5 x6 x7 x8 r1 : Int32} {q1 q2 : Nat → Int32} {a1 a2 a3 a4 a5 a6 a7 : Int32} {f1 f2 f3 f4 f5 f6 f7 : Nat → Int32} {tp : Nat → Int32} {u1 : Int32} {v1 : Nat → Int32} (h0 : w[0]? = some (cO 6 [eR (1), eR (42), eR (43), eR (56), eR (60), eR (61), eR (62), eR (63)])) (h1 : w[1]? = some (cO 5 [eR (2), eI (0), eI (0), eI ((-1)), eR (3), eR (4), eR (5)])) (h2 : w[2]? = some (cI 0 600 tp)) (h3 : w[3]? = some (cI 0 6 cnt)) (h43 : w[43]? = some (cO 1 [eR (44), eR (52), eI (x1), eI (x2), eR (54), eR (55), eI (x3), eI (x4), eI (x5), eI (x6), eI (x7), eI (x8)])) (h44 : w[44]? = some (cO 2 [eI (a1), eR (45), eR (46), eR (47), eR (48), eR (49), eR (50), eR (51), eI (a2), eI (a3), eI (a4), eI (a5), eI (a6), eI (a7)])) (h45 : w[45]? = some (cI 0 6 f1)) (h46 : w[46]? = some (cI 0 6 f2)) (h47 : w[47]? = some (cI 0 6 f3)) (h48 : w[48]? = some (cI 0 6 f4)) (h49 : w[49]? = some (cI 0 72 f5)) (h50 : w[50]? = some (cI 0 6 f6)) (h51 : w[51]? = some (cI 0 3 f7)) (h52 : w[52]? = some (cO 3 [eI (r1), eR (53)])) (h53 : w[53]? = some (cI 0 200 q1)) (h54 : w[54]? = some (cI 0 600 q2)) (h5 : w[5]? = some (cQ 3 10 (va_up (va_up (va_up (va_up (va_up (va_up (va_up (va_up (va_up (va_up (fun _ => none) 0 (some 22)) 1 (some 24)) 2 (some 26)) 3 (some 28)) 4 (some 30)) 5 (some 32)) 6 (some 34)) 7 (some 36)) 8 (some 38)) 9 (some 40)))) (h22 : w[22]? = some (cO 3 [eI (u1), eR (23)])) (h23 : w[23]? = some (cI 0 200 v1)) : Ct G l yX6_text cX6_text 5 (some .int) 4 0 0 [eR (0), eI (1), eI ((-1))] w (fun r w2 => (∃ x : Int32, r = some (eI x) ∧ (x = 0 ∧ wc_same [1, 3, 22, 23, 43, 44, 49, 50, 51, 52, 53, 54] w w2))) := by
  refine Ct_of (by decide +kernel) (Nat.le_of_ble_eq_true rfl) ?_
  intro p_ e_ s_ m_ a_ b_ t_ c_ K0 hr hin
  have K : wc_C p_ s_ m_ a_ t_ c_ G RX6 cX6_text 5 w.length := K0
  clear K0
  refine WW_ls (ls2 := [some (eR (0)), some (eI (1)), some (eI ((-1))), none, none]) rfl ?_
  have hS : wc_same [1, 3, 22, 23, 43, 44, 49, 50, 51, 52, 53, 54] w w := wc_same.rf
  refine ww_aload_n K dX6_text_0 rfl ?_
  refine ww_iload_n K dX6_text_1 rfl ?_
  refine ww_iload_n K dX6_text_2 rfl ?_
  refine ww_cV K dX6_text_3 lc_X6_66 h0 ⟨_, rfl, rfl⟩ (ct_X6_placeFor_1 G l hz h0 h1 h3) rfl ⟨Nat.le_of_ble_eq_true rfl, Nat.le_of_ble_eq_true rfl⟩ (Nat.le_of_ble_eq_true rfl) ?_
  refine ww_istore_n (ls2 := [some (eR (0)), some (eI (1)), some (eI ((-1))), some (eI (0)), none]) K dX6_text_6 (by decide) rfl ?_
  refine ww_aload_n K dX6_text_7 rfl ?_
  refine ww_get K dX6_text_8 lf_X6_10 h0 rfl ?_
  refine ww_get K dX6_text_11 lf_X6_51 h1 rfl ?_
  refine ww_istore (ls2 := [some (eR (0)), some (eI (1)), some (eI ((-1))), some (eI (0)), some (eI (0))]) K dX6_text_14 (by decide) rfl ?_
  refine ww_aload_n K dX6_text_16 rfl ?_
  refine ww_get K dX6_text_17 lf_X6_10 h0 rfl ?_
  refine ww_iconst (v := 0) K dX6_text_20 rfl ?_
  refine ww_putX K dX6_text_21 lp_X6_51 h1 (Nat.le_of_ble_eq_true rfl) rfl rfl (fun w1 hln_w1 h1 hne_w1 => ?_)
  have h1 : w1[1]? = some (cO 5 [eR (2), eI (0), eI (0), eI ((-1)), eR (3), eR (4), eR (5)]) := h1
  have h0 := (hne_w1 0 (by decide)).trans h0
  have h2 := (hne_w1 2 (by decide)).trans h2
  have h3 := (hne_w1 3 (by decide)).trans h3
  have h43 := (hne_w1 43 (by decide)).trans h43
  have h44 := (hne_w1 44 (by decide)).trans h44
  have h45 := (hne_w1 45 (by decide)).trans h45
  have h46 := (hne_w1 46 (by decide)).trans h46
  have h47 := (hne_w1 47 (by decide)).trans h47
  have h48 := (hne_w1 48 (by decide)).trans h48
  have h49 := (hne_w1 49 (by decide)).trans h49
  have h50 := (hne_w1 50 (by decide)).trans h50
  have h51 := (hne_w1 51 (by decide)).trans h51
  have h52 := (hne_w1 52 (by decide)).trans h52
  have h53 := (hne_w1 53 (by decide)).trans h53
  have h54 := (hne_w1 54 (by decide)).trans h54
  have h5 := (hne_w1 5 (by decide)).trans h5
  have h22 := (hne_w1 22 (by decide)).trans h22
  have h23 := (hne_w1 23 (by decide)).trans h23
  have hS := hS.put (k := 1) (by decide) hne_w1
  refine ww_aload_n K dX6_text_24 rfl ?_
  refine ww_get K dX6_text_25 lf_X6_10 h0 rfl ?_
  refine ww_iconst (v := 0) K dX6_text_28 rfl ?_
  refine ww_putX K dX6_text_29 lp_X6_70 h1 (Nat.le_of_ble_eq_true rfl) rfl rfl (fun w2 hln_w2 h1 hne_w2 => ?_)
  have h1 : w2[1]? = some (cO 5 [eR (2), eI (0), eI (0), eI ((-1)), eR (3), eR (4), eR (5)]) := h1
  have h0 := (hne_w2 0 (by decide)).trans h0
  have h2 := (hne_w2 2 (by decide)).trans h2
  have h3 := (hne_w2 3 (by decide)).trans h3
  have h43 := (hne_w2 43 (by decide)).trans h43
  have h44 := (hne_w2 44 (by decide)).trans h44
  have h45 := (hne_w2 45 (by decide)).trans h45
  have h46 := (hne_w2 46 (by decide)).trans h46
  have h47 := (hne_w2 47 (by decide)).trans h47
  have h48 := (hne_w2 48 (by decide)).trans h48
  have h49 := (hne_w2 49 (by decide)).trans h49
  have h50 := (hne_w2 50 (by decide)).trans h50
  have h51 := (hne_w2 51 (by decide)).trans h51
  have h52 := (hne_w2 52 (by decide)).trans h52
  have h53 := (hne_w2 53 (by decide)).trans h53
  have h54 := (hne_w2 54 (by decide)).trans h54
  have h5 := (hne_w2 5 (by decide)).trans h5
  have h22 := (hne_w2 22 (by decide)).trans h22
  have h23 := (hne_w2 23 (by decide)).trans h23
  have hS := hS.put (k := 1) (by decide) hne_w2
  refine ww_aload_n K dX6_text_32 rfl ?_
  refine ww_get K dX6_text_33 lf_X6_10 h0 rfl ?_
  refine ww_iconst (v := (-1)) K dX6_text_36 rfl ?_
  refine ww_putX K dX6_text_37 lp_X6_73 h1 (Nat.le_of_ble_eq_true rfl) rfl rfl (fun w3 hln_w3 h1 hne_w3 => ?_)
  have h1 : w3[1]? = some (cO 5 [eR (2), eI (0), eI (0), eI ((-1)), eR (3), eR (4), eR (5)]) := h1
  have h0 := (hne_w3 0 (by decide)).trans h0
  have h2 := (hne_w3 2 (by decide)).trans h2
  have h3 := (hne_w3 3 (by decide)).trans h3
  have h43 := (hne_w3 43 (by decide)).trans h43
  have h44 := (hne_w3 44 (by decide)).trans h44
  have h45 := (hne_w3 45 (by decide)).trans h45
  have h46 := (hne_w3 46 (by decide)).trans h46
  have h47 := (hne_w3 47 (by decide)).trans h47
  have h48 := (hne_w3 48 (by decide)).trans h48
  have h49 := (hne_w3 49 (by decide)).trans h49
  have h50 := (hne_w3 50 (by decide)).trans h50
  have h51 := (hne_w3 51 (by decide)).trans h51
  have h52 := (hne_w3 52 (by decide)).trans h52
  have h53 := (hne_w3 53 (by decide)).trans h53
  have h54 := (hne_w3 54 (by decide)).trans h54
  have h5 := (hne_w3 5 (by decide)).trans h5
  have h22 := (hne_w3 22 (by decide)).trans h22
  have h23 := (hne_w3 23 (by decide)).trans h23
  have hS := hS.put (k := 1) (by decide) hne_w3
  refine ww_iload_n K dX6_text_40 rfl ?_
  refine ww_iconst (v := (-1)) K dX6_text_41 rfl ?_
  refine ww_icmp_ne (tgt := 48) K dX6_text_42 rfl (fun _ => ?_) (fun cc_ => absurd cc_ (by decide))
  refine ww_aload_n K dX6_text_48 rfl ?_
  refine ww_get K dX6_text_49 lf_X6_23 h0 rfl ?_
  refine ww_aload_n K dX6_text_52 rfl ?_
  refine ww_get K dX6_text_53 lf_X6_10 h0 rfl ?_
  refine ww_get K dX6_text_56 lf_X6_59 h1 rfl ?_
  refine ww_iload K dX6_text_59 rfl ?_
  refine ww_iload_n K dX6_text_61 rfl ?_
  refine ww_xVv K dX6_text_62 lc_X6_76 h43 ⟨_, rfl, rfl⟩ (ct_X1_read_n G l (s := 1) (by decide) h2 h43 h44 h45 h46 h47 h48 h49 h50 h51 h52 h53 h54) rfl ⟨Nat.le_of_ble_eq_true rfl, Nat.le_of_ble_eq_true rfl⟩ (Nat.le_of_ble_eq_true rfl) (fun w9 hq hln_w9 => ?_)
  obtain ⟨h43, h44, h52, ⟨F4, h49⟩, ⟨F5, h50⟩, ⟨F6, h51⟩, ⟨F7, h53⟩, ⟨F8, h54⟩, hsm⟩ := hq
  have h0 := hsm.keep h0 (by decide)
  have h1 := hsm.keep h1 (by decide)
  have h2 := hsm.keep h2 (by decide)
  have h3 := hsm.keep h3 (by decide)
  have h45 := hsm.keep h45 (by decide)
  have h46 := hsm.keep h46 (by decide)
  have h47 := hsm.keep h47 (by decide)
  have h48 := hsm.keep h48 (by decide)
  have h5 := hsm.keep h5 (by decide)
  have h22 := hsm.keep h22 (by decide)
  have h23 := hsm.keep h23 (by decide)
  have hS := hS.call hsm (by decide)
  refine ww_aload_n K dX6_text_65 rfl ?_
  refine ww_get K dX6_text_66 lf_X6_10 h0 rfl ?_
  refine ww_aload_n K dX6_text_69 rfl ?_
  refine ww_get K dX6_text_70 lf_X6_23 h0 rfl ?_
  refine ww_get K dX6_text_73 lf_X6_79 h43 rfl ?_
  refine ww_putX K dX6_text_76 lp_X6_70 h1 (Nat.le_of_ble_eq_true rfl) rfl rfl (fun w10 hln_w10 h1 hne_w10 => ?_)
  have h1 : w10[1]? = some (cO 5 [eR (2), eI (0), eI (0), eI ((-1)), eR (3), eR (4), eR (5)]) := h1
  have h0 := (hne_w10 0 (by decide)).trans h0
  have h2 := (hne_w10 2 (by decide)).trans h2
  have h3 := (hne_w10 3 (by decide)).trans h3
  have h43 := (hne_w10 43 (by decide)).trans h43
  have h44 := (hne_w10 44 (by decide)).trans h44
  have h45 := (hne_w10 45 (by decide)).trans h45
  have h46 := (hne_w10 46 (by decide)).trans h46
  have h47 := (hne_w10 47 (by decide)).trans h47
  have h48 := (hne_w10 48 (by decide)).trans h48
  have h49 := (hne_w10 49 (by decide)).trans h49
  have h50 := (hne_w10 50 (by decide)).trans h50
  have h51 := (hne_w10 51 (by decide)).trans h51
  have h52 := (hne_w10 52 (by decide)).trans h52
  have h53 := (hne_w10 53 (by decide)).trans h53
  have h54 := (hne_w10 54 (by decide)).trans h54
  have h5 := (hne_w10 5 (by decide)).trans h5
  have h22 := (hne_w10 22 (by decide)).trans h22
  have h23 := (hne_w10 23 (by decide)).trans h23
  have hS := hS.put (k := 1) (by decide) hne_w10
  refine ww_aload_n K dX6_text_79 rfl ?_
  refine ww_get K dX6_text_80 lf_X6_10 h0 rfl ?_
  refine ww_aload_n K dX6_text_83 rfl ?_
  refine ww_get K dX6_text_84 lf_X6_23 h0 rfl ?_
  refine ww_get K dX6_text_87 lf_X6_80 h43 rfl ?_
  refine ww_putX K dX6_text_90 lp_X6_73 h1 (Nat.le_of_ble_eq_true rfl) rfl rfl (fun w11 hln_w11 h1 hne_w11 => ?_)
  have h1 : w11[1]? = some (cO 5 [eR (2), eI (0), eI (0), eI ((-1)), eR (3), eR (4), eR (5)]) := h1
  have h0 := (hne_w11 0 (by decide)).trans h0
  have h2 := (hne_w11 2 (by decide)).trans h2
  have h3 := (hne_w11 3 (by decide)).trans h3
  have h43 := (hne_w11 43 (by decide)).trans h43
  have h44 := (hne_w11 44 (by decide)).trans h44
  have h45 := (hne_w11 45 (by decide)).trans h45
  have h46 := (hne_w11 46 (by decide)).trans h46
  have h47 := (hne_w11 47 (by decide)).trans h47
  have h48 := (hne_w11 48 (by decide)).trans h48
  have h49 := (hne_w11 49 (by decide)).trans h49
  have h50 := (hne_w11 50 (by decide)).trans h50
  have h51 := (hne_w11 51 (by decide)).trans h51
  have h52 := (hne_w11 52 (by decide)).trans h52
  have h53 := (hne_w11 53 (by decide)).trans h53
  have h54 := (hne_w11 54 (by decide)).trans h54
  have h5 := (hne_w11 5 (by decide)).trans h5
  have h22 := (hne_w11 22 (by decide)).trans h22
  have h23 := (hne_w11 23 (by decide)).trans h23
  have hS := hS.put (k := 1) (by decide) hne_w11
  refine ww_aload_n K dX6_text_93 rfl ?_
  refine ww_get K dX6_text_94 lf_X6_23 h0 rfl ?_
  refine ww_get K dX6_text_97 lf_X6_79 h43 rfl ?_
  refine ww_if_eq (tgt := 105) K dX6_text_100 rfl (fun _ => ?_) (fun cc_ => absurd cc_ (by decide))
  refine ww_aload_n K dX6_text_105 rfl ?_
  refine ww_iload_n K dX6_text_106 rfl ?_
  refine ww_iload_n K dX6_text_107 rfl ?_
  refine ww_xVv K dX6_text_108 lc_X6_81 h0 ⟨_, rfl, rfl⟩ (ct_X6_keep_1 G l hz h0 h1 h3 h43 h5 h22 h23 h52 h53) rfl ⟨Nat.le_of_ble_eq_true rfl, Nat.le_of_ble_eq_true rfl⟩ (Nat.le_of_ble_eq_true rfl) (fun w12 hq hln_w12 => ?_)
  have hsm := hq
  have h0 := hsm.keep h0 (by decide)
  have h1 := hsm.keep h1 (by decide)
  have h2 := hsm.keep h2 (by decide)
  have h43 := hsm.keep h43 (by decide)
  have h44 := hsm.keep h44 (by decide)
  have h45 := hsm.keep h45 (by decide)
  have h46 := hsm.keep h46 (by decide)
  have h47 := hsm.keep h47 (by decide)
  have h48 := hsm.keep h48 (by decide)
  have h49 := hsm.keep h49 (by decide)
  have h50 := hsm.keep h50 (by decide)
  have h51 := hsm.keep h51 (by decide)
  have h52 := hsm.keep h52 (by decide)
  have h53 := hsm.keep h53 (by decide)
  have h54 := hsm.keep h54 (by decide)
  have h5 := hsm.keep h5 (by decide)
  have hS := hS.call hsm (by decide)
  refine ww_iload_n K dX6_text_111 rfl ?_
  exact ww_iret K dX6_text_112 hr ⟨_, rfl, rfl, hS⟩
set_option maxRecDepth 100000 in
set_option maxHeartbeats 4000000 in
theorem ct_X6_text_2 (G : EG) (l : Launch) {w : EW} {cnt : Nat → Int32} (hz : ∀ k, k < 6 → cnt k = 0) {x1 x2 x3 x4 x5 x6 x7 x8 r1 : Int32} {q1 q2 : Nat → Int32} {a1 a2 a3 a4 a5 a6 a7 : Int32} {f1 f2 f3 f4 f5 f6 f7 : Nat → Int32} {tp : Nat → Int32} {u1 : Int32} {v1 : Nat → Int32} (h0 : w[0]? = some (cO 6 [eR (1), eR (42), eR (43), eR (56), eR (60), eR (61), eR (62), eR (63)])) (h1 : w[1]? = some (cO 5 [eR (2), eI (0), eI (0), eI ((-1)), eR (3), eR (4), eR (5)])) (h2 : w[2]? = some (cI 0 600 tp)) (h3 : w[3]? = some (cI 0 6 cnt)) (h43 : w[43]? = some (cO 1 [eR (44), eR (52), eI (x1), eI (x2), eR (54), eR (55), eI (x3), eI (x4), eI (x5), eI (x6), eI (x7), eI (x8)])) (h44 : w[44]? = some (cO 2 [eI (a1), eR (45), eR (46), eR (47), eR (48), eR (49), eR (50), eR (51), eI (a2), eI (a3), eI (a4), eI (a5), eI (a6), eI (a7)])) (h45 : w[45]? = some (cI 0 6 f1)) (h46 : w[46]? = some (cI 0 6 f2)) (h47 : w[47]? = some (cI 0 6 f3)) (h48 : w[48]? = some (cI 0 6 f4)) (h49 : w[49]? = some (cI 0 72 f5)) (h50 : w[50]? = some (cI 0 6 f6)) (h51 : w[51]? = some (cI 0 3 f7)) (h52 : w[52]? = some (cO 3 [eI (r1), eR (53)])) (h53 : w[53]? = some (cI 0 200 q1)) (h54 : w[54]? = some (cI 0 600 q2)) (h5 : w[5]? = some (cQ 3 10 (va_up (va_up (va_up (va_up (va_up (va_up (va_up (va_up (va_up (va_up (fun _ => none) 0 (some 22)) 1 (some 24)) 2 (some 26)) 3 (some 28)) 4 (some 30)) 5 (some 32)) 6 (some 34)) 7 (some 36)) 8 (some 38)) 9 (some 40)))) (h26 : w[26]? = some (cO 3 [eI (u1), eR (27)])) (h27 : w[27]? = some (cI 0 200 v1)) : Ct G l yX6_text cX6_text 5 (some .int) 4 0 0 [eR (0), eI (2), eI ((-1))] w (fun r w2 => (∃ x : Int32, r = some (eI x) ∧ (x = 0 ∧ wc_same [1, 3, 26, 27, 43, 44, 49, 50, 51, 52, 53, 54] w w2))) := by
  refine Ct_of (by decide +kernel) (Nat.le_of_ble_eq_true rfl) ?_
  intro p_ e_ s_ m_ a_ b_ t_ c_ K0 hr hin
  have K : wc_C p_ s_ m_ a_ t_ c_ G RX6 cX6_text 5 w.length := K0
  clear K0
  refine WW_ls (ls2 := [some (eR (0)), some (eI (2)), some (eI ((-1))), none, none]) rfl ?_
  have hS : wc_same [1, 3, 26, 27, 43, 44, 49, 50, 51, 52, 53, 54] w w := wc_same.rf
  refine ww_aload_n K dX6_text_0 rfl ?_
  refine ww_iload_n K dX6_text_1 rfl ?_
  refine ww_iload_n K dX6_text_2 rfl ?_
  refine ww_cV K dX6_text_3 lc_X6_66 h0 ⟨_, rfl, rfl⟩ (ct_X6_placeFor_2 G l hz h0 h1 h3) rfl ⟨Nat.le_of_ble_eq_true rfl, Nat.le_of_ble_eq_true rfl⟩ (Nat.le_of_ble_eq_true rfl) ?_
  refine ww_istore_n (ls2 := [some (eR (0)), some (eI (2)), some (eI ((-1))), some (eI (0)), none]) K dX6_text_6 (by decide) rfl ?_
  refine ww_aload_n K dX6_text_7 rfl ?_
  refine ww_get K dX6_text_8 lf_X6_10 h0 rfl ?_
  refine ww_get K dX6_text_11 lf_X6_51 h1 rfl ?_
  refine ww_istore (ls2 := [some (eR (0)), some (eI (2)), some (eI ((-1))), some (eI (0)), some (eI (0))]) K dX6_text_14 (by decide) rfl ?_
  refine ww_aload_n K dX6_text_16 rfl ?_
  refine ww_get K dX6_text_17 lf_X6_10 h0 rfl ?_
  refine ww_iconst (v := 0) K dX6_text_20 rfl ?_
  refine ww_putX K dX6_text_21 lp_X6_51 h1 (Nat.le_of_ble_eq_true rfl) rfl rfl (fun w1 hln_w1 h1 hne_w1 => ?_)
  have h1 : w1[1]? = some (cO 5 [eR (2), eI (0), eI (0), eI ((-1)), eR (3), eR (4), eR (5)]) := h1
  have h0 := (hne_w1 0 (by decide)).trans h0
  have h2 := (hne_w1 2 (by decide)).trans h2
  have h3 := (hne_w1 3 (by decide)).trans h3
  have h43 := (hne_w1 43 (by decide)).trans h43
  have h44 := (hne_w1 44 (by decide)).trans h44
  have h45 := (hne_w1 45 (by decide)).trans h45
  have h46 := (hne_w1 46 (by decide)).trans h46
  have h47 := (hne_w1 47 (by decide)).trans h47
  have h48 := (hne_w1 48 (by decide)).trans h48
  have h49 := (hne_w1 49 (by decide)).trans h49
  have h50 := (hne_w1 50 (by decide)).trans h50
  have h51 := (hne_w1 51 (by decide)).trans h51
  have h52 := (hne_w1 52 (by decide)).trans h52
  have h53 := (hne_w1 53 (by decide)).trans h53
  have h54 := (hne_w1 54 (by decide)).trans h54
  have h5 := (hne_w1 5 (by decide)).trans h5
  have h26 := (hne_w1 26 (by decide)).trans h26
  have h27 := (hne_w1 27 (by decide)).trans h27
  have hS := hS.put (k := 1) (by decide) hne_w1
  refine ww_aload_n K dX6_text_24 rfl ?_
  refine ww_get K dX6_text_25 lf_X6_10 h0 rfl ?_
  refine ww_iconst (v := 0) K dX6_text_28 rfl ?_
  refine ww_putX K dX6_text_29 lp_X6_70 h1 (Nat.le_of_ble_eq_true rfl) rfl rfl (fun w2 hln_w2 h1 hne_w2 => ?_)
  have h1 : w2[1]? = some (cO 5 [eR (2), eI (0), eI (0), eI ((-1)), eR (3), eR (4), eR (5)]) := h1
  have h0 := (hne_w2 0 (by decide)).trans h0
  have h2 := (hne_w2 2 (by decide)).trans h2
  have h3 := (hne_w2 3 (by decide)).trans h3
  have h43 := (hne_w2 43 (by decide)).trans h43
  have h44 := (hne_w2 44 (by decide)).trans h44
  have h45 := (hne_w2 45 (by decide)).trans h45
  have h46 := (hne_w2 46 (by decide)).trans h46
  have h47 := (hne_w2 47 (by decide)).trans h47
  have h48 := (hne_w2 48 (by decide)).trans h48
  have h49 := (hne_w2 49 (by decide)).trans h49
  have h50 := (hne_w2 50 (by decide)).trans h50
  have h51 := (hne_w2 51 (by decide)).trans h51
  have h52 := (hne_w2 52 (by decide)).trans h52
  have h53 := (hne_w2 53 (by decide)).trans h53
  have h54 := (hne_w2 54 (by decide)).trans h54
  have h5 := (hne_w2 5 (by decide)).trans h5
  have h26 := (hne_w2 26 (by decide)).trans h26
  have h27 := (hne_w2 27 (by decide)).trans h27
  have hS := hS.put (k := 1) (by decide) hne_w2
  refine ww_aload_n K dX6_text_32 rfl ?_
  refine ww_get K dX6_text_33 lf_X6_10 h0 rfl ?_
  refine ww_iconst (v := (-1)) K dX6_text_36 rfl ?_
  refine ww_putX K dX6_text_37 lp_X6_73 h1 (Nat.le_of_ble_eq_true rfl) rfl rfl (fun w3 hln_w3 h1 hne_w3 => ?_)
  have h1 : w3[1]? = some (cO 5 [eR (2), eI (0), eI (0), eI ((-1)), eR (3), eR (4), eR (5)]) := h1
  have h0 := (hne_w3 0 (by decide)).trans h0
  have h2 := (hne_w3 2 (by decide)).trans h2
  have h3 := (hne_w3 3 (by decide)).trans h3
  have h43 := (hne_w3 43 (by decide)).trans h43
  have h44 := (hne_w3 44 (by decide)).trans h44
  have h45 := (hne_w3 45 (by decide)).trans h45
  have h46 := (hne_w3 46 (by decide)).trans h46
  have h47 := (hne_w3 47 (by decide)).trans h47
  have h48 := (hne_w3 48 (by decide)).trans h48
  have h49 := (hne_w3 49 (by decide)).trans h49
  have h50 := (hne_w3 50 (by decide)).trans h50
  have h51 := (hne_w3 51 (by decide)).trans h51
  have h52 := (hne_w3 52 (by decide)).trans h52
  have h53 := (hne_w3 53 (by decide)).trans h53
  have h54 := (hne_w3 54 (by decide)).trans h54
  have h5 := (hne_w3 5 (by decide)).trans h5
  have h26 := (hne_w3 26 (by decide)).trans h26
  have h27 := (hne_w3 27 (by decide)).trans h27
  have hS := hS.put (k := 1) (by decide) hne_w3
  refine ww_iload_n K dX6_text_40 rfl ?_
  refine ww_iconst (v := (-1)) K dX6_text_41 rfl ?_
  refine ww_icmp_ne (tgt := 48) K dX6_text_42 rfl (fun _ => ?_) (fun cc_ => absurd cc_ (by decide))
  refine ww_aload_n K dX6_text_48 rfl ?_
  refine ww_get K dX6_text_49 lf_X6_23 h0 rfl ?_
  refine ww_aload_n K dX6_text_52 rfl ?_
  refine ww_get K dX6_text_53 lf_X6_10 h0 rfl ?_
  refine ww_get K dX6_text_56 lf_X6_59 h1 rfl ?_
  refine ww_iload K dX6_text_59 rfl ?_
  refine ww_iload_n K dX6_text_61 rfl ?_
  refine ww_xVv K dX6_text_62 lc_X6_76 h43 ⟨_, rfl, rfl⟩ (ct_X1_read_n G l (s := 2) (by decide) h2 h43 h44 h45 h46 h47 h48 h49 h50 h51 h52 h53 h54) rfl ⟨Nat.le_of_ble_eq_true rfl, Nat.le_of_ble_eq_true rfl⟩ (Nat.le_of_ble_eq_true rfl) (fun w9 hq hln_w9 => ?_)
  obtain ⟨h43, h44, h52, ⟨F4, h49⟩, ⟨F5, h50⟩, ⟨F6, h51⟩, ⟨F7, h53⟩, ⟨F8, h54⟩, hsm⟩ := hq
  have h0 := hsm.keep h0 (by decide)
  have h1 := hsm.keep h1 (by decide)
  have h2 := hsm.keep h2 (by decide)
  have h3 := hsm.keep h3 (by decide)
  have h45 := hsm.keep h45 (by decide)
  have h46 := hsm.keep h46 (by decide)
  have h47 := hsm.keep h47 (by decide)
  have h48 := hsm.keep h48 (by decide)
  have h5 := hsm.keep h5 (by decide)
  have h26 := hsm.keep h26 (by decide)
  have h27 := hsm.keep h27 (by decide)
  have hS := hS.call hsm (by decide)
  refine ww_aload_n K dX6_text_65 rfl ?_
  refine ww_get K dX6_text_66 lf_X6_10 h0 rfl ?_
  refine ww_aload_n K dX6_text_69 rfl ?_
  refine ww_get K dX6_text_70 lf_X6_23 h0 rfl ?_
  refine ww_get K dX6_text_73 lf_X6_79 h43 rfl ?_
  refine ww_putX K dX6_text_76 lp_X6_70 h1 (Nat.le_of_ble_eq_true rfl) rfl rfl (fun w10 hln_w10 h1 hne_w10 => ?_)
  have h1 : w10[1]? = some (cO 5 [eR (2), eI (0), eI (0), eI ((-1)), eR (3), eR (4), eR (5)]) := h1
  have h0 := (hne_w10 0 (by decide)).trans h0
  have h2 := (hne_w10 2 (by decide)).trans h2
  have h3 := (hne_w10 3 (by decide)).trans h3
  have h43 := (hne_w10 43 (by decide)).trans h43
  have h44 := (hne_w10 44 (by decide)).trans h44
  have h45 := (hne_w10 45 (by decide)).trans h45
  have h46 := (hne_w10 46 (by decide)).trans h46
  have h47 := (hne_w10 47 (by decide)).trans h47
  have h48 := (hne_w10 48 (by decide)).trans h48
  have h49 := (hne_w10 49 (by decide)).trans h49
  have h50 := (hne_w10 50 (by decide)).trans h50
  have h51 := (hne_w10 51 (by decide)).trans h51
  have h52 := (hne_w10 52 (by decide)).trans h52
  have h53 := (hne_w10 53 (by decide)).trans h53
  have h54 := (hne_w10 54 (by decide)).trans h54
  have h5 := (hne_w10 5 (by decide)).trans h5
  have h26 := (hne_w10 26 (by decide)).trans h26
  have h27 := (hne_w10 27 (by decide)).trans h27
  have hS := hS.put (k := 1) (by decide) hne_w10
  refine ww_aload_n K dX6_text_79 rfl ?_
  refine ww_get K dX6_text_80 lf_X6_10 h0 rfl ?_
  refine ww_aload_n K dX6_text_83 rfl ?_
  refine ww_get K dX6_text_84 lf_X6_23 h0 rfl ?_
  refine ww_get K dX6_text_87 lf_X6_80 h43 rfl ?_
  refine ww_putX K dX6_text_90 lp_X6_73 h1 (Nat.le_of_ble_eq_true rfl) rfl rfl (fun w11 hln_w11 h1 hne_w11 => ?_)
  have h1 : w11[1]? = some (cO 5 [eR (2), eI (0), eI (0), eI ((-1)), eR (3), eR (4), eR (5)]) := h1
  have h0 := (hne_w11 0 (by decide)).trans h0
  have h2 := (hne_w11 2 (by decide)).trans h2
  have h3 := (hne_w11 3 (by decide)).trans h3
  have h43 := (hne_w11 43 (by decide)).trans h43
  have h44 := (hne_w11 44 (by decide)).trans h44
  have h45 := (hne_w11 45 (by decide)).trans h45
  have h46 := (hne_w11 46 (by decide)).trans h46
  have h47 := (hne_w11 47 (by decide)).trans h47
  have h48 := (hne_w11 48 (by decide)).trans h48
  have h49 := (hne_w11 49 (by decide)).trans h49
  have h50 := (hne_w11 50 (by decide)).trans h50
  have h51 := (hne_w11 51 (by decide)).trans h51
  have h52 := (hne_w11 52 (by decide)).trans h52
  have h53 := (hne_w11 53 (by decide)).trans h53
  have h54 := (hne_w11 54 (by decide)).trans h54
  have h5 := (hne_w11 5 (by decide)).trans h5
  have h26 := (hne_w11 26 (by decide)).trans h26
  have h27 := (hne_w11 27 (by decide)).trans h27
  have hS := hS.put (k := 1) (by decide) hne_w11
  refine ww_aload_n K dX6_text_93 rfl ?_
  refine ww_get K dX6_text_94 lf_X6_23 h0 rfl ?_
  refine ww_get K dX6_text_97 lf_X6_79 h43 rfl ?_
  refine ww_if_eq (tgt := 105) K dX6_text_100 rfl (fun _ => ?_) (fun cc_ => absurd cc_ (by decide))
  refine ww_aload_n K dX6_text_105 rfl ?_
  refine ww_iload_n K dX6_text_106 rfl ?_
  refine ww_iload_n K dX6_text_107 rfl ?_
  refine ww_xVv K dX6_text_108 lc_X6_81 h0 ⟨_, rfl, rfl⟩ (ct_X6_keep_2 G l hz h0 h1 h3 h43 h5 h26 h27 h52 h53) rfl ⟨Nat.le_of_ble_eq_true rfl, Nat.le_of_ble_eq_true rfl⟩ (Nat.le_of_ble_eq_true rfl) (fun w12 hq hln_w12 => ?_)
  have hsm := hq
  have h0 := hsm.keep h0 (by decide)
  have h1 := hsm.keep h1 (by decide)
  have h2 := hsm.keep h2 (by decide)
  have h43 := hsm.keep h43 (by decide)
  have h44 := hsm.keep h44 (by decide)
  have h45 := hsm.keep h45 (by decide)
  have h46 := hsm.keep h46 (by decide)
  have h47 := hsm.keep h47 (by decide)
  have h48 := hsm.keep h48 (by decide)
  have h49 := hsm.keep h49 (by decide)
  have h50 := hsm.keep h50 (by decide)
  have h51 := hsm.keep h51 (by decide)
  have h52 := hsm.keep h52 (by decide)
  have h53 := hsm.keep h53 (by decide)
  have h54 := hsm.keep h54 (by decide)
  have h5 := hsm.keep h5 (by decide)
  have hS := hS.call hsm (by decide)
  refine ww_iload_n K dX6_text_111 rfl ?_
  exact ww_iret K dX6_text_112 hr ⟨_, rfl, rfl, hS⟩
set_option maxRecDepth 100000 in
set_option maxHeartbeats 4000000 in
theorem ct_X6_text_3 (G : EG) (l : Launch) {w : EW} {cnt : Nat → Int32} (hz : ∀ k, k < 6 → cnt k = 0) {x1 x2 x3 x4 x5 x6 x7 x8 r1 : Int32} {q1 q2 : Nat → Int32} {a1 a2 a3 a4 a5 a6 a7 : Int32} {f1 f2 f3 f4 f5 f6 f7 : Nat → Int32} {tp : Nat → Int32} {u1 : Int32} {v1 : Nat → Int32} (h0 : w[0]? = some (cO 6 [eR (1), eR (42), eR (43), eR (56), eR (60), eR (61), eR (62), eR (63)])) (h1 : w[1]? = some (cO 5 [eR (2), eI (0), eI (0), eI ((-1)), eR (3), eR (4), eR (5)])) (h2 : w[2]? = some (cI 0 600 tp)) (h3 : w[3]? = some (cI 0 6 cnt)) (h43 : w[43]? = some (cO 1 [eR (44), eR (52), eI (x1), eI (x2), eR (54), eR (55), eI (x3), eI (x4), eI (x5), eI (x6), eI (x7), eI (x8)])) (h44 : w[44]? = some (cO 2 [eI (a1), eR (45), eR (46), eR (47), eR (48), eR (49), eR (50), eR (51), eI (a2), eI (a3), eI (a4), eI (a5), eI (a6), eI (a7)])) (h45 : w[45]? = some (cI 0 6 f1)) (h46 : w[46]? = some (cI 0 6 f2)) (h47 : w[47]? = some (cI 0 6 f3)) (h48 : w[48]? = some (cI 0 6 f4)) (h49 : w[49]? = some (cI 0 72 f5)) (h50 : w[50]? = some (cI 0 6 f6)) (h51 : w[51]? = some (cI 0 3 f7)) (h52 : w[52]? = some (cO 3 [eI (r1), eR (53)])) (h53 : w[53]? = some (cI 0 200 q1)) (h54 : w[54]? = some (cI 0 600 q2)) (h5 : w[5]? = some (cQ 3 10 (va_up (va_up (va_up (va_up (va_up (va_up (va_up (va_up (va_up (va_up (fun _ => none) 0 (some 22)) 1 (some 24)) 2 (some 26)) 3 (some 28)) 4 (some 30)) 5 (some 32)) 6 (some 34)) 7 (some 36)) 8 (some 38)) 9 (some 40)))) (h30 : w[30]? = some (cO 3 [eI (u1), eR (31)])) (h31 : w[31]? = some (cI 0 200 v1)) : Ct G l yX6_text cX6_text 5 (some .int) 4 0 0 [eR (0), eI (3), eI ((-1))] w (fun r w2 => (∃ x : Int32, r = some (eI x) ∧ (x = 0 ∧ wc_same [1, 3, 30, 31, 43, 44, 49, 50, 51, 52, 53, 54] w w2))) := by
  refine Ct_of (by decide +kernel) (Nat.le_of_ble_eq_true rfl) ?_
  intro p_ e_ s_ m_ a_ b_ t_ c_ K0 hr hin
  have K : wc_C p_ s_ m_ a_ t_ c_ G RX6 cX6_text 5 w.length := K0
  clear K0
  refine WW_ls (ls2 := [some (eR (0)), some (eI (3)), some (eI ((-1))), none, none]) rfl ?_
  have hS : wc_same [1, 3, 30, 31, 43, 44, 49, 50, 51, 52, 53, 54] w w := wc_same.rf
  refine ww_aload_n K dX6_text_0 rfl ?_
  refine ww_iload_n K dX6_text_1 rfl ?_
  refine ww_iload_n K dX6_text_2 rfl ?_
  refine ww_cV K dX6_text_3 lc_X6_66 h0 ⟨_, rfl, rfl⟩ (ct_X6_placeFor_3 G l hz h0 h1 h3) rfl ⟨Nat.le_of_ble_eq_true rfl, Nat.le_of_ble_eq_true rfl⟩ (Nat.le_of_ble_eq_true rfl) ?_
  refine ww_istore_n (ls2 := [some (eR (0)), some (eI (3)), some (eI ((-1))), some (eI (0)), none]) K dX6_text_6 (by decide) rfl ?_
  refine ww_aload_n K dX6_text_7 rfl ?_
  refine ww_get K dX6_text_8 lf_X6_10 h0 rfl ?_
  refine ww_get K dX6_text_11 lf_X6_51 h1 rfl ?_
  refine ww_istore (ls2 := [some (eR (0)), some (eI (3)), some (eI ((-1))), some (eI (0)), some (eI (0))]) K dX6_text_14 (by decide) rfl ?_
  refine ww_aload_n K dX6_text_16 rfl ?_
  refine ww_get K dX6_text_17 lf_X6_10 h0 rfl ?_
  refine ww_iconst (v := 0) K dX6_text_20 rfl ?_
  refine ww_putX K dX6_text_21 lp_X6_51 h1 (Nat.le_of_ble_eq_true rfl) rfl rfl (fun w1 hln_w1 h1 hne_w1 => ?_)
  have h1 : w1[1]? = some (cO 5 [eR (2), eI (0), eI (0), eI ((-1)), eR (3), eR (4), eR (5)]) := h1
  have h0 := (hne_w1 0 (by decide)).trans h0
  have h2 := (hne_w1 2 (by decide)).trans h2
  have h3 := (hne_w1 3 (by decide)).trans h3
  have h43 := (hne_w1 43 (by decide)).trans h43
  have h44 := (hne_w1 44 (by decide)).trans h44
  have h45 := (hne_w1 45 (by decide)).trans h45
  have h46 := (hne_w1 46 (by decide)).trans h46
  have h47 := (hne_w1 47 (by decide)).trans h47
  have h48 := (hne_w1 48 (by decide)).trans h48
  have h49 := (hne_w1 49 (by decide)).trans h49
  have h50 := (hne_w1 50 (by decide)).trans h50
  have h51 := (hne_w1 51 (by decide)).trans h51
  have h52 := (hne_w1 52 (by decide)).trans h52
  have h53 := (hne_w1 53 (by decide)).trans h53
  have h54 := (hne_w1 54 (by decide)).trans h54
  have h5 := (hne_w1 5 (by decide)).trans h5
  have h30 := (hne_w1 30 (by decide)).trans h30
  have h31 := (hne_w1 31 (by decide)).trans h31
  have hS := hS.put (k := 1) (by decide) hne_w1
  refine ww_aload_n K dX6_text_24 rfl ?_
  refine ww_get K dX6_text_25 lf_X6_10 h0 rfl ?_
  refine ww_iconst (v := 0) K dX6_text_28 rfl ?_
  refine ww_putX K dX6_text_29 lp_X6_70 h1 (Nat.le_of_ble_eq_true rfl) rfl rfl (fun w2 hln_w2 h1 hne_w2 => ?_)
  have h1 : w2[1]? = some (cO 5 [eR (2), eI (0), eI (0), eI ((-1)), eR (3), eR (4), eR (5)]) := h1
  have h0 := (hne_w2 0 (by decide)).trans h0
  have h2 := (hne_w2 2 (by decide)).trans h2
  have h3 := (hne_w2 3 (by decide)).trans h3
  have h43 := (hne_w2 43 (by decide)).trans h43
  have h44 := (hne_w2 44 (by decide)).trans h44
  have h45 := (hne_w2 45 (by decide)).trans h45
  have h46 := (hne_w2 46 (by decide)).trans h46
  have h47 := (hne_w2 47 (by decide)).trans h47
  have h48 := (hne_w2 48 (by decide)).trans h48
  have h49 := (hne_w2 49 (by decide)).trans h49
  have h50 := (hne_w2 50 (by decide)).trans h50
  have h51 := (hne_w2 51 (by decide)).trans h51
  have h52 := (hne_w2 52 (by decide)).trans h52
  have h53 := (hne_w2 53 (by decide)).trans h53
  have h54 := (hne_w2 54 (by decide)).trans h54
  have h5 := (hne_w2 5 (by decide)).trans h5
  have h30 := (hne_w2 30 (by decide)).trans h30
  have h31 := (hne_w2 31 (by decide)).trans h31
  have hS := hS.put (k := 1) (by decide) hne_w2
  refine ww_aload_n K dX6_text_32 rfl ?_
  refine ww_get K dX6_text_33 lf_X6_10 h0 rfl ?_
  refine ww_iconst (v := (-1)) K dX6_text_36 rfl ?_
  refine ww_putX K dX6_text_37 lp_X6_73 h1 (Nat.le_of_ble_eq_true rfl) rfl rfl (fun w3 hln_w3 h1 hne_w3 => ?_)
  have h1 : w3[1]? = some (cO 5 [eR (2), eI (0), eI (0), eI ((-1)), eR (3), eR (4), eR (5)]) := h1
  have h0 := (hne_w3 0 (by decide)).trans h0
  have h2 := (hne_w3 2 (by decide)).trans h2
  have h3 := (hne_w3 3 (by decide)).trans h3
  have h43 := (hne_w3 43 (by decide)).trans h43
  have h44 := (hne_w3 44 (by decide)).trans h44
  have h45 := (hne_w3 45 (by decide)).trans h45
  have h46 := (hne_w3 46 (by decide)).trans h46
  have h47 := (hne_w3 47 (by decide)).trans h47
  have h48 := (hne_w3 48 (by decide)).trans h48
  have h49 := (hne_w3 49 (by decide)).trans h49
  have h50 := (hne_w3 50 (by decide)).trans h50
  have h51 := (hne_w3 51 (by decide)).trans h51
  have h52 := (hne_w3 52 (by decide)).trans h52
  have h53 := (hne_w3 53 (by decide)).trans h53
  have h54 := (hne_w3 54 (by decide)).trans h54
  have h5 := (hne_w3 5 (by decide)).trans h5
  have h30 := (hne_w3 30 (by decide)).trans h30
  have h31 := (hne_w3 31 (by decide)).trans h31
  have hS := hS.put (k := 1) (by decide) hne_w3
  refine ww_iload_n K dX6_text_40 rfl ?_
  refine ww_iconst (v := (-1)) K dX6_text_41 rfl ?_
  refine ww_icmp_ne (tgt := 48) K dX6_text_42 rfl (fun _ => ?_) (fun cc_ => absurd cc_ (by decide))
  refine ww_aload_n K dX6_text_48 rfl ?_
  refine ww_get K dX6_text_49 lf_X6_23 h0 rfl ?_
  refine ww_aload_n K dX6_text_52 rfl ?_
  refine ww_get K dX6_text_53 lf_X6_10 h0 rfl ?_
  refine ww_get K dX6_text_56 lf_X6_59 h1 rfl ?_
  refine ww_iload K dX6_text_59 rfl ?_
  refine ww_iload_n K dX6_text_61 rfl ?_
  refine ww_xVv K dX6_text_62 lc_X6_76 h43 ⟨_, rfl, rfl⟩ (ct_X1_read_n G l (s := 3) (by decide) h2 h43 h44 h45 h46 h47 h48 h49 h50 h51 h52 h53 h54) rfl ⟨Nat.le_of_ble_eq_true rfl, Nat.le_of_ble_eq_true rfl⟩ (Nat.le_of_ble_eq_true rfl) (fun w9 hq hln_w9 => ?_)
  obtain ⟨h43, h44, h52, ⟨F4, h49⟩, ⟨F5, h50⟩, ⟨F6, h51⟩, ⟨F7, h53⟩, ⟨F8, h54⟩, hsm⟩ := hq
  have h0 := hsm.keep h0 (by decide)
  have h1 := hsm.keep h1 (by decide)
  have h2 := hsm.keep h2 (by decide)
  have h3 := hsm.keep h3 (by decide)
  have h45 := hsm.keep h45 (by decide)
  have h46 := hsm.keep h46 (by decide)
  have h47 := hsm.keep h47 (by decide)
  have h48 := hsm.keep h48 (by decide)
  have h5 := hsm.keep h5 (by decide)
  have h30 := hsm.keep h30 (by decide)
  have h31 := hsm.keep h31 (by decide)
  have hS := hS.call hsm (by decide)
  refine ww_aload_n K dX6_text_65 rfl ?_
  refine ww_get K dX6_text_66 lf_X6_10 h0 rfl ?_
  refine ww_aload_n K dX6_text_69 rfl ?_
  refine ww_get K dX6_text_70 lf_X6_23 h0 rfl ?_
  refine ww_get K dX6_text_73 lf_X6_79 h43 rfl ?_
  refine ww_putX K dX6_text_76 lp_X6_70 h1 (Nat.le_of_ble_eq_true rfl) rfl rfl (fun w10 hln_w10 h1 hne_w10 => ?_)
  have h1 : w10[1]? = some (cO 5 [eR (2), eI (0), eI (0), eI ((-1)), eR (3), eR (4), eR (5)]) := h1
  have h0 := (hne_w10 0 (by decide)).trans h0
  have h2 := (hne_w10 2 (by decide)).trans h2
  have h3 := (hne_w10 3 (by decide)).trans h3
  have h43 := (hne_w10 43 (by decide)).trans h43
  have h44 := (hne_w10 44 (by decide)).trans h44
  have h45 := (hne_w10 45 (by decide)).trans h45
  have h46 := (hne_w10 46 (by decide)).trans h46
  have h47 := (hne_w10 47 (by decide)).trans h47
  have h48 := (hne_w10 48 (by decide)).trans h48
  have h49 := (hne_w10 49 (by decide)).trans h49
  have h50 := (hne_w10 50 (by decide)).trans h50
  have h51 := (hne_w10 51 (by decide)).trans h51
  have h52 := (hne_w10 52 (by decide)).trans h52
  have h53 := (hne_w10 53 (by decide)).trans h53
  have h54 := (hne_w10 54 (by decide)).trans h54
  have h5 := (hne_w10 5 (by decide)).trans h5
  have h30 := (hne_w10 30 (by decide)).trans h30
  have h31 := (hne_w10 31 (by decide)).trans h31
  have hS := hS.put (k := 1) (by decide) hne_w10
  refine ww_aload_n K dX6_text_79 rfl ?_
  refine ww_get K dX6_text_80 lf_X6_10 h0 rfl ?_
  refine ww_aload_n K dX6_text_83 rfl ?_
  refine ww_get K dX6_text_84 lf_X6_23 h0 rfl ?_
  refine ww_get K dX6_text_87 lf_X6_80 h43 rfl ?_
  refine ww_putX K dX6_text_90 lp_X6_73 h1 (Nat.le_of_ble_eq_true rfl) rfl rfl (fun w11 hln_w11 h1 hne_w11 => ?_)
  have h1 : w11[1]? = some (cO 5 [eR (2), eI (0), eI (0), eI ((-1)), eR (3), eR (4), eR (5)]) := h1
  have h0 := (hne_w11 0 (by decide)).trans h0
  have h2 := (hne_w11 2 (by decide)).trans h2
  have h3 := (hne_w11 3 (by decide)).trans h3
  have h43 := (hne_w11 43 (by decide)).trans h43
  have h44 := (hne_w11 44 (by decide)).trans h44
  have h45 := (hne_w11 45 (by decide)).trans h45
  have h46 := (hne_w11 46 (by decide)).trans h46
  have h47 := (hne_w11 47 (by decide)).trans h47
  have h48 := (hne_w11 48 (by decide)).trans h48
  have h49 := (hne_w11 49 (by decide)).trans h49
  have h50 := (hne_w11 50 (by decide)).trans h50
  have h51 := (hne_w11 51 (by decide)).trans h51
  have h52 := (hne_w11 52 (by decide)).trans h52
  have h53 := (hne_w11 53 (by decide)).trans h53
  have h54 := (hne_w11 54 (by decide)).trans h54
  have h5 := (hne_w11 5 (by decide)).trans h5
  have h30 := (hne_w11 30 (by decide)).trans h30
  have h31 := (hne_w11 31 (by decide)).trans h31
  have hS := hS.put (k := 1) (by decide) hne_w11
  refine ww_aload_n K dX6_text_93 rfl ?_
  refine ww_get K dX6_text_94 lf_X6_23 h0 rfl ?_
  refine ww_get K dX6_text_97 lf_X6_79 h43 rfl ?_
  refine ww_if_eq (tgt := 105) K dX6_text_100 rfl (fun _ => ?_) (fun cc_ => absurd cc_ (by decide))
  refine ww_aload_n K dX6_text_105 rfl ?_
  refine ww_iload_n K dX6_text_106 rfl ?_
  refine ww_iload_n K dX6_text_107 rfl ?_
  refine ww_xVv K dX6_text_108 lc_X6_81 h0 ⟨_, rfl, rfl⟩ (ct_X6_keep_3 G l hz h0 h1 h3 h43 h5 h30 h31 h52 h53) rfl ⟨Nat.le_of_ble_eq_true rfl, Nat.le_of_ble_eq_true rfl⟩ (Nat.le_of_ble_eq_true rfl) (fun w12 hq hln_w12 => ?_)
  have hsm := hq
  have h0 := hsm.keep h0 (by decide)
  have h1 := hsm.keep h1 (by decide)
  have h2 := hsm.keep h2 (by decide)
  have h43 := hsm.keep h43 (by decide)
  have h44 := hsm.keep h44 (by decide)
  have h45 := hsm.keep h45 (by decide)
  have h46 := hsm.keep h46 (by decide)
  have h47 := hsm.keep h47 (by decide)
  have h48 := hsm.keep h48 (by decide)
  have h49 := hsm.keep h49 (by decide)
  have h50 := hsm.keep h50 (by decide)
  have h51 := hsm.keep h51 (by decide)
  have h52 := hsm.keep h52 (by decide)
  have h53 := hsm.keep h53 (by decide)
  have h54 := hsm.keep h54 (by decide)
  have h5 := hsm.keep h5 (by decide)
  have hS := hS.call hsm (by decide)
  refine ww_iload_n K dX6_text_111 rfl ?_
  exact ww_iret K dX6_text_112 hr ⟨_, rfl, rfl, hS⟩
set_option maxRecDepth 100000 in
set_option maxHeartbeats 4000000 in
theorem ct_X6_text_4 (G : EG) (l : Launch) {w : EW} {cnt : Nat → Int32} (hz : ∀ k, k < 6 → cnt k = 0) {x1 x2 x3 x4 x5 x6 x7 x8 r1 : Int32} {q1 q2 : Nat → Int32} {a1 a2 a3 a4 a5 a6 a7 : Int32} {f1 f2 f3 f4 f5 f6 f7 : Nat → Int32} {tp : Nat → Int32} {u1 : Int32} {v1 : Nat → Int32} (h0 : w[0]? = some (cO 6 [eR (1), eR (42), eR (43), eR (56), eR (60), eR (61), eR (62), eR (63)])) (h1 : w[1]? = some (cO 5 [eR (2), eI (0), eI (0), eI ((-1)), eR (3), eR (4), eR (5)])) (h2 : w[2]? = some (cI 0 600 tp)) (h3 : w[3]? = some (cI 0 6 cnt)) (h43 : w[43]? = some (cO 1 [eR (44), eR (52), eI (x1), eI (x2), eR (54), eR (55), eI (x3), eI (x4), eI (x5), eI (x6), eI (x7), eI (x8)])) (h44 : w[44]? = some (cO 2 [eI (a1), eR (45), eR (46), eR (47), eR (48), eR (49), eR (50), eR (51), eI (a2), eI (a3), eI (a4), eI (a5), eI (a6), eI (a7)])) (h45 : w[45]? = some (cI 0 6 f1)) (h46 : w[46]? = some (cI 0 6 f2)) (h47 : w[47]? = some (cI 0 6 f3)) (h48 : w[48]? = some (cI 0 6 f4)) (h49 : w[49]? = some (cI 0 72 f5)) (h50 : w[50]? = some (cI 0 6 f6)) (h51 : w[51]? = some (cI 0 3 f7)) (h52 : w[52]? = some (cO 3 [eI (r1), eR (53)])) (h53 : w[53]? = some (cI 0 200 q1)) (h54 : w[54]? = some (cI 0 600 q2)) (h5 : w[5]? = some (cQ 3 10 (va_up (va_up (va_up (va_up (va_up (va_up (va_up (va_up (va_up (va_up (fun _ => none) 0 (some 22)) 1 (some 24)) 2 (some 26)) 3 (some 28)) 4 (some 30)) 5 (some 32)) 6 (some 34)) 7 (some 36)) 8 (some 38)) 9 (some 40)))) (h34 : w[34]? = some (cO 3 [eI (u1), eR (35)])) (h35 : w[35]? = some (cI 0 200 v1)) : Ct G l yX6_text cX6_text 5 (some .int) 4 0 0 [eR (0), eI (4), eI ((-1))] w (fun r w2 => (∃ x : Int32, r = some (eI x) ∧ (x = 0 ∧ wc_same [1, 3, 34, 35, 43, 44, 49, 50, 51, 52, 53, 54] w w2))) := by
  refine Ct_of (by decide +kernel) (Nat.le_of_ble_eq_true rfl) ?_
  intro p_ e_ s_ m_ a_ b_ t_ c_ K0 hr hin
  have K : wc_C p_ s_ m_ a_ t_ c_ G RX6 cX6_text 5 w.length := K0
  clear K0
  refine WW_ls (ls2 := [some (eR (0)), some (eI (4)), some (eI ((-1))), none, none]) rfl ?_
  have hS : wc_same [1, 3, 34, 35, 43, 44, 49, 50, 51, 52, 53, 54] w w := wc_same.rf
  refine ww_aload_n K dX6_text_0 rfl ?_
  refine ww_iload_n K dX6_text_1 rfl ?_
  refine ww_iload_n K dX6_text_2 rfl ?_
  refine ww_cV K dX6_text_3 lc_X6_66 h0 ⟨_, rfl, rfl⟩ (ct_X6_placeFor_4 G l hz h0 h1 h3) rfl ⟨Nat.le_of_ble_eq_true rfl, Nat.le_of_ble_eq_true rfl⟩ (Nat.le_of_ble_eq_true rfl) ?_
  refine ww_istore_n (ls2 := [some (eR (0)), some (eI (4)), some (eI ((-1))), some (eI (0)), none]) K dX6_text_6 (by decide) rfl ?_
  refine ww_aload_n K dX6_text_7 rfl ?_
  refine ww_get K dX6_text_8 lf_X6_10 h0 rfl ?_
  refine ww_get K dX6_text_11 lf_X6_51 h1 rfl ?_
  refine ww_istore (ls2 := [some (eR (0)), some (eI (4)), some (eI ((-1))), some (eI (0)), some (eI (0))]) K dX6_text_14 (by decide) rfl ?_
  refine ww_aload_n K dX6_text_16 rfl ?_
  refine ww_get K dX6_text_17 lf_X6_10 h0 rfl ?_
  refine ww_iconst (v := 0) K dX6_text_20 rfl ?_
  refine ww_putX K dX6_text_21 lp_X6_51 h1 (Nat.le_of_ble_eq_true rfl) rfl rfl (fun w1 hln_w1 h1 hne_w1 => ?_)
  have h1 : w1[1]? = some (cO 5 [eR (2), eI (0), eI (0), eI ((-1)), eR (3), eR (4), eR (5)]) := h1
  have h0 := (hne_w1 0 (by decide)).trans h0
  have h2 := (hne_w1 2 (by decide)).trans h2
  have h3 := (hne_w1 3 (by decide)).trans h3
  have h43 := (hne_w1 43 (by decide)).trans h43
  have h44 := (hne_w1 44 (by decide)).trans h44
  have h45 := (hne_w1 45 (by decide)).trans h45
  have h46 := (hne_w1 46 (by decide)).trans h46
  have h47 := (hne_w1 47 (by decide)).trans h47
  have h48 := (hne_w1 48 (by decide)).trans h48
  have h49 := (hne_w1 49 (by decide)).trans h49
  have h50 := (hne_w1 50 (by decide)).trans h50
  have h51 := (hne_w1 51 (by decide)).trans h51
  have h52 := (hne_w1 52 (by decide)).trans h52
  have h53 := (hne_w1 53 (by decide)).trans h53
  have h54 := (hne_w1 54 (by decide)).trans h54
  have h5 := (hne_w1 5 (by decide)).trans h5
  have h34 := (hne_w1 34 (by decide)).trans h34
  have h35 := (hne_w1 35 (by decide)).trans h35
  have hS := hS.put (k := 1) (by decide) hne_w1
  refine ww_aload_n K dX6_text_24 rfl ?_
  refine ww_get K dX6_text_25 lf_X6_10 h0 rfl ?_
  refine ww_iconst (v := 0) K dX6_text_28 rfl ?_
  refine ww_putX K dX6_text_29 lp_X6_70 h1 (Nat.le_of_ble_eq_true rfl) rfl rfl (fun w2 hln_w2 h1 hne_w2 => ?_)
  have h1 : w2[1]? = some (cO 5 [eR (2), eI (0), eI (0), eI ((-1)), eR (3), eR (4), eR (5)]) := h1
  have h0 := (hne_w2 0 (by decide)).trans h0
  have h2 := (hne_w2 2 (by decide)).trans h2
  have h3 := (hne_w2 3 (by decide)).trans h3
  have h43 := (hne_w2 43 (by decide)).trans h43
  have h44 := (hne_w2 44 (by decide)).trans h44
  have h45 := (hne_w2 45 (by decide)).trans h45
  have h46 := (hne_w2 46 (by decide)).trans h46
  have h47 := (hne_w2 47 (by decide)).trans h47
  have h48 := (hne_w2 48 (by decide)).trans h48
  have h49 := (hne_w2 49 (by decide)).trans h49
  have h50 := (hne_w2 50 (by decide)).trans h50
  have h51 := (hne_w2 51 (by decide)).trans h51
  have h52 := (hne_w2 52 (by decide)).trans h52
  have h53 := (hne_w2 53 (by decide)).trans h53
  have h54 := (hne_w2 54 (by decide)).trans h54
  have h5 := (hne_w2 5 (by decide)).trans h5
  have h34 := (hne_w2 34 (by decide)).trans h34
  have h35 := (hne_w2 35 (by decide)).trans h35
  have hS := hS.put (k := 1) (by decide) hne_w2
  refine ww_aload_n K dX6_text_32 rfl ?_
  refine ww_get K dX6_text_33 lf_X6_10 h0 rfl ?_
  refine ww_iconst (v := (-1)) K dX6_text_36 rfl ?_
  refine ww_putX K dX6_text_37 lp_X6_73 h1 (Nat.le_of_ble_eq_true rfl) rfl rfl (fun w3 hln_w3 h1 hne_w3 => ?_)
  have h1 : w3[1]? = some (cO 5 [eR (2), eI (0), eI (0), eI ((-1)), eR (3), eR (4), eR (5)]) := h1
  have h0 := (hne_w3 0 (by decide)).trans h0
  have h2 := (hne_w3 2 (by decide)).trans h2
  have h3 := (hne_w3 3 (by decide)).trans h3
  have h43 := (hne_w3 43 (by decide)).trans h43
  have h44 := (hne_w3 44 (by decide)).trans h44
  have h45 := (hne_w3 45 (by decide)).trans h45
  have h46 := (hne_w3 46 (by decide)).trans h46
  have h47 := (hne_w3 47 (by decide)).trans h47
  have h48 := (hne_w3 48 (by decide)).trans h48
  have h49 := (hne_w3 49 (by decide)).trans h49
  have h50 := (hne_w3 50 (by decide)).trans h50
  have h51 := (hne_w3 51 (by decide)).trans h51
  have h52 := (hne_w3 52 (by decide)).trans h52
  have h53 := (hne_w3 53 (by decide)).trans h53
  have h54 := (hne_w3 54 (by decide)).trans h54
  have h5 := (hne_w3 5 (by decide)).trans h5
  have h34 := (hne_w3 34 (by decide)).trans h34
  have h35 := (hne_w3 35 (by decide)).trans h35
  have hS := hS.put (k := 1) (by decide) hne_w3
  refine ww_iload_n K dX6_text_40 rfl ?_
  refine ww_iconst (v := (-1)) K dX6_text_41 rfl ?_
  refine ww_icmp_ne (tgt := 48) K dX6_text_42 rfl (fun _ => ?_) (fun cc_ => absurd cc_ (by decide))
  refine ww_aload_n K dX6_text_48 rfl ?_
  refine ww_get K dX6_text_49 lf_X6_23 h0 rfl ?_
  refine ww_aload_n K dX6_text_52 rfl ?_
  refine ww_get K dX6_text_53 lf_X6_10 h0 rfl ?_
  refine ww_get K dX6_text_56 lf_X6_59 h1 rfl ?_
  refine ww_iload K dX6_text_59 rfl ?_
  refine ww_iload_n K dX6_text_61 rfl ?_
  refine ww_xVv K dX6_text_62 lc_X6_76 h43 ⟨_, rfl, rfl⟩ (ct_X1_read_n G l (s := 4) (by decide) h2 h43 h44 h45 h46 h47 h48 h49 h50 h51 h52 h53 h54) rfl ⟨Nat.le_of_ble_eq_true rfl, Nat.le_of_ble_eq_true rfl⟩ (Nat.le_of_ble_eq_true rfl) (fun w9 hq hln_w9 => ?_)
  obtain ⟨h43, h44, h52, ⟨F4, h49⟩, ⟨F5, h50⟩, ⟨F6, h51⟩, ⟨F7, h53⟩, ⟨F8, h54⟩, hsm⟩ := hq
  have h0 := hsm.keep h0 (by decide)
  have h1 := hsm.keep h1 (by decide)
  have h2 := hsm.keep h2 (by decide)
  have h3 := hsm.keep h3 (by decide)
  have h45 := hsm.keep h45 (by decide)
  have h46 := hsm.keep h46 (by decide)
  have h47 := hsm.keep h47 (by decide)
  have h48 := hsm.keep h48 (by decide)
  have h5 := hsm.keep h5 (by decide)
  have h34 := hsm.keep h34 (by decide)
  have h35 := hsm.keep h35 (by decide)
  have hS := hS.call hsm (by decide)
  refine ww_aload_n K dX6_text_65 rfl ?_
  refine ww_get K dX6_text_66 lf_X6_10 h0 rfl ?_
  refine ww_aload_n K dX6_text_69 rfl ?_
  refine ww_get K dX6_text_70 lf_X6_23 h0 rfl ?_
  refine ww_get K dX6_text_73 lf_X6_79 h43 rfl ?_
  refine ww_putX K dX6_text_76 lp_X6_70 h1 (Nat.le_of_ble_eq_true rfl) rfl rfl (fun w10 hln_w10 h1 hne_w10 => ?_)
  have h1 : w10[1]? = some (cO 5 [eR (2), eI (0), eI (0), eI ((-1)), eR (3), eR (4), eR (5)]) := h1
  have h0 := (hne_w10 0 (by decide)).trans h0
  have h2 := (hne_w10 2 (by decide)).trans h2
  have h3 := (hne_w10 3 (by decide)).trans h3
  have h43 := (hne_w10 43 (by decide)).trans h43
  have h44 := (hne_w10 44 (by decide)).trans h44
  have h45 := (hne_w10 45 (by decide)).trans h45
  have h46 := (hne_w10 46 (by decide)).trans h46
  have h47 := (hne_w10 47 (by decide)).trans h47
  have h48 := (hne_w10 48 (by decide)).trans h48
  have h49 := (hne_w10 49 (by decide)).trans h49
  have h50 := (hne_w10 50 (by decide)).trans h50
  have h51 := (hne_w10 51 (by decide)).trans h51
  have h52 := (hne_w10 52 (by decide)).trans h52
  have h53 := (hne_w10 53 (by decide)).trans h53
  have h54 := (hne_w10 54 (by decide)).trans h54
  have h5 := (hne_w10 5 (by decide)).trans h5
  have h34 := (hne_w10 34 (by decide)).trans h34
  have h35 := (hne_w10 35 (by decide)).trans h35
  have hS := hS.put (k := 1) (by decide) hne_w10
  refine ww_aload_n K dX6_text_79 rfl ?_
  refine ww_get K dX6_text_80 lf_X6_10 h0 rfl ?_
  refine ww_aload_n K dX6_text_83 rfl ?_
  refine ww_get K dX6_text_84 lf_X6_23 h0 rfl ?_
  refine ww_get K dX6_text_87 lf_X6_80 h43 rfl ?_
  refine ww_putX K dX6_text_90 lp_X6_73 h1 (Nat.le_of_ble_eq_true rfl) rfl rfl (fun w11 hln_w11 h1 hne_w11 => ?_)
  have h1 : w11[1]? = some (cO 5 [eR (2), eI (0), eI (0), eI ((-1)), eR (3), eR (4), eR (5)]) := h1
  have h0 := (hne_w11 0 (by decide)).trans h0
  have h2 := (hne_w11 2 (by decide)).trans h2
  have h3 := (hne_w11 3 (by decide)).trans h3
  have h43 := (hne_w11 43 (by decide)).trans h43
  have h44 := (hne_w11 44 (by decide)).trans h44
  have h45 := (hne_w11 45 (by decide)).trans h45
  have h46 := (hne_w11 46 (by decide)).trans h46
  have h47 := (hne_w11 47 (by decide)).trans h47
  have h48 := (hne_w11 48 (by decide)).trans h48
  have h49 := (hne_w11 49 (by decide)).trans h49
  have h50 := (hne_w11 50 (by decide)).trans h50
  have h51 := (hne_w11 51 (by decide)).trans h51
  have h52 := (hne_w11 52 (by decide)).trans h52
  have h53 := (hne_w11 53 (by decide)).trans h53
  have h54 := (hne_w11 54 (by decide)).trans h54
  have h5 := (hne_w11 5 (by decide)).trans h5
  have h34 := (hne_w11 34 (by decide)).trans h34
  have h35 := (hne_w11 35 (by decide)).trans h35
  have hS := hS.put (k := 1) (by decide) hne_w11
  refine ww_aload_n K dX6_text_93 rfl ?_
  refine ww_get K dX6_text_94 lf_X6_23 h0 rfl ?_
  refine ww_get K dX6_text_97 lf_X6_79 h43 rfl ?_
  refine ww_if_eq (tgt := 105) K dX6_text_100 rfl (fun _ => ?_) (fun cc_ => absurd cc_ (by decide))
  refine ww_aload_n K dX6_text_105 rfl ?_
  refine ww_iload_n K dX6_text_106 rfl ?_
  refine ww_iload_n K dX6_text_107 rfl ?_
  refine ww_xVv K dX6_text_108 lc_X6_81 h0 ⟨_, rfl, rfl⟩ (ct_X6_keep_4 G l hz h0 h1 h3 h43 h5 h34 h35 h52 h53) rfl ⟨Nat.le_of_ble_eq_true rfl, Nat.le_of_ble_eq_true rfl⟩ (Nat.le_of_ble_eq_true rfl) (fun w12 hq hln_w12 => ?_)
  have hsm := hq
  have h0 := hsm.keep h0 (by decide)
  have h1 := hsm.keep h1 (by decide)
  have h2 := hsm.keep h2 (by decide)
  have h43 := hsm.keep h43 (by decide)
  have h44 := hsm.keep h44 (by decide)
  have h45 := hsm.keep h45 (by decide)
  have h46 := hsm.keep h46 (by decide)
  have h47 := hsm.keep h47 (by decide)
  have h48 := hsm.keep h48 (by decide)
  have h49 := hsm.keep h49 (by decide)
  have h50 := hsm.keep h50 (by decide)
  have h51 := hsm.keep h51 (by decide)
  have h52 := hsm.keep h52 (by decide)
  have h53 := hsm.keep h53 (by decide)
  have h54 := hsm.keep h54 (by decide)
  have h5 := hsm.keep h5 (by decide)
  have hS := hS.call hsm (by decide)
  refine ww_iload_n K dX6_text_111 rfl ?_
  exact ww_iret K dX6_text_112 hr ⟨_, rfl, rfl, hS⟩
set_option maxRecDepth 100000 in
set_option maxHeartbeats 4000000 in
theorem ct_X6_text_5 (G : EG) (l : Launch) {w : EW} {cnt : Nat → Int32} (hz : ∀ k, k < 6 → cnt k = 0) {x1 x2 x3 x4 x5 x6 x7 x8 r1 : Int32} {q1 q2 : Nat → Int32} {a1 a2 a3 a4 a5 a6 a7 : Int32} {f1 f2 f3 f4 f5 f6 f7 : Nat → Int32} {tp : Nat → Int32} {u1 : Int32} {v1 : Nat → Int32} (h0 : w[0]? = some (cO 6 [eR (1), eR (42), eR (43), eR (56), eR (60), eR (61), eR (62), eR (63)])) (h1 : w[1]? = some (cO 5 [eR (2), eI (0), eI (0), eI ((-1)), eR (3), eR (4), eR (5)])) (h2 : w[2]? = some (cI 0 600 tp)) (h3 : w[3]? = some (cI 0 6 cnt)) (h43 : w[43]? = some (cO 1 [eR (44), eR (52), eI (x1), eI (x2), eR (54), eR (55), eI (x3), eI (x4), eI (x5), eI (x6), eI (x7), eI (x8)])) (h44 : w[44]? = some (cO 2 [eI (a1), eR (45), eR (46), eR (47), eR (48), eR (49), eR (50), eR (51), eI (a2), eI (a3), eI (a4), eI (a5), eI (a6), eI (a7)])) (h45 : w[45]? = some (cI 0 6 f1)) (h46 : w[46]? = some (cI 0 6 f2)) (h47 : w[47]? = some (cI 0 6 f3)) (h48 : w[48]? = some (cI 0 6 f4)) (h49 : w[49]? = some (cI 0 72 f5)) (h50 : w[50]? = some (cI 0 6 f6)) (h51 : w[51]? = some (cI 0 3 f7)) (h52 : w[52]? = some (cO 3 [eI (r1), eR (53)])) (h53 : w[53]? = some (cI 0 200 q1)) (h54 : w[54]? = some (cI 0 600 q2)) (h5 : w[5]? = some (cQ 3 10 (va_up (va_up (va_up (va_up (va_up (va_up (va_up (va_up (va_up (va_up (fun _ => none) 0 (some 22)) 1 (some 24)) 2 (some 26)) 3 (some 28)) 4 (some 30)) 5 (some 32)) 6 (some 34)) 7 (some 36)) 8 (some 38)) 9 (some 40)))) (h38 : w[38]? = some (cO 3 [eI (u1), eR (39)])) (h39 : w[39]? = some (cI 0 200 v1)) : Ct G l yX6_text cX6_text 5 (some .int) 4 0 0 [eR (0), eI (5), eI ((-1))] w (fun r w2 => (∃ x : Int32, r = some (eI x) ∧ (x = 0 ∧ wc_same [1, 3, 38, 39, 43, 44, 49, 50, 51, 52, 53, 54] w w2))) := by
  refine Ct_of (by decide +kernel) (Nat.le_of_ble_eq_true rfl) ?_
  intro p_ e_ s_ m_ a_ b_ t_ c_ K0 hr hin
  have K : wc_C p_ s_ m_ a_ t_ c_ G RX6 cX6_text 5 w.length := K0
  clear K0
  refine WW_ls (ls2 := [some (eR (0)), some (eI (5)), some (eI ((-1))), none, none]) rfl ?_
  have hS : wc_same [1, 3, 38, 39, 43, 44, 49, 50, 51, 52, 53, 54] w w := wc_same.rf
  refine ww_aload_n K dX6_text_0 rfl ?_
  refine ww_iload_n K dX6_text_1 rfl ?_
  refine ww_iload_n K dX6_text_2 rfl ?_
  refine ww_cV K dX6_text_3 lc_X6_66 h0 ⟨_, rfl, rfl⟩ (ct_X6_placeFor_5 G l hz h0 h1 h3) rfl ⟨Nat.le_of_ble_eq_true rfl, Nat.le_of_ble_eq_true rfl⟩ (Nat.le_of_ble_eq_true rfl) ?_
  refine ww_istore_n (ls2 := [some (eR (0)), some (eI (5)), some (eI ((-1))), some (eI (0)), none]) K dX6_text_6 (by decide) rfl ?_
  refine ww_aload_n K dX6_text_7 rfl ?_
  refine ww_get K dX6_text_8 lf_X6_10 h0 rfl ?_
  refine ww_get K dX6_text_11 lf_X6_51 h1 rfl ?_
  refine ww_istore (ls2 := [some (eR (0)), some (eI (5)), some (eI ((-1))), some (eI (0)), some (eI (0))]) K dX6_text_14 (by decide) rfl ?_
  refine ww_aload_n K dX6_text_16 rfl ?_
  refine ww_get K dX6_text_17 lf_X6_10 h0 rfl ?_
  refine ww_iconst (v := 0) K dX6_text_20 rfl ?_
  refine ww_putX K dX6_text_21 lp_X6_51 h1 (Nat.le_of_ble_eq_true rfl) rfl rfl (fun w1 hln_w1 h1 hne_w1 => ?_)
  have h1 : w1[1]? = some (cO 5 [eR (2), eI (0), eI (0), eI ((-1)), eR (3), eR (4), eR (5)]) := h1
  have h0 := (hne_w1 0 (by decide)).trans h0
  have h2 := (hne_w1 2 (by decide)).trans h2
  have h3 := (hne_w1 3 (by decide)).trans h3
  have h43 := (hne_w1 43 (by decide)).trans h43
  have h44 := (hne_w1 44 (by decide)).trans h44
  have h45 := (hne_w1 45 (by decide)).trans h45
  have h46 := (hne_w1 46 (by decide)).trans h46
  have h47 := (hne_w1 47 (by decide)).trans h47
  have h48 := (hne_w1 48 (by decide)).trans h48
  have h49 := (hne_w1 49 (by decide)).trans h49
  have h50 := (hne_w1 50 (by decide)).trans h50
  have h51 := (hne_w1 51 (by decide)).trans h51
  have h52 := (hne_w1 52 (by decide)).trans h52
  have h53 := (hne_w1 53 (by decide)).trans h53
  have h54 := (hne_w1 54 (by decide)).trans h54
  have h5 := (hne_w1 5 (by decide)).trans h5
  have h38 := (hne_w1 38 (by decide)).trans h38
  have h39 := (hne_w1 39 (by decide)).trans h39
  have hS := hS.put (k := 1) (by decide) hne_w1
  refine ww_aload_n K dX6_text_24 rfl ?_
  refine ww_get K dX6_text_25 lf_X6_10 h0 rfl ?_
  refine ww_iconst (v := 0) K dX6_text_28 rfl ?_
  refine ww_putX K dX6_text_29 lp_X6_70 h1 (Nat.le_of_ble_eq_true rfl) rfl rfl (fun w2 hln_w2 h1 hne_w2 => ?_)
  have h1 : w2[1]? = some (cO 5 [eR (2), eI (0), eI (0), eI ((-1)), eR (3), eR (4), eR (5)]) := h1
  have h0 := (hne_w2 0 (by decide)).trans h0
  have h2 := (hne_w2 2 (by decide)).trans h2
  have h3 := (hne_w2 3 (by decide)).trans h3
  have h43 := (hne_w2 43 (by decide)).trans h43
  have h44 := (hne_w2 44 (by decide)).trans h44
  have h45 := (hne_w2 45 (by decide)).trans h45
  have h46 := (hne_w2 46 (by decide)).trans h46
  have h47 := (hne_w2 47 (by decide)).trans h47
  have h48 := (hne_w2 48 (by decide)).trans h48
  have h49 := (hne_w2 49 (by decide)).trans h49
  have h50 := (hne_w2 50 (by decide)).trans h50
  have h51 := (hne_w2 51 (by decide)).trans h51
  have h52 := (hne_w2 52 (by decide)).trans h52
  have h53 := (hne_w2 53 (by decide)).trans h53
  have h54 := (hne_w2 54 (by decide)).trans h54
  have h5 := (hne_w2 5 (by decide)).trans h5
  have h38 := (hne_w2 38 (by decide)).trans h38
  have h39 := (hne_w2 39 (by decide)).trans h39
  have hS := hS.put (k := 1) (by decide) hne_w2
  refine ww_aload_n K dX6_text_32 rfl ?_
  refine ww_get K dX6_text_33 lf_X6_10 h0 rfl ?_
  refine ww_iconst (v := (-1)) K dX6_text_36 rfl ?_
  refine ww_putX K dX6_text_37 lp_X6_73 h1 (Nat.le_of_ble_eq_true rfl) rfl rfl (fun w3 hln_w3 h1 hne_w3 => ?_)
  have h1 : w3[1]? = some (cO 5 [eR (2), eI (0), eI (0), eI ((-1)), eR (3), eR (4), eR (5)]) := h1
  have h0 := (hne_w3 0 (by decide)).trans h0
  have h2 := (hne_w3 2 (by decide)).trans h2
  have h3 := (hne_w3 3 (by decide)).trans h3
  have h43 := (hne_w3 43 (by decide)).trans h43
  have h44 := (hne_w3 44 (by decide)).trans h44
  have h45 := (hne_w3 45 (by decide)).trans h45
  have h46 := (hne_w3 46 (by decide)).trans h46
  have h47 := (hne_w3 47 (by decide)).trans h47
  have h48 := (hne_w3 48 (by decide)).trans h48
  have h49 := (hne_w3 49 (by decide)).trans h49
  have h50 := (hne_w3 50 (by decide)).trans h50
  have h51 := (hne_w3 51 (by decide)).trans h51
  have h52 := (hne_w3 52 (by decide)).trans h52
  have h53 := (hne_w3 53 (by decide)).trans h53
  have h54 := (hne_w3 54 (by decide)).trans h54
  have h5 := (hne_w3 5 (by decide)).trans h5
  have h38 := (hne_w3 38 (by decide)).trans h38
  have h39 := (hne_w3 39 (by decide)).trans h39
  have hS := hS.put (k := 1) (by decide) hne_w3
  refine ww_iload_n K dX6_text_40 rfl ?_
  refine ww_iconst (v := (-1)) K dX6_text_41 rfl ?_
  refine ww_icmp_ne (tgt := 48) K dX6_text_42 rfl (fun _ => ?_) (fun cc_ => absurd cc_ (by decide))
  refine ww_aload_n K dX6_text_48 rfl ?_
  refine ww_get K dX6_text_49 lf_X6_23 h0 rfl ?_
  refine ww_aload_n K dX6_text_52 rfl ?_
  refine ww_get K dX6_text_53 lf_X6_10 h0 rfl ?_
  refine ww_get K dX6_text_56 lf_X6_59 h1 rfl ?_
  refine ww_iload K dX6_text_59 rfl ?_
  refine ww_iload_n K dX6_text_61 rfl ?_
  refine ww_xVv K dX6_text_62 lc_X6_76 h43 ⟨_, rfl, rfl⟩ (ct_X1_read_n G l (s := 5) (by decide) h2 h43 h44 h45 h46 h47 h48 h49 h50 h51 h52 h53 h54) rfl ⟨Nat.le_of_ble_eq_true rfl, Nat.le_of_ble_eq_true rfl⟩ (Nat.le_of_ble_eq_true rfl) (fun w9 hq hln_w9 => ?_)
  obtain ⟨h43, h44, h52, ⟨F4, h49⟩, ⟨F5, h50⟩, ⟨F6, h51⟩, ⟨F7, h53⟩, ⟨F8, h54⟩, hsm⟩ := hq
  have h0 := hsm.keep h0 (by decide)
  have h1 := hsm.keep h1 (by decide)
  have h2 := hsm.keep h2 (by decide)
  have h3 := hsm.keep h3 (by decide)
  have h45 := hsm.keep h45 (by decide)
  have h46 := hsm.keep h46 (by decide)
  have h47 := hsm.keep h47 (by decide)
  have h48 := hsm.keep h48 (by decide)
  have h5 := hsm.keep h5 (by decide)
  have h38 := hsm.keep h38 (by decide)
  have h39 := hsm.keep h39 (by decide)
  have hS := hS.call hsm (by decide)
  refine ww_aload_n K dX6_text_65 rfl ?_
  refine ww_get K dX6_text_66 lf_X6_10 h0 rfl ?_
  refine ww_aload_n K dX6_text_69 rfl ?_
  refine ww_get K dX6_text_70 lf_X6_23 h0 rfl ?_
  refine ww_get K dX6_text_73 lf_X6_79 h43 rfl ?_
  refine ww_putX K dX6_text_76 lp_X6_70 h1 (Nat.le_of_ble_eq_true rfl) rfl rfl (fun w10 hln_w10 h1 hne_w10 => ?_)
  have h1 : w10[1]? = some (cO 5 [eR (2), eI (0), eI (0), eI ((-1)), eR (3), eR (4), eR (5)]) := h1
  have h0 := (hne_w10 0 (by decide)).trans h0
  have h2 := (hne_w10 2 (by decide)).trans h2
  have h3 := (hne_w10 3 (by decide)).trans h3
  have h43 := (hne_w10 43 (by decide)).trans h43
  have h44 := (hne_w10 44 (by decide)).trans h44
  have h45 := (hne_w10 45 (by decide)).trans h45
  have h46 := (hne_w10 46 (by decide)).trans h46
  have h47 := (hne_w10 47 (by decide)).trans h47
  have h48 := (hne_w10 48 (by decide)).trans h48
  have h49 := (hne_w10 49 (by decide)).trans h49
  have h50 := (hne_w10 50 (by decide)).trans h50
  have h51 := (hne_w10 51 (by decide)).trans h51
  have h52 := (hne_w10 52 (by decide)).trans h52
  have h53 := (hne_w10 53 (by decide)).trans h53
  have h54 := (hne_w10 54 (by decide)).trans h54
  have h5 := (hne_w10 5 (by decide)).trans h5
  have h38 := (hne_w10 38 (by decide)).trans h38
  have h39 := (hne_w10 39 (by decide)).trans h39
  have hS := hS.put (k := 1) (by decide) hne_w10
  refine ww_aload_n K dX6_text_79 rfl ?_
  refine ww_get K dX6_text_80 lf_X6_10 h0 rfl ?_
  refine ww_aload_n K dX6_text_83 rfl ?_
  refine ww_get K dX6_text_84 lf_X6_23 h0 rfl ?_
  refine ww_get K dX6_text_87 lf_X6_80 h43 rfl ?_
  refine ww_putX K dX6_text_90 lp_X6_73 h1 (Nat.le_of_ble_eq_true rfl) rfl rfl (fun w11 hln_w11 h1 hne_w11 => ?_)
  have h1 : w11[1]? = some (cO 5 [eR (2), eI (0), eI (0), eI ((-1)), eR (3), eR (4), eR (5)]) := h1
  have h0 := (hne_w11 0 (by decide)).trans h0
  have h2 := (hne_w11 2 (by decide)).trans h2
  have h3 := (hne_w11 3 (by decide)).trans h3
  have h43 := (hne_w11 43 (by decide)).trans h43
  have h44 := (hne_w11 44 (by decide)).trans h44
  have h45 := (hne_w11 45 (by decide)).trans h45
  have h46 := (hne_w11 46 (by decide)).trans h46
  have h47 := (hne_w11 47 (by decide)).trans h47
  have h48 := (hne_w11 48 (by decide)).trans h48
  have h49 := (hne_w11 49 (by decide)).trans h49
  have h50 := (hne_w11 50 (by decide)).trans h50
  have h51 := (hne_w11 51 (by decide)).trans h51
  have h52 := (hne_w11 52 (by decide)).trans h52
  have h53 := (hne_w11 53 (by decide)).trans h53
  have h54 := (hne_w11 54 (by decide)).trans h54
  have h5 := (hne_w11 5 (by decide)).trans h5
  have h38 := (hne_w11 38 (by decide)).trans h38
  have h39 := (hne_w11 39 (by decide)).trans h39
  have hS := hS.put (k := 1) (by decide) hne_w11
  refine ww_aload_n K dX6_text_93 rfl ?_
  refine ww_get K dX6_text_94 lf_X6_23 h0 rfl ?_
  refine ww_get K dX6_text_97 lf_X6_79 h43 rfl ?_
  refine ww_if_eq (tgt := 105) K dX6_text_100 rfl (fun _ => ?_) (fun cc_ => absurd cc_ (by decide))
  refine ww_aload_n K dX6_text_105 rfl ?_
  refine ww_iload_n K dX6_text_106 rfl ?_
  refine ww_iload_n K dX6_text_107 rfl ?_
  refine ww_xVv K dX6_text_108 lc_X6_81 h0 ⟨_, rfl, rfl⟩ (ct_X6_keep_5 G l hz h0 h1 h3 h43 h5 h38 h39 h52 h53) rfl ⟨Nat.le_of_ble_eq_true rfl, Nat.le_of_ble_eq_true rfl⟩ (Nat.le_of_ble_eq_true rfl) (fun w12 hq hln_w12 => ?_)
  have hsm := hq
  have h0 := hsm.keep h0 (by decide)
  have h1 := hsm.keep h1 (by decide)
  have h2 := hsm.keep h2 (by decide)
  have h43 := hsm.keep h43 (by decide)
  have h44 := hsm.keep h44 (by decide)
  have h45 := hsm.keep h45 (by decide)
  have h46 := hsm.keep h46 (by decide)
  have h47 := hsm.keep h47 (by decide)
  have h48 := hsm.keep h48 (by decide)
  have h49 := hsm.keep h49 (by decide)
  have h50 := hsm.keep h50 (by decide)
  have h51 := hsm.keep h51 (by decide)
  have h52 := hsm.keep h52 (by decide)
  have h53 := hsm.keep h53 (by decide)
  have h54 := hsm.keep h54 (by decide)
  have h5 := hsm.keep h5 (by decide)
  have hS := hS.call hsm (by decide)
  refine ww_iload_n K dX6_text_111 rfl ?_
  exact ww_iret K dX6_text_112 hr ⟨_, rfl, rfl, hS⟩
set_option maxRecDepth 100000 in
set_option maxHeartbeats 4000000 in
theorem ct_X6_text_bad (G : EG) (l : Launch) {w : EW} {a b : Int32} (hb : a < 0 ∨ 6 ≤ a ∨ ¬ b = -1) {cnt : Nat → Int32} (hz : ∀ k, k < 6 → cnt k = 0) (h0 : w[0]? = some (cO 6 [eR (1), eR (42), eR (43), eR (56), eR (60), eR (61), eR (62), eR (63)])) (h1 : w[1]? = some (cO 5 [eR (2), eI (0), eI (0), eI ((-1)), eR (3), eR (4), eR (5)])) (h3 : w[3]? = some (cI 0 6 cnt)) : Ct G l yX6_text cX6_text 5 (some .int) 4 0 0 [eR (0), eI (a), eI (b)] w (fun r w2 => (∃ x : Int32, r = some (eI x) ∧ (x = -2 ∧ wc_same [1] w w2))) := by
  refine Ct_of (by decide +kernel) (Nat.le_of_ble_eq_true rfl) ?_
  intro p_ e_ s_ m_ a_ b_ t_ c_ K0 hr hin
  have K : wc_C p_ s_ m_ a_ t_ c_ G RX6 cX6_text 5 w.length := K0
  clear K0
  refine WW_ls (ls2 := [some (eR (0)), some (eI (a)), some (eI (b)), none, none]) rfl ?_
  have hS : wc_same [1] w w := wc_same.rf
  refine ww_aload_n K dX6_text_0 rfl ?_
  refine ww_iload_n K dX6_text_1 rfl ?_
  refine ww_iload_n K dX6_text_2 rfl ?_
  refine ww_cV K dX6_text_3 lc_X6_66 h0 ⟨_, rfl, rfl⟩ (ct_X6_placeFor_bad G l (a := a) (b := b) hb hz h0 h1 h3) rfl ⟨Nat.le_of_ble_eq_true rfl, Nat.le_of_ble_eq_true rfl⟩ (Nat.le_of_ble_eq_true rfl) ?_
  refine ww_istore_n (ls2 := [some (eR (0)), some (eI (a)), some (eI (b)), some (eI ((-1))), none]) K dX6_text_6 (by decide) rfl ?_
  refine ww_aload_n K dX6_text_7 rfl ?_
  refine ww_get K dX6_text_8 lf_X6_10 h0 rfl ?_
  refine ww_get K dX6_text_11 lf_X6_51 h1 rfl ?_
  refine ww_istore (ls2 := [some (eR (0)), some (eI (a)), some (eI (b)), some (eI ((-1))), some (eI (0))]) K dX6_text_14 (by decide) rfl ?_
  refine ww_aload_n K dX6_text_16 rfl ?_
  refine ww_get K dX6_text_17 lf_X6_10 h0 rfl ?_
  refine ww_iconst (v := 0) K dX6_text_20 rfl ?_
  refine ww_putX K dX6_text_21 lp_X6_51 h1 (Nat.le_of_ble_eq_true rfl) rfl rfl (fun w1 hln_w1 h1 hne_w1 => ?_)
  have h1 : w1[1]? = some (cO 5 [eR (2), eI (0), eI (0), eI ((-1)), eR (3), eR (4), eR (5)]) := h1
  have h0 := (hne_w1 0 (by decide)).trans h0
  have h3 := (hne_w1 3 (by decide)).trans h3
  have hS := hS.put (k := 1) (by decide) hne_w1
  refine ww_aload_n K dX6_text_24 rfl ?_
  refine ww_get K dX6_text_25 lf_X6_10 h0 rfl ?_
  refine ww_iconst (v := 0) K dX6_text_28 rfl ?_
  refine ww_putX K dX6_text_29 lp_X6_70 h1 (Nat.le_of_ble_eq_true rfl) rfl rfl (fun w2 hln_w2 h1 hne_w2 => ?_)
  have h1 : w2[1]? = some (cO 5 [eR (2), eI (0), eI (0), eI ((-1)), eR (3), eR (4), eR (5)]) := h1
  have h0 := (hne_w2 0 (by decide)).trans h0
  have h3 := (hne_w2 3 (by decide)).trans h3
  have hS := hS.put (k := 1) (by decide) hne_w2
  refine ww_aload_n K dX6_text_32 rfl ?_
  refine ww_get K dX6_text_33 lf_X6_10 h0 rfl ?_
  refine ww_iconst (v := (-1)) K dX6_text_36 rfl ?_
  refine ww_putX K dX6_text_37 lp_X6_73 h1 (Nat.le_of_ble_eq_true rfl) rfl rfl (fun w3 hln_w3 h1 hne_w3 => ?_)
  have h1 : w3[1]? = some (cO 5 [eR (2), eI (0), eI (0), eI ((-1)), eR (3), eR (4), eR (5)]) := h1
  have h0 := (hne_w3 0 (by decide)).trans h0
  have h3 := (hne_w3 3 (by decide)).trans h3
  have hS := hS.put (k := 1) (by decide) hne_w3
  refine ww_iload_n K dX6_text_40 rfl ?_
  refine ww_iconst (v := (-1)) K dX6_text_41 rfl ?_
  refine ww_icmp_ne (tgt := 48) K dX6_text_42 rfl (fun cc_ => absurd cc_ (by decide)) (fun _ => ?_)
  refine ww_bipush (v := (-2)) K dX6_text_45 rfl ?_
  exact ww_iret K dX6_text_47 hr ⟨_, rfl, rfl, hS⟩
set_option maxRecDepth 100000 in
set_option maxHeartbeats 4000000 in
theorem ct_X6_feedNumber (G : EG) (l : Launch) {w : EW} {a : Int32} {L : Nat} {tp : Nat → Int32} (hL : L + 4 ≤ 600) (h0 : w[0]? = some (cO 6 [eR (1), eR (42), eR (43), eR (56), eR (60), eR (61), eR (62), eR (63)])) (h1 : w[1]? = some (cO 5 [eR (2), eI ((nI L)), eI (0), eI ((-1)), eR (3), eR (4), eR (5)])) (h2 : w[2]? = some (cI 0 600 tp)) : Ct G l yX6_feedNumber cX6_feedNumber 3 none 1 0 0 [eR (0), eI (a)] w (fun r w2 => r = none ∧ (w2[1]? = some (cO 5 [eR (2), eI ((nI (L + 4))), eI (0), eI ((-1)), eR (3), eR (4), eR (5)]) ∧ (∃ F : Nat → Int32, w2[2]? = some (cI 0 600 F)) ∧ wc_same [1, 2] w w2)) := by
  refine Ct_of (by decide +kernel) (Nat.le_of_ble_eq_true rfl) ?_
  intro p_ e_ s_ m_ a_ b_ t_ c_ K0 hr hin
  have K : wc_C p_ s_ m_ a_ t_ c_ G RX6 cX6_feedNumber 3 w.length := K0
  clear K0
  refine WW_ls (ls2 := [some (eR (0)), some (eI (a)), none]) rfl ?_
  have hS : wc_same [1, 2] w w := wc_same.rf
  refine ww_bipush (v := 24) K dX6_feedNumber_0 rfl ?_
  refine ww_istore_n (ls2 := [some (eR (0)), some (eI (a)), some (eI (24))]) K dX6_feedNumber_2 (by decide) rfl ?_
  refine ww_iload_n K dX6_feedNumber_3 rfl ?_
  refine ww_if_lt (tgt := 50) K dX6_feedNumber_4 rfl (fun cc_ => absurd cc_ (by decide)) (fun _ => ?_)
  refine ww_aload_n K dX6_feedNumber_7 rfl ?_
  refine ww_get K dX6_feedNumber_8 lf_X6_10 h0 rfl ?_
  refine ww_get K dX6_feedNumber_11 lf_X6_59 h1 rfl ?_
  refine ww_aload_n K dX6_feedNumber_14 rfl ?_
  refine ww_get K dX6_feedNumber_15 lf_X6_10 h0 rfl ?_
  refine ww_get K dX6_feedNumber_18 lf_X6_51 h1 rfl ?_
  refine ww_iload_n K dX6_feedNumber_21 rfl ?_
  refine ww_iload_n K dX6_feedNumber_22 rfl ?_
  refine ww_iushr K dX6_feedNumber_23 ?_
  refine ww_sipush (v := 255) K dX6_feedNumber_24 rfl ?_
  refine ww_iand K dX6_feedNumber_27 ?_
  refine ww_xSv K dX6_feedNumber_28 lc_X6_62 (ct_X6_put G l h2 (by decide) (i := (nI L)) (x := _) (vp_in_nI (by omega) (by decide))) rfl ⟨Nat.le_of_ble_eq_true rfl, Nat.le_of_ble_eq_true rfl⟩ (Nat.le_of_ble_eq_true rfl) (fun w2 hq hln_w2 => ?_)
  obtain ⟨h2, hsm⟩ := hq
  have h0 := hsm.keep h0 (by decide)
  have h1 := hsm.keep h1 (by decide)
  have hS := hS.call hsm (by decide)
  obtain ⟨F1, h2⟩ : ∃ z, w2[2]? = some (cI 0 600 z) := ⟨_, h2⟩
  refine ww_aload_n K dX6_feedNumber_31 rfl ?_
  refine ww_get K dX6_feedNumber_32 lf_X6_10 h0 rfl ?_
  refine ww_dup K dX6_feedNumber_35 trivial ?_
  refine ww_get K dX6_feedNumber_36 lf_X6_51 h1 rfl ?_
  refine ww_iconst (v := 1) K dX6_feedNumber_39 rfl ?_
  refine ww_iadd K dX6_feedNumber_40 ?_
  rw [show ((nI L) + 1) = (nI (L + 1)) from nI_1 L]
  refine ww_putX K dX6_feedNumber_41 lp_X6_51 h1 (Nat.le_of_ble_eq_true rfl) rfl rfl (fun w3 hln_w3 h1 hne_w3 => ?_)
  have h1 : w3[1]? = some (cO 5 [eR (2), eI ((nI (L + 1))), eI (0), eI ((-1)), eR (3), eR (4), eR (5)]) := h1
  have h0 := (hne_w3 0 (by decide)).trans h0
  have h2 := (hne_w3 2 (by decide)).trans h2
  have hS := hS.put (k := 1) (by decide) hne_w3
  refine ww_iinc (ls2 := [some (eR (0)), some (eI (a)), some (eI (16))]) K dX6_feedNumber_44 (by decide) rfl rfl ?_
  refine ww_goto (tgt := 3) K dX6_feedNumber_47 rfl ?_
  refine ww_iload_n K dX6_feedNumber_3 rfl ?_
  refine ww_if_lt (tgt := 50) K dX6_feedNumber_4 rfl (fun cc_ => absurd cc_ (by decide)) (fun _ => ?_)
  refine ww_aload_n K dX6_feedNumber_7 rfl ?_
  refine ww_get K dX6_feedNumber_8 lf_X6_10 h0 rfl ?_
  refine ww_get K dX6_feedNumber_11 lf_X6_59 h1 rfl ?_
  refine ww_aload_n K dX6_feedNumber_14 rfl ?_
  refine ww_get K dX6_feedNumber_15 lf_X6_10 h0 rfl ?_
  refine ww_get K dX6_feedNumber_18 lf_X6_51 h1 rfl ?_
  refine ww_iload_n K dX6_feedNumber_21 rfl ?_
  refine ww_iload_n K dX6_feedNumber_22 rfl ?_
  refine ww_iushr K dX6_feedNumber_23 ?_
  refine ww_sipush (v := 255) K dX6_feedNumber_24 rfl ?_
  refine ww_iand K dX6_feedNumber_27 ?_
  refine ww_xSv K dX6_feedNumber_28 lc_X6_62 (ct_X6_put G l h2 (by decide) (i := (nI (L + 1))) (x := _) (vp_in_nI (by omega) (by decide))) rfl ⟨Nat.le_of_ble_eq_true rfl, Nat.le_of_ble_eq_true rfl⟩ (Nat.le_of_ble_eq_true rfl) (fun w5 hq hln_w5 => ?_)
  obtain ⟨h2, hsm⟩ := hq
  have h0 := hsm.keep h0 (by decide)
  have h1 := hsm.keep h1 (by decide)
  have hS := hS.call hsm (by decide)
  obtain ⟨F4, h2⟩ : ∃ z, w5[2]? = some (cI 0 600 z) := ⟨_, h2⟩
  refine ww_aload_n K dX6_feedNumber_31 rfl ?_
  refine ww_get K dX6_feedNumber_32 lf_X6_10 h0 rfl ?_
  refine ww_dup K dX6_feedNumber_35 trivial ?_
  refine ww_get K dX6_feedNumber_36 lf_X6_51 h1 rfl ?_
  refine ww_iconst (v := 1) K dX6_feedNumber_39 rfl ?_
  refine ww_iadd K dX6_feedNumber_40 ?_
  rw [show ((nI (L + 1)) + 1) = (nI (L + 2)) from nI_1 (L + 1)]
  refine ww_putX K dX6_feedNumber_41 lp_X6_51 h1 (Nat.le_of_ble_eq_true rfl) rfl rfl (fun w6 hln_w6 h1 hne_w6 => ?_)
  have h1 : w6[1]? = some (cO 5 [eR (2), eI ((nI (L + 2))), eI (0), eI ((-1)), eR (3), eR (4), eR (5)]) := h1
  have h0 := (hne_w6 0 (by decide)).trans h0
  have h2 := (hne_w6 2 (by decide)).trans h2
  have hS := hS.put (k := 1) (by decide) hne_w6
  refine ww_iinc (ls2 := [some (eR (0)), some (eI (a)), some (eI (8))]) K dX6_feedNumber_44 (by decide) rfl rfl ?_
  refine ww_goto (tgt := 3) K dX6_feedNumber_47 rfl ?_
  refine ww_iload_n K dX6_feedNumber_3 rfl ?_
  refine ww_if_lt (tgt := 50) K dX6_feedNumber_4 rfl (fun cc_ => absurd cc_ (by decide)) (fun _ => ?_)
  refine ww_aload_n K dX6_feedNumber_7 rfl ?_
  refine ww_get K dX6_feedNumber_8 lf_X6_10 h0 rfl ?_
  refine ww_get K dX6_feedNumber_11 lf_X6_59 h1 rfl ?_
  refine ww_aload_n K dX6_feedNumber_14 rfl ?_
  refine ww_get K dX6_feedNumber_15 lf_X6_10 h0 rfl ?_
  refine ww_get K dX6_feedNumber_18 lf_X6_51 h1 rfl ?_
  refine ww_iload_n K dX6_feedNumber_21 rfl ?_
  refine ww_iload_n K dX6_feedNumber_22 rfl ?_
  refine ww_iushr K dX6_feedNumber_23 ?_
  refine ww_sipush (v := 255) K dX6_feedNumber_24 rfl ?_
  refine ww_iand K dX6_feedNumber_27 ?_
  refine ww_xSv K dX6_feedNumber_28 lc_X6_62 (ct_X6_put G l h2 (by decide) (i := (nI (L + 2))) (x := _) (vp_in_nI (by omega) (by decide))) rfl ⟨Nat.le_of_ble_eq_true rfl, Nat.le_of_ble_eq_true rfl⟩ (Nat.le_of_ble_eq_true rfl) (fun w8 hq hln_w8 => ?_)
  obtain ⟨h2, hsm⟩ := hq
  have h0 := hsm.keep h0 (by decide)
  have h1 := hsm.keep h1 (by decide)
  have hS := hS.call hsm (by decide)
  obtain ⟨F7, h2⟩ : ∃ z, w8[2]? = some (cI 0 600 z) := ⟨_, h2⟩
  refine ww_aload_n K dX6_feedNumber_31 rfl ?_
  refine ww_get K dX6_feedNumber_32 lf_X6_10 h0 rfl ?_
  refine ww_dup K dX6_feedNumber_35 trivial ?_
  refine ww_get K dX6_feedNumber_36 lf_X6_51 h1 rfl ?_
  refine ww_iconst (v := 1) K dX6_feedNumber_39 rfl ?_
  refine ww_iadd K dX6_feedNumber_40 ?_
  rw [show ((nI (L + 2)) + 1) = (nI (L + 3)) from nI_1 (L + 2)]
  refine ww_putX K dX6_feedNumber_41 lp_X6_51 h1 (Nat.le_of_ble_eq_true rfl) rfl rfl (fun w9 hln_w9 h1 hne_w9 => ?_)
  have h1 : w9[1]? = some (cO 5 [eR (2), eI ((nI (L + 3))), eI (0), eI ((-1)), eR (3), eR (4), eR (5)]) := h1
  have h0 := (hne_w9 0 (by decide)).trans h0
  have h2 := (hne_w9 2 (by decide)).trans h2
  have hS := hS.put (k := 1) (by decide) hne_w9
  refine ww_iinc (ls2 := [some (eR (0)), some (eI (a)), some (eI (0))]) K dX6_feedNumber_44 (by decide) rfl rfl ?_
  refine ww_goto (tgt := 3) K dX6_feedNumber_47 rfl ?_
  refine ww_iload_n K dX6_feedNumber_3 rfl ?_
  refine ww_if_lt (tgt := 50) K dX6_feedNumber_4 rfl (fun cc_ => absurd cc_ (by decide)) (fun _ => ?_)
  refine ww_aload_n K dX6_feedNumber_7 rfl ?_
  refine ww_get K dX6_feedNumber_8 lf_X6_10 h0 rfl ?_
  refine ww_get K dX6_feedNumber_11 lf_X6_59 h1 rfl ?_
  refine ww_aload_n K dX6_feedNumber_14 rfl ?_
  refine ww_get K dX6_feedNumber_15 lf_X6_10 h0 rfl ?_
  refine ww_get K dX6_feedNumber_18 lf_X6_51 h1 rfl ?_
  refine ww_iload_n K dX6_feedNumber_21 rfl ?_
  refine ww_iload_n K dX6_feedNumber_22 rfl ?_
  refine ww_iushr K dX6_feedNumber_23 ?_
  refine ww_sipush (v := 255) K dX6_feedNumber_24 rfl ?_
  refine ww_iand K dX6_feedNumber_27 ?_
  refine ww_xSv K dX6_feedNumber_28 lc_X6_62 (ct_X6_put G l h2 (by decide) (i := (nI (L + 3))) (x := _) (vp_in_nI (by omega) (by decide))) rfl ⟨Nat.le_of_ble_eq_true rfl, Nat.le_of_ble_eq_true rfl⟩ (Nat.le_of_ble_eq_true rfl) (fun w11 hq hln_w11 => ?_)
  obtain ⟨h2, hsm⟩ := hq
  have h0 := hsm.keep h0 (by decide)
  have h1 := hsm.keep h1 (by decide)
  have hS := hS.call hsm (by decide)
  obtain ⟨F10, h2⟩ : ∃ z, w11[2]? = some (cI 0 600 z) := ⟨_, h2⟩
  refine ww_aload_n K dX6_feedNumber_31 rfl ?_
  refine ww_get K dX6_feedNumber_32 lf_X6_10 h0 rfl ?_
  refine ww_dup K dX6_feedNumber_35 trivial ?_
  refine ww_get K dX6_feedNumber_36 lf_X6_51 h1 rfl ?_
  refine ww_iconst (v := 1) K dX6_feedNumber_39 rfl ?_
  refine ww_iadd K dX6_feedNumber_40 ?_
  rw [show ((nI (L + 3)) + 1) = (nI (L + 4)) from nI_1 (L + 3)]
  refine ww_putX K dX6_feedNumber_41 lp_X6_51 h1 (Nat.le_of_ble_eq_true rfl) rfl rfl (fun w12 hln_w12 h1 hne_w12 => ?_)
  have h1 : w12[1]? = some (cO 5 [eR (2), eI ((nI (L + 4))), eI (0), eI ((-1)), eR (3), eR (4), eR (5)]) := h1
  have h0 := (hne_w12 0 (by decide)).trans h0
  have h2 := (hne_w12 2 (by decide)).trans h2
  have hS := hS.put (k := 1) (by decide) hne_w12
  refine ww_iinc (ls2 := [some (eR (0)), some (eI (a)), some (eI ((-8)))]) K dX6_feedNumber_44 (by decide) rfl rfl ?_
  refine ww_goto (tgt := 3) K dX6_feedNumber_47 rfl ?_
  refine ww_iload_n K dX6_feedNumber_3 rfl ?_
  refine ww_if_lt (tgt := 50) K dX6_feedNumber_4 rfl (fun _ => ?_) (fun cc_ => absurd cc_ (by decide))
  exact ww_vret K dX6_feedNumber_50 hr ⟨rfl, ⟨h1, ⟨_, h2⟩, hS⟩⟩
set_option maxRecDepth 100000 in
set_option maxHeartbeats 4000000 in
theorem ct_X6_feed (G : EG) (l : Launch) {w : EW} {a b c d f : Int32} {tp : Nat → Int32} (h0 : w[0]? = some (cO 6 [eR (1), eR (42), eR (43), eR (56), eR (60), eR (61), eR (62), eR (63)])) (h1 : w[1]? = some (cO 5 [eR (2), eI (0), eI (0), eI ((-1)), eR (3), eR (4), eR (5)])) (h2 : w[2]? = some (cI 0 600 tp)) : Ct G l yX6_feed cX6_feed 6 (some .int) 2 0 0 [eR (0), eI (a), eI (b), eI (c), eI (d), eI (f)] w (fun r w2 => (∃ x : Int32, r = some (eI x) ∧ (x = 20 ∧ wc_same [1, 2] w w2))) := by
  refine Ct_of (by decide +kernel) (Nat.le_of_ble_eq_true rfl) ?_
  intro p_ e_ s_ m_ a_ b_ t_ c_ K0 hr hin
  have K : wc_C p_ s_ m_ a_ t_ c_ G RX6 cX6_feed 6 w.length := K0
  clear K0
  refine WW_ls (ls2 := [some (eR (0)), some (eI (a)), some (eI (b)), some (eI (c)), some (eI (d)), some (eI (f))]) rfl ?_
  have hS : wc_same [1, 2] w w := wc_same.rf
  refine ww_aload_n K dX6_feed_0 rfl ?_
  refine ww_get K dX6_feed_1 lf_X6_10 h0 rfl ?_
  refine ww_get K dX6_feed_4 lf_X6_51 h1 rfl ?_
  refine ww_bipush (v := 20) K dX6_feed_7 rfl ?_
  refine ww_iadd K dX6_feed_9 ?_
  rw [show ((0 : Int32) + 20) = 20 from rfl]
  refine ww_sipush (v := 600) K dX6_feed_10 rfl ?_
  refine ww_icmp_le (tgt := 18) K dX6_feed_13 rfl (fun _ => ?_) (fun cc_ => absurd cc_ (by decide))
  refine ww_aload_n K dX6_feed_18 rfl ?_
  refine ww_iload_n K dX6_feed_19 rfl ?_
  refine ww_xVv K dX6_feed_20 lc_X6_55 h0 ⟨_, rfl, rfl⟩ (ct_X6_feedNumber G l (L := 0) (by decide) h0 h1 h2) rfl ⟨Nat.le_of_ble_eq_true rfl, Nat.le_of_ble_eq_true rfl⟩ (Nat.le_of_ble_eq_true rfl) (fun w2 hq hln_w2 => ?_)
  obtain ⟨h1, ⟨F1, h2⟩, hsm⟩ := hq
  have h0 := hsm.keep h0 (by decide)
  have hS := hS.call hsm (by decide)
  refine ww_aload_n K dX6_feed_23 rfl ?_
  refine ww_iload_n K dX6_feed_24 rfl ?_
  refine ww_xVv K dX6_feed_25 lc_X6_55 h0 ⟨_, rfl, rfl⟩ (ct_X6_feedNumber G l (L := 4) (by decide) h0 h1 h2) rfl ⟨Nat.le_of_ble_eq_true rfl, Nat.le_of_ble_eq_true rfl⟩ (Nat.le_of_ble_eq_true rfl) (fun w4 hq hln_w4 => ?_)
  obtain ⟨h1, ⟨F3, h2⟩, hsm⟩ := hq
  have h0 := hsm.keep h0 (by decide)
  have hS := hS.call hsm (by decide)
  refine ww_aload_n K dX6_feed_28 rfl ?_
  refine ww_iload_n K dX6_feed_29 rfl ?_
  refine ww_xVv K dX6_feed_30 lc_X6_55 h0 ⟨_, rfl, rfl⟩ (ct_X6_feedNumber G l (L := 8) (by decide) h0 h1 h2) rfl ⟨Nat.le_of_ble_eq_true rfl, Nat.le_of_ble_eq_true rfl⟩ (Nat.le_of_ble_eq_true rfl) (fun w6 hq hln_w6 => ?_)
  obtain ⟨h1, ⟨F5, h2⟩, hsm⟩ := hq
  have h0 := hsm.keep h0 (by decide)
  have hS := hS.call hsm (by decide)
  refine ww_aload_n K dX6_feed_33 rfl ?_
  refine ww_iload K dX6_feed_34 rfl ?_
  refine ww_xVv K dX6_feed_36 lc_X6_55 h0 ⟨_, rfl, rfl⟩ (ct_X6_feedNumber G l (L := 12) (by decide) h0 h1 h2) rfl ⟨Nat.le_of_ble_eq_true rfl, Nat.le_of_ble_eq_true rfl⟩ (Nat.le_of_ble_eq_true rfl) (fun w8 hq hln_w8 => ?_)
  obtain ⟨h1, ⟨F7, h2⟩, hsm⟩ := hq
  have h0 := hsm.keep h0 (by decide)
  have hS := hS.call hsm (by decide)
  refine ww_aload_n K dX6_feed_39 rfl ?_
  refine ww_iload K dX6_feed_40 rfl ?_
  refine ww_xVv K dX6_feed_42 lc_X6_55 h0 ⟨_, rfl, rfl⟩ (ct_X6_feedNumber G l (L := 16) (by decide) h0 h1 h2) rfl ⟨Nat.le_of_ble_eq_true rfl, Nat.le_of_ble_eq_true rfl⟩ (Nat.le_of_ble_eq_true rfl) (fun w10 hq hln_w10 => ?_)
  obtain ⟨h1, ⟨F9, h2⟩, hsm⟩ := hq
  have h0 := hsm.keep h0 (by decide)
  have hS := hS.call hsm (by decide)
  refine ww_aload_n K dX6_feed_45 rfl ?_
  refine ww_get K dX6_feed_46 lf_X6_10 h0 rfl ?_
  refine ww_get K dX6_feed_49 lf_X6_51 h1 rfl ?_
  exact ww_iret K dX6_feed_52 hr ⟨_, rfl, rfl, hS⟩
set_option maxRecDepth 100000 in
set_option maxHeartbeats 4000000 in
theorem ct_X6_fault (G : EG) (l : Launch) {w : EW} {a : Int32} (h0 : w[0]? = some (cO 6 [eR (1), eR (42), eR (43), eR (56), eR (60), eR (61), eR (62), eR (63)])) (h1 : w[1]? = some (cO 5 [eR (2), eI (0), eI (0), eI ((-1)), eR (3), eR (4), eR (5)])) : Ct G l yX6_fault cX6_fault 2 (some .int) 0 0 0 [eR (0), eI (a)] w (fun r w2 => r = some (eI (if a = 0 then 0 else -1)) ∧ w2 = w) := by
  refine Ct_of (by decide +kernel) (Nat.le_of_ble_eq_true rfl) ?_
  intro p_ e_ s_ m_ a_ b_ t_ c_ K0 hr hin
  have K : wc_C p_ s_ m_ a_ t_ c_ G RX6 cX6_fault 2 w.length := K0
  clear K0
  refine WW_ls (ls2 := [some (eR (0)), some (eI (a))]) rfl ?_
  have hS : wc_same [0] w w := wc_same.rf
  refine ww_iload_n K dX6_fault_0 rfl ?_
  refine ww_if_ne (tgt := 12) K dX6_fault_1 rfl (fun c_1 => ?_) (fun c_1 => ?_)
  · refine ww_iload_n K dX6_fault_12 rfl ?_
    refine ww_iconst (v := 1) K dX6_fault_13 rfl ?_
    refine ww_icmp_ne (tgt := 27) K dX6_fault_14 rfl (fun c_14 => ?_) (fun c_14 => ?_)
    · refine ww_iconst (v := (-1)) K dX6_fault_27 rfl ?_
      exact ww_iret K dX6_fault_28 hr ⟨by first | rw [if_pos c_1] | rw [if_neg c_1], rfl⟩
    · refine ww_aload_n K dX6_fault_17 rfl ?_
      refine ww_get K dX6_fault_18 lf_X6_10 h0 rfl ?_
      refine ww_get K dX6_fault_21 lf_X6_73 h1 rfl ?_
      refine ww_goto (tgt := 28) K dX6_fault_24 rfl ?_
      exact ww_iret K dX6_fault_28 hr ⟨by first | rw [if_pos c_1] | rw [if_neg c_1], rfl⟩
  · refine ww_aload_n K dX6_fault_4 rfl ?_
    refine ww_get K dX6_fault_5 lf_X6_10 h0 rfl ?_
    refine ww_get K dX6_fault_8 lf_X6_70 h1 rfl ?_
    exact ww_iret K dX6_fault_11 hr ⟨by first | rw [if_pos c_1] | rw [if_neg c_1], rfl⟩
set_option maxRecDepth 100000 in
set_option maxHeartbeats 4000000 in
theorem ct_X6_end (G : EG) (l : Launch) {w : EW} {a : Int32} (h0 : w[0]? = some (cO 6 [eR (1), eR (42), eR (43), eR (56), eR (60), eR (61), eR (62), eR (63)])) (h1 : w[1]? = some (cO 5 [eR (2), eI (0), eI (0), eI ((-1)), eR (3), eR (4), eR (5)])) : Ct G l yX6_end cX6_end 2 (some .int) 0 0 0 [eR (0), eI (a)] w (fun r w2 => (∃ x : Int32, r = some (eI x) ∧ (x = (if a < 0 then -1 else if a ≤ 0 then a else -1) ∧ wc_same [1] w w2))) := by
  refine Ct_of (by decide +kernel) (Nat.le_of_ble_eq_true rfl) ?_
  intro p_ e_ s_ m_ a_ b_ t_ c_ K0 hr hin
  have K : wc_C p_ s_ m_ a_ t_ c_ G RX6 cX6_end 2 w.length := K0
  clear K0
  refine WW_ls (ls2 := [some (eR (0)), some (eI (a))]) rfl ?_
  have hS : wc_same [1] w w := wc_same.rf
  refine ww_iload_n K dX6_end_0 rfl ?_
  refine ww_if_lt (tgt := 15) K dX6_end_1 rfl (fun c_1 => ?_) (fun c_1 => ?_)
  · refine ww_iconst (v := (-1)) K dX6_end_15 rfl ?_
    exact ww_iret K dX6_end_16 hr ⟨_, rfl, by first | rw [if_pos c_1] | rw [if_neg c_1, if_pos c_12] | rw [if_neg c_1, if_neg c_12], hS⟩
  · refine ww_iload_n K dX6_end_4 rfl ?_
    refine ww_aload_n K dX6_end_5 rfl ?_
    refine ww_get K dX6_end_6 lf_X6_10 h0 rfl ?_
    refine ww_get K dX6_end_9 lf_X6_51 h1 rfl ?_
    refine ww_icmp_le (tgt := 17) K dX6_end_12 rfl (fun c_12 => ?_) (fun c_12 => ?_)
    · refine ww_aload_n K dX6_end_17 rfl ?_
      refine ww_get K dX6_end_18 lf_X6_10 h0 rfl ?_
      refine ww_iload_n K dX6_end_21 rfl ?_
      refine ww_putX K dX6_end_22 lp_X6_51 h1 (Nat.le_of_ble_eq_true rfl) rfl rfl (fun w1 hln_w1 h1 hne_w1 => ?_)
      have h1 : w1[1]? = some (cO 5 [eR (2), eI (a), eI (0), eI ((-1)), eR (3), eR (4), eR (5)]) := h1
      have h0 := (hne_w1 0 (by decide)).trans h0
      have hS := hS.put (k := 1) (by decide) hne_w1
      refine ww_iload_n K dX6_end_25 rfl ?_
      exact ww_iret K dX6_end_26 hr ⟨_, rfl, by first | rw [if_pos c_1] | rw [if_neg c_1, if_pos c_12] | rw [if_neg c_1, if_neg c_12], hS⟩
    · refine ww_iconst (v := (-1)) K dX6_end_15 rfl ?_
      exact ww_iret K dX6_end_16 hr ⟨_, rfl, by first | rw [if_pos c_1] | rw [if_neg c_1, if_pos c_12] | rw [if_neg c_1, if_neg c_12], hS⟩
set_option maxRecDepth 100000 in
set_option maxHeartbeats 4000000 in
theorem ct_X6_count (G : EG) (l : Launch) {w : EW} {a : Int32} {cnt : Nat → Int32} (hz : ∀ k, k < 6 → cnt k = 0) (h0 : w[0]? = some (cO 6 [eR (1), eR (42), eR (43), eR (56), eR (60), eR (61), eR (62), eR (63)])) (h1 : w[1]? = some (cO 5 [eR (2), eI (0), eI (0), eI ((-1)), eR (3), eR (4), eR (5)])) (h3 : w[3]? = some (cI 0 6 cnt)) : Ct G l yX6_count cX6_count 2 (some .int) 1 0 0 [eR (0), eI (a)] w (fun r w2 => r = some (eI (if a < 0 then -2 else if 6 ≤ a then -2 else 0)) ∧ w2 = w) := by
  refine Ct_of (by decide +kernel) (Nat.le_of_ble_eq_true rfl) ?_
  intro p_ e_ s_ m_ a_ b_ t_ c_ K0 hr hin
  have K : wc_C p_ s_ m_ a_ t_ c_ G RX6 cX6_count 2 w.length := K0
  clear K0
  refine WW_ls (ls2 := [some (eR (0)), some (eI (a))]) rfl ?_
  have hS : wc_same [0] w w := wc_same.rf
  refine ww_iload_n K dX6_count_0 rfl ?_
  refine ww_if_lt (tgt := 24) K dX6_count_1 rfl (fun c_1 => ?_) (fun c_1 => ?_)
  · refine ww_bipush (v := (-2)) K dX6_count_24 rfl ?_
    exact ww_iret K dX6_count_26 hr ⟨by first | rw [if_pos c_1] | rw [if_neg c_1, if_pos c_7] | rw [if_neg c_1, if_neg c_7], rfl⟩
  · refine ww_iload_n K dX6_count_4 rfl ?_
    refine ww_bipush (v := 6) K dX6_count_5 rfl ?_
    refine ww_icmp_ge (tgt := 24) K dX6_count_7 rfl (fun c_7 => ?_) (fun c_7 => ?_)
    · refine ww_bipush (v := (-2)) K dX6_count_24 rfl ?_
      exact ww_iret K dX6_count_26 hr ⟨by first | rw [if_pos c_1] | rw [if_neg c_1, if_pos c_7] | rw [if_neg c_1, if_neg c_7], rfl⟩
    · refine ww_aload_n K dX6_count_10 rfl ?_
      refine ww_get K dX6_count_11 lf_X6_10 h0 rfl ?_
      refine ww_get K dX6_count_14 lf_X6_85 h1 rfl ?_
      refine ww_iload_n K dX6_count_17 rfl ?_
      refine ww_cS K dX6_count_18 lc_X6_88 (ct_X6_cell G l h3 (by decide) (i := a) (wc_in6 (N := 6) rfl c_1 (Int32.not_le.mp c_7))) rfl ⟨Nat.le_of_ble_eq_true rfl, Nat.le_of_ble_eq_true rfl⟩ (Nat.le_of_ble_eq_true rfl) ?_
      rw [show cnt (a : Int32).toNatClampNeg = 0 from hz _ (wc_cl_lt (wc_in6 (N := 6) rfl c_1 (Int32.not_le.mp c_7)))]
      refine ww_goto (tgt := 26) K dX6_count_21 rfl ?_
      exact ww_iret K dX6_count_26 hr ⟨by first | rw [if_pos c_1] | rw [if_neg c_1, if_pos c_7] | rw [if_neg c_1, if_neg c_7], rfl⟩
set_option maxRecDepth 100000 in
set_option maxHeartbeats 4000000 in
theorem ct_X6_again_0 (G : EG) (l : Launch) {w : EW} {a : Int32} (h0 : w[0]? = some (cO 6 [eR (1), eR (42), eR (43), eR (56), eR (60), eR (61), eR (62), eR (63)])) (h42 : w[42]? = some (cQ 4 3 (fun _ => none))) : Ct G l yX6_again cX6_again 2 (some .boolean) 0 0 0 [eR (0), eI (a)] w (fun r w2 => r = some (eI 0) ∧ w2 = w) := by
  refine Ct_of (by decide +kernel) (Nat.le_of_ble_eq_true rfl) ?_
  intro p_ e_ s_ m_ a_ b_ t_ c_ K0 hr hin
  have K : wc_C p_ s_ m_ a_ t_ c_ G RX6 cX6_again 2 w.length := K0
  clear K0
  refine WW_ls (ls2 := [some (eR (0)), some (eI (a))]) rfl ?_
  have hS : wc_same [0] w w := wc_same.rf
  refine ww_iload_n K dX6_again_0 rfl ?_
  refine ww_if_lt (tgt := 22) K dX6_again_1 rfl (fun c_1 => ?_) (fun c_1 => ?_)
  · refine ww_iconst (v := 0) K dX6_again_22 rfl ?_
    exact ww_zret K rfl dX6_again_23 hr ⟨rfl, rfl⟩
  · refine ww_iload_n K dX6_again_4 rfl ?_
    refine ww_aload_n K dX6_again_5 rfl ?_
    refine ww_get K dX6_again_6 lf_X6_16 h0 rfl ?_
    refine ww_alenq K dX6_again_9 h42 (by decide) ?_
    rw [show Int32.ofNat 3 = 3 from rfl]
    refine ww_icmp_ge (tgt := 22) K dX6_again_10 rfl (fun c_10 => ?_) (fun c_10 => ?_)
    · refine ww_iconst (v := 0) K dX6_again_22 rfl ?_
      exact ww_zret K rfl dX6_again_23 hr ⟨rfl, rfl⟩
    · refine ww_aload_n K dX6_again_13 rfl ?_
      refine ww_get K dX6_again_14 lf_X6_16 h0 rfl ?_
      refine ww_iload_n K dX6_again_17 rfl ?_
      refine ww_aald4 K dX6_again_18 h42 (wc_in6 (N := 3) rfl c_1 (Int32.not_le.mp c_10)) ?_
      refine ww_ifnonnullN K dX6_again_19 ?_
      refine ww_iconst (v := 0) K dX6_again_22 rfl ?_
      exact ww_zret K rfl dX6_again_23 hr ⟨rfl, rfl⟩
set_option maxRecDepth 100000 in
set_option maxHeartbeats 4000000 in
theorem ct_X6_image_bad (G : EG) (l : Launch) {w : EW} {a : Int32} (hb : a < 0 ∨ 3 ≤ a) (h0 : w[0]? = some (cO 6 [eR (1), eR (42), eR (43), eR (56), eR (60), eR (61), eR (62), eR (63)])) (h42 : w[42]? = some (cQ 4 3 (fun _ => none))) : Ct G l yX6_image cX6_image 3 (some .boolean) 0 0 0 [eR (0), eI (a)] w (fun r w2 => r = some (eI 0) ∧ w2 = w) := by
  refine Ct_of (by decide +kernel) (Nat.le_of_ble_eq_true rfl) ?_
  intro p_ e_ s_ m_ a_ b_ t_ c_ K0 hr hin
  have K : wc_C p_ s_ m_ a_ t_ c_ G RX6 cX6_image 3 w.length := K0
  clear K0
  refine WW_ls (ls2 := [some (eR (0)), some (eI (a)), none]) rfl ?_
  have hS : wc_same [0] w w := wc_same.rf
  refine ww_iload_n K dX6_image_0 rfl ?_
  refine ww_if_lt (tgt := 13) K dX6_image_1 rfl (fun c_1 => ?_) (fun c_1 => ?_)
  · refine ww_iconst (v := 0) K dX6_image_13 rfl ?_
    exact ww_zret K rfl dX6_image_14 hr ⟨rfl, rfl⟩
  · refine ww_iload_n K dX6_image_4 rfl ?_
    refine ww_aload_n K dX6_image_5 rfl ?_
    refine ww_get K dX6_image_6 lf_X6_16 h0 rfl ?_
    refine ww_alenq K dX6_image_9 h42 (by decide) ?_
    rw [show Int32.ofNat 3 = 3 from rfl]
    refine ww_icmp_lt (tgt := 15) K dX6_image_10 rfl (fun cc_ => absurd cc_ (Int32.not_lt.mpr (hb.resolve_left c_1))) (fun _ => ?_)
    refine ww_iconst (v := 0) K dX6_image_13 rfl ?_
    exact ww_zret K rfl dX6_image_14 hr ⟨rfl, rfl⟩
