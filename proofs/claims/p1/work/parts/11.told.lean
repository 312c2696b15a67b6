theorem ct_fill (G : EG) (l : Launch) {w : EW} {k n : Nat} {f : Nat → Int32} {v : Int32} (hk : w[k]? = some (cI 0 n f)) (hn : n < 2147483648) : Ct G l yJ7_fill_53178 cJ7_fill_53178 4 none 0 0 0 [eR k, eI v] w (fun r w2 => r = none ∧ ((∃ F : Nat → Int32, (∀ j, j < n → F j = v) ∧ w2[k]? = some (cI 0 n F)) ∧ wc_same [k] w w2)) := by
  refine Ct_of (by decide +kernel) (Nat.le_of_ble_eq_true rfl) ?_
  intro p_ e_ s_ m_ a_ b_ t_ c_ K0 hr hin
  have K : wc_C p_ s_ m_ a_ t_ c_ G RJ7 cJ7_fill_53178 4 w.length := K0
  clear K0
  refine WW_ls (ls2 := [some (eR k), some (eI v), none, none]) rfl ?_
  refine ww_iconst (v := 0) K dJ7_fill_53178_0 rfl ?_
  refine ww_istore_n (ls2 := [some (eR k), some (eI v), some (eI (nI 0)), none]) K dJ7_fill_53178_1 (by decide) rfl ?_
  refine ww_aload_n K dJ7_fill_53178_2 rfl ?_
  refine ww_alen K dJ7_fill_53178_3 hk (by decide) ?_
  refine ww_istore_n (ls2 := [some (eR k), some (eI v), some (eI (nI 0)), some (eI (nI n))]) K dJ7_fill_53178_4 (by decide) rfl ?_
  have loop : ∀ (d i : Nat), i + d = n → ∀ (w1 : EW) (f1 : Nat → Int32), w1[k]? = some (cI 0 n f1) → (∀ j, j < i → f1 j = v) → wc_same [k] w w1 → WW p_ l e_ (wc_rm 0 0 0) s_ m_ a_ b_ t_ c_ (MQ b_ (wc_Q G w 0 0 (fun r w2 => r = none ∧ ((∃ F : Nat → Int32, (∀ j, j < n → F j = v) ∧ w2[k]? = some (cI 0 n F)) ∧ wc_same [k] w w2))) a_ s_ 0 0 (wc_A G)) G 4 w.length (wc_SL w) 0 0 5 [some (eR k), some (eI v), some (eI (nI i)), some (eI (nI n))] [] w1 := by
    intro d
    induction d with
    | zero =>
      intro i hi w1 f1 h1 hv hS
      have : i = n := by omega
      subst this
      refine ww_iload_n K dJ7_fill_53178_5 rfl ?_
      refine ww_iload_n K dJ7_fill_53178_6 rfl ?_
      refine ww_icmp_ge (tgt := 20) K dJ7_fill_53178_7 rfl (fun _ => ?_) (fun q => absurd (nI_le (Nat.le_refl _) hn) q)
      exact ww_vret K dJ7_fill_53178_20 hr ⟨rfl, ⟨f1, hv, h1⟩, hS⟩
    | succ d ih =>
      intro i hi w1 f1 h1 hv hS
      have hlt : i < n := by omega
      refine ww_iload_n K dJ7_fill_53178_5 rfl ?_
      refine ww_iload_n K dJ7_fill_53178_6 rfl ?_
      refine ww_icmp_ge (tgt := 20) K dJ7_fill_53178_7 rfl (fun q => absurd q (nI_ge hlt hn)) (fun _ => ?_)
      refine ww_aload_n K dJ7_fill_53178_10 rfl ?_
      refine ww_iload_n K dJ7_fill_53178_11 rfl ?_
      refine ww_iload_n K dJ7_fill_53178_12 rfl ?_
      refine ww_iastX K dJ7_fill_53178_13 h1 (vp_in_nI hlt hn) (fun w3 hln h3 hne => ?_)
      refine ww_iinc (ls2 := [some (eR k), some (eI v), some (eI (nI (i + 1))), some (eI (nI n))]) K dJ7_fill_53178_14 (by decide) rfl (by rw [nI_succ]; rfl) ?_
      refine ww_goto (tgt := 5) K dJ7_fill_53178_17 rfl ?_
      refine ih (i + 1) (by omega) w3 _ h3 (fun j hj => ?_) (hS.put (by simp) hne)
      rw [nI_clamp (by omega)]
      by_cases e : j = i
      · rw [e]; exact pk_us
      · rw [pk_un e]; exact hv j (by omega)
  exact loop n 0 (by omega) w f hk (fun j hj => absurd hj (Nat.not_lt_zero _)) wc_same.rf
set_option maxRecDepth 100000 in
theorem ct_copy (G : EG) (l : Launch) {w : EW} {k0 k1 n : Nat} {f g : Nat → Int32} (h0 : w[k0]? = some (cI 0 n f)) (h1 : w[k1]? = some (cI 0 n g)) (hn : n < 2147483648) : Ct G l yX6_copy cX6_copy 2 none 1 0 0 [eR k0, eR k1] w (fun r w2 => r = none ∧ ((∃ F : Nat → Int32, (∀ j, j < n → F j = f j) ∧ w2[k1]? = some (cI 0 n F)) ∧ wc_same [k1] w w2)) := by
  refine Ct_of (by decide +kernel) (Nat.le_of_ble_eq_true rfl) ?_
  intro p_ e_ s_ m_ a_ b_ t_ c_ K0 hr hin
  have K : wc_C p_ s_ m_ a_ t_ c_ G RX6 cX6_copy 2 w.length := K0
  clear K0
  refine WW_ls (ls2 := [some (eR k0), some (eR k1)]) rfl ?_
  refine ww_aload_n K dX6_copy_0 rfl ?_
  refine ww_iconst (v := 0) K dX6_copy_1 rfl ?_
  refine ww_aload_n K dX6_copy_2 rfl ?_
  refine ww_iconst (v := 0) K dX6_copy_3 rfl ?_
  refine ww_aload_n K dX6_copy_4 rfl ?_
  refine ww_alen K dX6_copy_5 h0 (by decide) ?_
  refine ww_aload_n K dX6_copy_6 rfl ?_
  refine ww_alen K dX6_copy_7 h1 (by decide) ?_
  refine ww_mmin K dX6_copy_8 lm_X6_366 ⟨Nat.le_of_ble_eq_true rfl, Nat.le_of_ble_eq_true rfl⟩ ?_
  rw [ite_self]
  have hc : (Int32.ofNat n).toNatClampNeg = n := nI_clamp hn
  refine ww_copyX K dX6_copy_11 lm_X6_422 h0 h1 (by decide) (by decide) (nI_pos hn) (by rw [hc]; show 0 + n ≤ n; omega) (by rw [hc]; show 0 + n ≤ n; omega) ⟨Nat.le_of_ble_eq_true rfl, by decide +kernel⟩ (fun w2 hln h2 hne => ?_)
  rw [hc] at h2
  exact ww_vret K dX6_copy_14 hr ⟨rfl, ⟨_, fun j hj => sb_cpy0 hj, h2⟩, wc_same.put wc_same.rf (by simp) hne⟩
set_option maxRecDepth 100000 in
set_option maxHeartbeats 4000000 in
theorem ct_X2_copyRepublic_6_44 (G : EG) (l : Launch) {w : EW} {a1 a2 a3 a4 a5 a6 a7 : Int32} {f1 f2 f3 f4 f5 f6 f7 : Nat → Int32} {b1 b2 b3 b4 b5 b6 b7 : Int32} {g1 g2 g3 g4 g5 g6 g7 : Nat → Int32} (h6 : w[6]? = some (cO 2 [eI (a1), eR (7), eR (8), eR (9), eR (10), eR (11), eR (12), eR (13), eI (a2), eI (a3), eI (a4), eI (a5), eI (a6), eI (a7)])) (h7 : w[7]? = some (cI 0 6 f1)) (h8 : w[8]? = some (cI 0 6 f2)) (h9 : w[9]? = some (cI 0 6 f3)) (h10 : w[10]? = some (cI 0 6 f4)) (h11 : w[11]? = some (cI 0 72 f5)) (h12 : w[12]? = some (cI 0 6 f6)) (h13 : w[13]? = some (cI 0 3 f7)) (h44 : w[44]? = some (cO 2 [eI (b1), eR (45), eR (46), eR (47), eR (48), eR (49), eR (50), eR (51), eI (b2), eI (b3), eI (b4), eI (b5), eI (b6), eI (b7)])) (h45 : w[45]? = some (cI 0 6 g1)) (h46 : w[46]? = some (cI 0 6 g2)) (h47 : w[47]? = some (cI 0 6 g3)) (h48 : w[48]? = some (cI 0 6 g4)) (h49 : w[49]? = some (cI 0 72 g5)) (h50 : w[50]? = some (cI 0 6 g6)) (h51 : w[51]? = some (cI 0 3 g7)) : Ct G l yX2_copyRepublic cX2_copyRepublic 2 none 2 0 0 [eR (6), eR (44)] w (fun r w2 => r = none ∧ wc_same [6, 7, 8, 9, 10, 11, 12, 13] w w2) := by
  refine Ct_of (by decide +kernel) (Nat.le_of_ble_eq_true rfl) ?_
  intro p_ e_ s_ m_ a_ b_ t_ c_ K0 hr hin
  have K : wc_C p_ s_ m_ a_ t_ c_ G RX2 cX2_copyRepublic 2 w.length := K0
  clear K0
  refine WW_ls (ls2 := [some (eR (6)), some (eR (44))]) rfl ?_
  have hS : wc_same [6, 7, 8, 9, 10, 11, 12, 13] w w := wc_same.rf
  refine ww_aload_n K dX2_copyRepublic_0 rfl ?_
  refine ww_aload_n K dX2_copyRepublic_1 rfl ?_
  refine ww_get K dX2_copyRepublic_2 lf_X2_33 h44 rfl ?_
  refine ww_putX K dX2_copyRepublic_5 lp_X2_33 h6 (Nat.le_of_ble_eq_true rfl) rfl rfl (fun w1 hln_w1 h6 hne_w1 => ?_)
  have h6 : w1[6]? = some (cO 2 [eI (b1), eR (7), eR (8), eR (9), eR (10), eR (11), eR (12), eR (13), eI (a2), eI (a3), eI (a4), eI (a5), eI (a6), eI (a7)]) := h6
  have h7 := (hne_w1 7 (by decide)).trans h7
  have h8 := (hne_w1 8 (by decide)).trans h8
  have h9 := (hne_w1 9 (by decide)).trans h9
  have h10 := (hne_w1 10 (by decide)).trans h10
  have h11 := (hne_w1 11 (by decide)).trans h11
  have h12 := (hne_w1 12 (by decide)).trans h12
  have h13 := (hne_w1 13 (by decide)).trans h13
  have h44 := (hne_w1 44 (by decide)).trans h44
  have h45 := (hne_w1 45 (by decide)).trans h45
  have h46 := (hne_w1 46 (by decide)).trans h46
  have h47 := (hne_w1 47 (by decide)).trans h47
  have h48 := (hne_w1 48 (by decide)).trans h48
  have h49 := (hne_w1 49 (by decide)).trans h49
  have h50 := (hne_w1 50 (by decide)).trans h50
  have h51 := (hne_w1 51 (by decide)).trans h51
  have hS := hS.put (k := 6) (by decide) hne_w1
  refine ww_aload_n K dX2_copyRepublic_8 rfl ?_
  refine ww_get K dX2_copyRepublic_9 lf_X2_9 h44 rfl ?_
  refine ww_aload_n K dX2_copyRepublic_12 rfl ?_
  refine ww_get K dX2_copyRepublic_13 lf_X2_9 h6 rfl ?_
  refine ww_xSNv K dX2_copyRepublic_16 lc_X2_61 (ct_copy G l h45 h7 (by decide)) rfl ⟨Nat.le_of_ble_eq_true rfl, Nat.le_of_ble_eq_true rfl⟩ (Nat.le_of_ble_eq_true rfl) (fun w3 hq hln_w3 => ?_)
  obtain ⟨⟨F2, eF2, h7⟩, hsm⟩ := hq
  have h6 := hsm.keep h6 (by decide)
  have h8 := hsm.keep h8 (by decide)
  have h9 := hsm.keep h9 (by decide)
  have h10 := hsm.keep h10 (by decide)
  have h11 := hsm.keep h11 (by decide)
  have h12 := hsm.keep h12 (by decide)
  have h13 := hsm.keep h13 (by decide)
  have h44 := hsm.keep h44 (by decide)
  have h45 := hsm.keep h45 (by decide)
  have h46 := hsm.keep h46 (by decide)
  have h47 := hsm.keep h47 (by decide)
  have h48 := hsm.keep h48 (by decide)
  have h49 := hsm.keep h49 (by decide)
  have h50 := hsm.keep h50 (by decide)
  have h51 := hsm.keep h51 (by decide)
  have hS := hS.call hsm (by decide)
  refine ww_aload_n K dX2_copyRepublic_19 rfl ?_
  refine ww_get K dX2_copyRepublic_20 lf_X2_15 h44 rfl ?_
  refine ww_aload_n K dX2_copyRepublic_23 rfl ?_
  refine ww_get K dX2_copyRepublic_24 lf_X2_15 h6 rfl ?_
  refine ww_xSNv K dX2_copyRepublic_27 lc_X2_61 (ct_copy G l h46 h8 (by decide)) rfl ⟨Nat.le_of_ble_eq_true rfl, Nat.le_of_ble_eq_true rfl⟩ (Nat.le_of_ble_eq_true rfl) (fun w5 hq hln_w5 => ?_)
  obtain ⟨⟨F4, eF4, h8⟩, hsm⟩ := hq
  have h6 := hsm.keep h6 (by decide)
  have h7 := hsm.keep h7 (by decide)
  have h9 := hsm.keep h9 (by decide)
  have h10 := hsm.keep h10 (by decide)
  have h11 := hsm.keep h11 (by decide)
  have h12 := hsm.keep h12 (by decide)
  have h13 := hsm.keep h13 (by decide)
  have h44 := hsm.keep h44 (by decide)
  have h45 := hsm.keep h45 (by decide)
  have h46 := hsm.keep h46 (by decide)
  have h47 := hsm.keep h47 (by decide)
  have h48 := hsm.keep h48 (by decide)
  have h49 := hsm.keep h49 (by decide)
  have h50 := hsm.keep h50 (by decide)
  have h51 := hsm.keep h51 (by decide)
  have hS := hS.call hsm (by decide)
  refine ww_aload_n K dX2_copyRepublic_30 rfl ?_
  refine ww_get K dX2_copyRepublic_31 lf_X2_18 h44 rfl ?_
  refine ww_aload_n K dX2_copyRepublic_34 rfl ?_
  refine ww_get K dX2_copyRepublic_35 lf_X2_18 h6 rfl ?_
  refine ww_xSNv K dX2_copyRepublic_38 lc_X2_61 (ct_copy G l h47 h9 (by decide)) rfl ⟨Nat.le_of_ble_eq_true rfl, Nat.le_of_ble_eq_true rfl⟩ (Nat.le_of_ble_eq_true rfl) (fun w7 hq hln_w7 => ?_)
  obtain ⟨⟨F6, eF6, h9⟩, hsm⟩ := hq
  have h6 := hsm.keep h6 (by decide)
  have h7 := hsm.keep h7 (by decide)
  have h8 := hsm.keep h8 (by decide)
  have h10 := hsm.keep h10 (by decide)
  have h11 := hsm.keep h11 (by decide)
  have h12 := hsm.keep h12 (by decide)
  have h13 := hsm.keep h13 (by decide)
  have h44 := hsm.keep h44 (by decide)
  have h45 := hsm.keep h45 (by decide)
  have h46 := hsm.keep h46 (by decide)
  have h47 := hsm.keep h47 (by decide)
  have h48 := hsm.keep h48 (by decide)
  have h49 := hsm.keep h49 (by decide)
  have h50 := hsm.keep h50 (by decide)
  have h51 := hsm.keep h51 (by decide)
  have hS := hS.call hsm (by decide)
  refine ww_aload_n K dX2_copyRepublic_41 rfl ?_
  refine ww_get K dX2_copyRepublic_42 lf_X2_21 h44 rfl ?_
  refine ww_aload_n K dX2_copyRepublic_45 rfl ?_
  refine ww_get K dX2_copyRepublic_46 lf_X2_21 h6 rfl ?_
  refine ww_xSNv K dX2_copyRepublic_49 lc_X2_61 (ct_copy G l h48 h10 (by decide)) rfl ⟨Nat.le_of_ble_eq_true rfl, Nat.le_of_ble_eq_true rfl⟩ (Nat.le_of_ble_eq_true rfl) (fun w9 hq hln_w9 => ?_)
  obtain ⟨⟨F8, eF8, h10⟩, hsm⟩ := hq
  have h6 := hsm.keep h6 (by decide)
  have h7 := hsm.keep h7 (by decide)
  have h8 := hsm.keep h8 (by decide)
  have h9 := hsm.keep h9 (by decide)
  have h11 := hsm.keep h11 (by decide)
  have h12 := hsm.keep h12 (by decide)
  have h13 := hsm.keep h13 (by decide)
  have h44 := hsm.keep h44 (by decide)
  have h45 := hsm.keep h45 (by decide)
  have h46 := hsm.keep h46 (by decide)
  have h47 := hsm.keep h47 (by decide)
  have h48 := hsm.keep h48 (by decide)
  have h49 := hsm.keep h49 (by decide)
  have h50 := hsm.keep h50 (by decide)
  have h51 := hsm.keep h51 (by decide)
  have hS := hS.call hsm (by decide)
  refine ww_aload_n K dX2_copyRepublic_52 rfl ?_
  refine ww_get K dX2_copyRepublic_53 lf_X2_24 h44 rfl ?_
  refine ww_aload_n K dX2_copyRepublic_56 rfl ?_
  refine ww_get K dX2_copyRepublic_57 lf_X2_24 h6 rfl ?_
  refine ww_xSNv K dX2_copyRepublic_60 lc_X2_61 (ct_copy G l h49 h11 (by decide)) rfl ⟨Nat.le_of_ble_eq_true rfl, Nat.le_of_ble_eq_true rfl⟩ (Nat.le_of_ble_eq_true rfl) (fun w11 hq hln_w11 => ?_)
  obtain ⟨⟨F10, eF10, h11⟩, hsm⟩ := hq
  have h6 := hsm.keep h6 (by decide)
  have h7 := hsm.keep h7 (by decide)
  have h8 := hsm.keep h8 (by decide)
  have h9 := hsm.keep h9 (by decide)
  have h10 := hsm.keep h10 (by decide)
  have h12 := hsm.keep h12 (by decide)
  have h13 := hsm.keep h13 (by decide)
  have h44 := hsm.keep h44 (by decide)
  have h45 := hsm.keep h45 (by decide)
  have h46 := hsm.keep h46 (by decide)
  have h47 := hsm.keep h47 (by decide)
  have h48 := hsm.keep h48 (by decide)
  have h49 := hsm.keep h49 (by decide)
  have h50 := hsm.keep h50 (by decide)
  have h51 := hsm.keep h51 (by decide)
  have hS := hS.call hsm (by decide)
  refine ww_aload_n K dX2_copyRepublic_63 rfl ?_
  refine ww_get K dX2_copyRepublic_64 lf_X2_27 h44 rfl ?_
  refine ww_aload_n K dX2_copyRepublic_67 rfl ?_
  refine ww_get K dX2_copyRepublic_68 lf_X2_27 h6 rfl ?_
  refine ww_xSNv K dX2_copyRepublic_71 lc_X2_61 (ct_copy G l h50 h12 (by decide)) rfl ⟨Nat.le_of_ble_eq_true rfl, Nat.le_of_ble_eq_true rfl⟩ (Nat.le_of_ble_eq_true rfl) (fun w13 hq hln_w13 => ?_)
  obtain ⟨⟨F12, eF12, h12⟩, hsm⟩ := hq
  have h6 := hsm.keep h6 (by decide)
  have h7 := hsm.keep h7 (by decide)
  have h8 := hsm.keep h8 (by decide)
  have h9 := hsm.keep h9 (by decide)
  have h10 := hsm.keep h10 (by decide)
  have h11 := hsm.keep h11 (by decide)
  have h13 := hsm.keep h13 (by decide)
  have h44 := hsm.keep h44 (by decide)
  have h45 := hsm.keep h45 (by decide)
  have h46 := hsm.keep h46 (by decide)
  have h47 := hsm.keep h47 (by decide)
  have h48 := hsm.keep h48 (by decide)
  have h49 := hsm.keep h49 (by decide)
  have h50 := hsm.keep h50 (by decide)
  have h51 := hsm.keep h51 (by decide)
  have hS := hS.call hsm (by decide)
  refine ww_aload_n K dX2_copyRepublic_74 rfl ?_
  refine ww_get K dX2_copyRepublic_75 lf_X2_30 h44 rfl ?_
  refine ww_aload_n K dX2_copyRepublic_78 rfl ?_
  refine ww_get K dX2_copyRepublic_79 lf_X2_30 h6 rfl ?_
  refine ww_xSNv K dX2_copyRepublic_82 lc_X2_61 (ct_copy G l h51 h13 (by decide)) rfl ⟨Nat.le_of_ble_eq_true rfl, Nat.le_of_ble_eq_true rfl⟩ (Nat.le_of_ble_eq_true rfl) (fun w15 hq hln_w15 => ?_)
  obtain ⟨⟨F14, eF14, h13⟩, hsm⟩ := hq
  have h6 := hsm.keep h6 (by decide)
  have h7 := hsm.keep h7 (by decide)
  have h8 := hsm.keep h8 (by decide)
  have h9 := hsm.keep h9 (by decide)
  have h10 := hsm.keep h10 (by decide)
  have h11 := hsm.keep h11 (by decide)
  have h12 := hsm.keep h12 (by decide)
  have h44 := hsm.keep h44 (by decide)
  have h45 := hsm.keep h45 (by decide)
  have h46 := hsm.keep h46 (by decide)
  have h47 := hsm.keep h47 (by decide)
  have h48 := hsm.keep h48 (by decide)
  have h49 := hsm.keep h49 (by decide)
  have h50 := hsm.keep h50 (by decide)
  have h51 := hsm.keep h51 (by decide)
  have hS := hS.call hsm (by decide)
  refine ww_aload_n K dX2_copyRepublic_85 rfl ?_
  refine ww_aload_n K dX2_copyRepublic_86 rfl ?_
  refine ww_get K dX2_copyRepublic_87 lf_X2_43 h44 rfl ?_
  refine ww_putX K dX2_copyRepublic_90 lp_X2_43 h6 (Nat.le_of_ble_eq_true rfl) rfl rfl (fun w16 hln_w16 h6 hne_w16 => ?_)
  have h6 : w16[6]? = some (cO 2 [eI (b1), eR (7), eR (8), eR (9), eR (10), eR (11), eR (12), eR (13), eI (b2), eI (a3), eI (a4), eI (a5), eI (a6), eI (a7)]) := h6
  have h7 := (hne_w16 7 (by decide)).trans h7
  have h8 := (hne_w16 8 (by decide)).trans h8
  have h9 := (hne_w16 9 (by decide)).trans h9
  have h10 := (hne_w16 10 (by decide)).trans h10
  have h11 := (hne_w16 11 (by decide)).trans h11
  have h12 := (hne_w16 12 (by decide)).trans h12
  have h13 := (hne_w16 13 (by decide)).trans h13
  have h44 := (hne_w16 44 (by decide)).trans h44
  have h45 := (hne_w16 45 (by decide)).trans h45
  have h46 := (hne_w16 46 (by decide)).trans h46
  have h47 := (hne_w16 47 (by decide)).trans h47
  have h48 := (hne_w16 48 (by decide)).trans h48
  have h49 := (hne_w16 49 (by decide)).trans h49
  have h50 := (hne_w16 50 (by decide)).trans h50
  have h51 := (hne_w16 51 (by decide)).trans h51
  have hS := hS.put (k := 6) (by decide) hne_w16
  refine ww_aload_n K dX2_copyRepublic_93 rfl ?_
  refine ww_aload_n K dX2_copyRepublic_94 rfl ?_
  refine ww_get K dX2_copyRepublic_95 lf_X2_46 h44 rfl ?_
  refine ww_putX K dX2_copyRepublic_98 lp_X2_46 h6 (Nat.le_of_ble_eq_true rfl) rfl rfl (fun w17 hln_w17 h6 hne_w17 => ?_)
  have h6 : w17[6]? = some (cO 2 [eI (b1), eR (7), eR (8), eR (9), eR (10), eR (11), eR (12), eR (13), eI (b2), eI (b3), eI (a4), eI (a5), eI (a6), eI (a7)]) := h6
  have h7 := (hne_w17 7 (by decide)).trans h7
  have h8 := (hne_w17 8 (by decide)).trans h8
  have h9 := (hne_w17 9 (by decide)).trans h9
  have h10 := (hne_w17 10 (by decide)).trans h10
  have h11 := (hne_w17 11 (by decide)).trans h11
  have h12 := (hne_w17 12 (by decide)).trans h12
  have h13 := (hne_w17 13 (by decide)).trans h13
  have h44 := (hne_w17 44 (by decide)).trans h44
  have h45 := (hne_w17 45 (by decide)).trans h45
  have h46 := (hne_w17 46 (by decide)).trans h46
  have h47 := (hne_w17 47 (by decide)).trans h47
  have h48 := (hne_w17 48 (by decide)).trans h48
  have h49 := (hne_w17 49 (by decide)).trans h49
  have h50 := (hne_w17 50 (by decide)).trans h50
  have h51 := (hne_w17 51 (by decide)).trans h51
  have hS := hS.put (k := 6) (by decide) hne_w17
  refine ww_aload_n K dX2_copyRepublic_101 rfl ?_
  refine ww_aload_n K dX2_copyRepublic_102 rfl ?_
  refine ww_get K dX2_copyRepublic_103 lf_X2_49 h44 rfl ?_
  refine ww_putX K dX2_copyRepublic_106 lp_X2_49 h6 (Nat.le_of_ble_eq_true rfl) rfl rfl (fun w18 hln_w18 h6 hne_w18 => ?_)
  have h6 : w18[6]? = some (cO 2 [eI (b1), eR (7), eR (8), eR (9), eR (10), eR (11), eR (12), eR (13), eI (b2), eI (b3), eI (b4), eI (a5), eI (a6), eI (a7)]) := h6
  have h7 := (hne_w18 7 (by decide)).trans h7
  have h8 := (hne_w18 8 (by decide)).trans h8
  have h9 := (hne_w18 9 (by decide)).trans h9
  have h10 := (hne_w18 10 (by decide)).trans h10
  have h11 := (hne_w18 11 (by decide)).trans h11
  have h12 := (hne_w18 12 (by decide)).trans h12
  have h13 := (hne_w18 13 (by decide)).trans h13
  have h44 := (hne_w18 44 (by decide)).trans h44
  have h45 := (hne_w18 45 (by decide)).trans h45
  have h46 := (hne_w18 46 (by decide)).trans h46
  have h47 := (hne_w18 47 (by decide)).trans h47
  have h48 := (hne_w18 48 (by decide)).trans h48
  have h49 := (hne_w18 49 (by decide)).trans h49
  have h50 := (hne_w18 50 (by decide)).trans h50
  have h51 := (hne_w18 51 (by decide)).trans h51
  have hS := hS.put (k := 6) (by decide) hne_w18
  refine ww_aload_n K dX2_copyRepublic_109 rfl ?_
  refine ww_aload_n K dX2_copyRepublic_110 rfl ?_
  refine ww_get K dX2_copyRepublic_111 lf_X2_52 h44 rfl ?_
  refine ww_putX K dX2_copyRepublic_114 lp_X2_52 h6 (Nat.le_of_ble_eq_true rfl) rfl rfl (fun w19 hln_w19 h6 hne_w19 => ?_)
  have h6 : w19[6]? = some (cO 2 [eI (b1), eR (7), eR (8), eR (9), eR (10), eR (11), eR (12), eR (13), eI (b2), eI (b3), eI (b4), eI (b5), eI (a6), eI (a7)]) := h6
  have h7 := (hne_w19 7 (by decide)).trans h7
  have h8 := (hne_w19 8 (by decide)).trans h8
  have h9 := (hne_w19 9 (by decide)).trans h9
  have h10 := (hne_w19 10 (by decide)).trans h10
  have h11 := (hne_w19 11 (by decide)).trans h11
  have h12 := (hne_w19 12 (by decide)).trans h12
  have h13 := (hne_w19 13 (by decide)).trans h13
  have h44 := (hne_w19 44 (by decide)).trans h44
  have h45 := (hne_w19 45 (by decide)).trans h45
  have h46 := (hne_w19 46 (by decide)).trans h46
  have h47 := (hne_w19 47 (by decide)).trans h47
  have h48 := (hne_w19 48 (by decide)).trans h48
  have h49 := (hne_w19 49 (by decide)).trans h49
  have h50 := (hne_w19 50 (by decide)).trans h50
  have h51 := (hne_w19 51 (by decide)).trans h51
  have hS := hS.put (k := 6) (by decide) hne_w19
  refine ww_aload_n K dX2_copyRepublic_117 rfl ?_
  refine ww_aload_n K dX2_copyRepublic_118 rfl ?_
  refine ww_get K dX2_copyRepublic_119 lf_X2_55 h44 rfl ?_
  refine ww_putX K dX2_copyRepublic_122 lp_X2_55 h6 (Nat.le_of_ble_eq_true rfl) rfl rfl (fun w20 hln_w20 h6 hne_w20 => ?_)
  have h6 : w20[6]? = some (cO 2 [eI (b1), eR (7), eR (8), eR (9), eR (10), eR (11), eR (12), eR (13), eI (b2), eI (b3), eI (b4), eI (b5), eI (b6), eI (a7)]) := h6
  have h7 := (hne_w20 7 (by decide)).trans h7
  have h8 := (hne_w20 8 (by decide)).trans h8
  have h9 := (hne_w20 9 (by decide)).trans h9
  have h10 := (hne_w20 10 (by decide)).trans h10
  have h11 := (hne_w20 11 (by decide)).trans h11
  have h12 := (hne_w20 12 (by decide)).trans h12
  have h13 := (hne_w20 13 (by decide)).trans h13
  have h44 := (hne_w20 44 (by decide)).trans h44
  have h45 := (hne_w20 45 (by decide)).trans h45
  have h46 := (hne_w20 46 (by decide)).trans h46
  have h47 := (hne_w20 47 (by decide)).trans h47
  have h48 := (hne_w20 48 (by decide)).trans h48
  have h49 := (hne_w20 49 (by decide)).trans h49
  have h50 := (hne_w20 50 (by decide)).trans h50
  have h51 := (hne_w20 51 (by decide)).trans h51
  have hS := hS.put (k := 6) (by decide) hne_w20
  refine ww_aload_n K dX2_copyRepublic_125 rfl ?_
  refine ww_aload_n K dX2_copyRepublic_126 rfl ?_
  refine ww_get K dX2_copyRepublic_127 lf_X2_58 h44 rfl ?_
  refine ww_putX K dX2_copyRepublic_130 lp_X2_58 h6 (Nat.le_of_ble_eq_true rfl) rfl rfl (fun w21 hln_w21 h6 hne_w21 => ?_)
  have h6 : w21[6]? = some (cO 2 [eI (b1), eR (7), eR (8), eR (9), eR (10), eR (11), eR (12), eR (13), eI (b2), eI (b3), eI (b4), eI (b5), eI (b6), eI (b7)]) := h6
  have h7 := (hne_w21 7 (by decide)).trans h7
  have h8 := (hne_w21 8 (by decide)).trans h8
  have h9 := (hne_w21 9 (by decide)).trans h9
  have h10 := (hne_w21 10 (by decide)).trans h10
  have h11 := (hne_w21 11 (by decide)).trans h11
  have h12 := (hne_w21 12 (by decide)).trans h12
  have h13 := (hne_w21 13 (by decide)).trans h13
  have h44 := (hne_w21 44 (by decide)).trans h44
  have h45 := (hne_w21 45 (by decide)).trans h45
  have h46 := (hne_w21 46 (by decide)).trans h46
  have h47 := (hne_w21 47 (by decide)).trans h47
  have h48 := (hne_w21 48 (by decide)).trans h48
  have h49 := (hne_w21 49 (by decide)).trans h49
  have h50 := (hne_w21 50 (by decide)).trans h50
  have h51 := (hne_w21 51 (by decide)).trans h51
  have hS := hS.put (k := 6) (by decide) hne_w21
  exact ww_vret K dX2_copyRepublic_133 hr ⟨rfl, hS⟩
set_option maxRecDepth 100000 in
set_option maxHeartbeats 4000000 in
theorem ct_X3_copyRows_22_52 (G : EG) (l : Launch) {w : EW} {a1 b1 : Int32} {f1 g1 : Nat → Int32} (h22 : w[22]? = some (cO 3 [eI (a1), eR (23)])) (h23 : w[23]? = some (cI 0 200 f1)) (h52 : w[52]? = some (cO 3 [eI (b1), eR (53)])) (h53 : w[53]? = some (cI 0 200 g1)) : Ct G l yX3_copyRows cX3_copyRows 2 none 2 0 0 [eR (22), eR (52)] w (fun r w2 => r = none ∧ wc_same [22, 23] w w2) := by
  refine Ct_of (by decide +kernel) (Nat.le_of_ble_eq_true rfl) ?_
  intro p_ e_ s_ m_ a_ b_ t_ c_ K0 hr hin
  have K : wc_C p_ s_ m_ a_ t_ c_ G RX3 cX3_copyRows 2 w.length := K0
  clear K0
  refine WW_ls (ls2 := [some (eR (22)), some (eR (52))]) rfl ?_
  have hS : wc_same [22, 23] w w := wc_same.rf
  refine ww_aload_n K dX3_copyRows_0 rfl ?_
  refine ww_aload_n K dX3_copyRows_1 rfl ?_
  refine ww_get K dX3_copyRows_2 lf_X3_15 h52 rfl ?_
  refine ww_putX K dX3_copyRows_5 lp_X3_15 h22 (Nat.le_of_ble_eq_true rfl) rfl rfl (fun w1 hln_w1 h22 hne_w1 => ?_)
  have h22 : w1[22]? = some (cO 3 [eI (b1), eR (23)]) := h22
  have h23 := (hne_w1 23 (by decide)).trans h23
  have h52 := (hne_w1 52 (by decide)).trans h52
  have h53 := (hne_w1 53 (by decide)).trans h53
  have hS := hS.put (k := 22) (by decide) hne_w1
  refine ww_aload_n K dX3_copyRows_8 rfl ?_
  refine ww_get K dX3_copyRows_9 lf_X3_9 h52 rfl ?_
  refine ww_aload_n K dX3_copyRows_12 rfl ?_
  refine ww_get K dX3_copyRows_13 lf_X3_9 h22 rfl ?_
  refine ww_xSNv K dX3_copyRows_16 lc_X3_25 (ct_copy G l h53 h23 (by decide)) rfl ⟨Nat.le_of_ble_eq_true rfl, Nat.le_of_ble_eq_true rfl⟩ (Nat.le_of_ble_eq_true rfl) (fun w3 hq hln_w3 => ?_)
  obtain ⟨⟨F2, eF2, h23⟩, hsm⟩ := hq
  have h22 := hsm.keep h22 (by decide)
  have h52 := hsm.keep h52 (by decide)
  have h53 := hsm.keep h53 (by decide)
  have hS := hS.call hsm (by decide)
  exact ww_vret K dX3_copyRows_19 hr ⟨rfl, hS⟩
set_option maxRecDepth 100000 in
set_option maxHeartbeats 4000000 in
theorem ct_X3_copyRows_26_52 (G : EG) (l : Launch) {w : EW} {a1 b1 : Int32} {f1 g1 : Nat → Int32} (h26 : w[26]? = some (cO 3 [eI (a1), eR (27)])) (h27 : w[27]? = some (cI 0 200 f1)) (h52 : w[52]? = some (cO 3 [eI (b1), eR (53)])) (h53 : w[53]? = some (cI 0 200 g1)) : Ct G l yX3_copyRows cX3_copyRows 2 none 2 0 0 [eR (26), eR (52)] w (fun r w2 => r = none ∧ wc_same [26, 27] w w2) := by
  refine Ct_of (by decide +kernel) (Nat.le_of_ble_eq_true rfl) ?_
  intro p_ e_ s_ m_ a_ b_ t_ c_ K0 hr hin
  have K : wc_C p_ s_ m_ a_ t_ c_ G RX3 cX3_copyRows 2 w.length := K0
  clear K0
  refine WW_ls (ls2 := [some (eR (26)), some (eR (52))]) rfl ?_
  have hS : wc_same [26, 27] w w := wc_same.rf
  refine ww_aload_n K dX3_copyRows_0 rfl ?_
  refine ww_aload_n K dX3_copyRows_1 rfl ?_
  refine ww_get K dX3_copyRows_2 lf_X3_15 h52 rfl ?_
  refine ww_putX K dX3_copyRows_5 lp_X3_15 h26 (Nat.le_of_ble_eq_true rfl) rfl rfl (fun w1 hln_w1 h26 hne_w1 => ?_)
  have h26 : w1[26]? = some (cO 3 [eI (b1), eR (27)]) := h26
  have h27 := (hne_w1 27 (by decide)).trans h27
  have h52 := (hne_w1 52 (by decide)).trans h52
  have h53 := (hne_w1 53 (by decide)).trans h53
  have hS := hS.put (k := 26) (by decide) hne_w1
  refine ww_aload_n K dX3_copyRows_8 rfl ?_
  refine ww_get K dX3_copyRows_9 lf_X3_9 h52 rfl ?_
  refine ww_aload_n K dX3_copyRows_12 rfl ?_
  refine ww_get K dX3_copyRows_13 lf_X3_9 h26 rfl ?_
  refine ww_xSNv K dX3_copyRows_16 lc_X3_25 (ct_copy G l h53 h27 (by decide)) rfl ⟨Nat.le_of_ble_eq_true rfl, Nat.le_of_ble_eq_true rfl⟩ (Nat.le_of_ble_eq_true rfl) (fun w3 hq hln_w3 => ?_)
  obtain ⟨⟨F2, eF2, h27⟩, hsm⟩ := hq
  have h26 := hsm.keep h26 (by decide)
  have h52 := hsm.keep h52 (by decide)
  have h53 := hsm.keep h53 (by decide)
  have hS := hS.call hsm (by decide)
  exact ww_vret K dX3_copyRows_19 hr ⟨rfl, hS⟩
set_option maxRecDepth 100000 in
set_option maxHeartbeats 4000000 in
theorem ct_X3_copyRows_30_52 (G : EG) (l : Launch) {w : EW} {a1 b1 : Int32} {f1 g1 : Nat → Int32} (h30 : w[30]? = some (cO 3 [eI (a1), eR (31)])) (h31 : w[31]? = some (cI 0 200 f1)) (h52 : w[52]? = some (cO 3 [eI (b1), eR (53)])) (h53 : w[53]? = some (cI 0 200 g1)) : Ct G l yX3_copyRows cX3_copyRows 2 none 2 0 0 [eR (30), eR (52)] w (fun r w2 => r = none ∧ wc_same [30, 31] w w2) := by
  refine Ct_of (by decide +kernel) (Nat.le_of_ble_eq_true rfl) ?_
  intro p_ e_ s_ m_ a_ b_ t_ c_ K0 hr hin
  have K : wc_C p_ s_ m_ a_ t_ c_ G RX3 cX3_copyRows 2 w.length := K0
  clear K0
  refine WW_ls (ls2 := [some (eR (30)), some (eR (52))]) rfl ?_
  have hS : wc_same [30, 31] w w := wc_same.rf
  refine ww_aload_n K dX3_copyRows_0 rfl ?_
  refine ww_aload_n K dX3_copyRows_1 rfl ?_
  refine ww_get K dX3_copyRows_2 lf_X3_15 h52 rfl ?_
  refine ww_putX K dX3_copyRows_5 lp_X3_15 h30 (Nat.le_of_ble_eq_true rfl) rfl rfl (fun w1 hln_w1 h30 hne_w1 => ?_)
  have h30 : w1[30]? = some (cO 3 [eI (b1), eR (31)]) := h30
  have h31 := (hne_w1 31 (by decide)).trans h31
  have h52 := (hne_w1 52 (by decide)).trans h52
  have h53 := (hne_w1 53 (by decide)).trans h53
  have hS := hS.put (k := 30) (by decide) hne_w1
  refine ww_aload_n K dX3_copyRows_8 rfl ?_
  refine ww_get K dX3_copyRows_9 lf_X3_9 h52 rfl ?_
  refine ww_aload_n K dX3_copyRows_12 rfl ?_
  refine ww_get K dX3_copyRows_13 lf_X3_9 h30 rfl ?_
  refine ww_xSNv K dX3_copyRows_16 lc_X3_25 (ct_copy G l h53 h31 (by decide)) rfl ⟨Nat.le_of_ble_eq_true rfl, Nat.le_of_ble_eq_true rfl⟩ (Nat.le_of_ble_eq_true rfl) (fun w3 hq hln_w3 => ?_)
  obtain ⟨⟨F2, eF2, h31⟩, hsm⟩ := hq
  have h30 := hsm.keep h30 (by decide)
  have h52 := hsm.keep h52 (by decide)
  have h53 := hsm.keep h53 (by decide)
  have hS := hS.call hsm (by decide)
  exact ww_vret K dX3_copyRows_19 hr ⟨rfl, hS⟩
set_option maxRecDepth 100000 in
set_option maxHeartbeats 4000000 in
theorem ct_X3_copyRows_34_52 (G : EG) (l : Launch) {w : EW} {a1 b1 : Int32} {f1 g1 : Nat → Int32} (h34 : w[34]? = some (cO 3 [eI (a1), eR (35)])) (h35 : w[35]? = some (cI 0 200 f1)) (h52 : w[52]? = some (cO 3 [eI (b1), eR (53)])) (h53 : w[53]? = some (cI 0 200 g1)) : Ct G l yX3_copyRows cX3_copyRows 2 none 2 0 0 [eR (34), eR (52)] w (fun r w2 => r = none ∧ wc_same [34, 35] w w2) := by
  refine Ct_of (by decide +kernel) (Nat.le_of_ble_eq_true rfl) ?_
  intro p_ e_ s_ m_ a_ b_ t_ c_ K0 hr hin
  have K : wc_C p_ s_ m_ a_ t_ c_ G RX3 cX3_copyRows 2 w.length := K0
  clear K0
  refine WW_ls (ls2 := [some (eR (34)), some (eR (52))]) rfl ?_
  have hS : wc_same [34, 35] w w := wc_same.rf
  refine ww_aload_n K dX3_copyRows_0 rfl ?_
  refine ww_aload_n K dX3_copyRows_1 rfl ?_
  refine ww_get K dX3_copyRows_2 lf_X3_15 h52 rfl ?_
  refine ww_putX K dX3_copyRows_5 lp_X3_15 h34 (Nat.le_of_ble_eq_true rfl) rfl rfl (fun w1 hln_w1 h34 hne_w1 => ?_)
  have h34 : w1[34]? = some (cO 3 [eI (b1), eR (35)]) := h34
  have h35 := (hne_w1 35 (by decide)).trans h35
  have h52 := (hne_w1 52 (by decide)).trans h52
  have h53 := (hne_w1 53 (by decide)).trans h53
  have hS := hS.put (k := 34) (by decide) hne_w1
  refine ww_aload_n K dX3_copyRows_8 rfl ?_
  refine ww_get K dX3_copyRows_9 lf_X3_9 h52 rfl ?_
  refine ww_aload_n K dX3_copyRows_12 rfl ?_
  refine ww_get K dX3_copyRows_13 lf_X3_9 h34 rfl ?_
  refine ww_xSNv K dX3_copyRows_16 lc_X3_25 (ct_copy G l h53 h35 (by decide)) rfl ⟨Nat.le_of_ble_eq_true rfl, Nat.le_of_ble_eq_true rfl⟩ (Nat.le_of_ble_eq_true rfl) (fun w3 hq hln_w3 => ?_)
  obtain ⟨⟨F2, eF2, h35⟩, hsm⟩ := hq
  have h34 := hsm.keep h34 (by decide)
  have h52 := hsm.keep h52 (by decide)
  have h53 := hsm.keep h53 (by decide)
  have hS := hS.call hsm (by decide)
  exact ww_vret K dX3_copyRows_19 hr ⟨rfl, hS⟩
set_option maxRecDepth 100000 in
set_option maxHeartbeats 4000000 in
theorem ct_X3_copyRows_38_52 (G : EG) (l : Launch) {w : EW} {a1 b1 : Int32} {f1 g1 : Nat → Int32} (h38 : w[38]? = some (cO 3 [eI (a1), eR (39)])) (h39 : w[39]? = some (cI 0 200 f1)) (h52 : w[52]? = some (cO 3 [eI (b1), eR (53)])) (h53 : w[53]? = some (cI 0 200 g1)) : Ct G l yX3_copyRows cX3_copyRows 2 none 2 0 0 [eR (38), eR (52)] w (fun r w2 => r = none ∧ wc_same [38, 39] w w2) := by
  refine Ct_of (by decide +kernel) (Nat.le_of_ble_eq_true rfl) ?_
  intro p_ e_ s_ m_ a_ b_ t_ c_ K0 hr hin
  have K : wc_C p_ s_ m_ a_ t_ c_ G RX3 cX3_copyRows 2 w.length := K0
  clear K0
  refine WW_ls (ls2 := [some (eR (38)), some (eR (52))]) rfl ?_
  have hS : wc_same [38, 39] w w := wc_same.rf
  refine ww_aload_n K dX3_copyRows_0 rfl ?_
  refine ww_aload_n K dX3_copyRows_1 rfl ?_
  refine ww_get K dX3_copyRows_2 lf_X3_15 h52 rfl ?_
  refine ww_putX K dX3_copyRows_5 lp_X3_15 h38 (Nat.le_of_ble_eq_true rfl) rfl rfl (fun w1 hln_w1 h38 hne_w1 => ?_)
  have h38 : w1[38]? = some (cO 3 [eI (b1), eR (39)]) := h38
  have h39 := (hne_w1 39 (by decide)).trans h39
  have h52 := (hne_w1 52 (by decide)).trans h52
  have h53 := (hne_w1 53 (by decide)).trans h53
  have hS := hS.put (k := 38) (by decide) hne_w1
  refine ww_aload_n K dX3_copyRows_8 rfl ?_
  refine ww_get K dX3_copyRows_9 lf_X3_9 h52 rfl ?_
  refine ww_aload_n K dX3_copyRows_12 rfl ?_
  refine ww_get K dX3_copyRows_13 lf_X3_9 h38 rfl ?_
  refine ww_xSNv K dX3_copyRows_16 lc_X3_25 (ct_copy G l h53 h39 (by decide)) rfl ⟨Nat.le_of_ble_eq_true rfl, Nat.le_of_ble_eq_true rfl⟩ (Nat.le_of_ble_eq_true rfl) (fun w3 hq hln_w3 => ?_)
  obtain ⟨⟨F2, eF2, h39⟩, hsm⟩ := hq
  have h38 := hsm.keep h38 (by decide)
  have h52 := hsm.keep h52 (by decide)
  have h53 := hsm.keep h53 (by decide)
  have hS := hS.call hsm (by decide)
  exact ww_vret K dX3_copyRows_19 hr ⟨rfl, hS⟩
set_option maxRecDepth 100000 in
set_option maxHeartbeats 4000000 in
theorem ct_X2_clear_44 (G : EG) (l : Launch) {w : EW} {a1 a2 a3 a4 a5 a6 a7 : Int32} {f1 f2 f3 f4 f5 f6 f7 : Nat → Int32} (h44 : w[44]? = some (cO 2 [eI (a1), eR (45), eR (46), eR (47), eR (48), eR (49), eR (50), eR (51), eI (a2), eI (a3), eI (a4), eI (a5), eI (a6), eI (a7)])) (h45 : w[45]? = some (cI 0 6 f1)) (h46 : w[46]? = some (cI 0 6 f2)) (h47 : w[47]? = some (cI 0 6 f3)) (h48 : w[48]? = some (cI 0 6 f4)) (h49 : w[49]? = some (cI 0 72 f5)) (h50 : w[50]? = some (cI 0 6 f6)) (h51 : w[51]? = some (cI 0 3 f7)) : Ct G l yX2_clear cX2_clear 1 none 1 0 0 [eR (44)] w (fun r w2 => r = none ∧ (w2[44]? = some (cO 2 [eI (0), eR (45), eR (46), eR (47), eR (48), eR (49), eR (50), eR (51), eI (0), eI (10), eI (2), eI (50), eI (50), eI (20)]) ∧ (∃ F : Nat → Int32, w2[49]? = some (cI 0 72 F)) ∧ (∃ F : Nat → Int32, w2[50]? = some (cI 0 6 F)) ∧ (∃ F : Nat → Int32, w2[51]? = some (cI 0 3 F)) ∧ wc_same [44, 49, 50, 51] w w2)) := by
  refine Ct_of (by decide +kernel) (Nat.le_of_ble_eq_true rfl) ?_
  intro p_ e_ s_ m_ a_ b_ t_ c_ K0 hr hin
  have K : wc_C p_ s_ m_ a_ t_ c_ G RX2 cX2_clear 1 w.length := K0
  clear K0
  refine WW_ls (ls2 := [some (eR (44))]) rfl ?_
  have hS : wc_same [44, 49, 50, 51] w w := wc_same.rf
  refine ww_aload_n K dX2_clear_0 rfl ?_
  refine ww_iconst (v := 0) K dX2_clear_1 rfl ?_
  refine ww_putX K dX2_clear_2 lp_X2_33 h44 (Nat.le_of_ble_eq_true rfl) rfl rfl (fun w1 hln_w1 h44 hne_w1 => ?_)
  have h44 : w1[44]? = some (cO 2 [eI (0), eR (45), eR (46), eR (47), eR (48), eR (49), eR (50), eR (51), eI (a2), eI (a3), eI (a4), eI (a5), eI (a6), eI (a7)]) := h44
  have h45 := (hne_w1 45 (by decide)).trans h45
  have h46 := (hne_w1 46 (by decide)).trans h46
  have h47 := (hne_w1 47 (by decide)).trans h47
  have h48 := (hne_w1 48 (by decide)).trans h48
  have h49 := (hne_w1 49 (by decide)).trans h49
  have h50 := (hne_w1 50 (by decide)).trans h50
  have h51 := (hne_w1 51 (by decide)).trans h51
  have hS := hS.put (k := 44) (by decide) hne_w1
  refine ww_aload_n K dX2_clear_5 rfl ?_
  refine ww_get K dX2_clear_6 lf_X2_24 h44 rfl ?_
  refine ww_iconst (v := 0) K dX2_clear_9 rfl ?_
  refine ww_xSv K dX2_clear_10 lc_X2_37 (ct_fill G l h49 (v := 0) (by decide)) rfl ⟨Nat.le_of_ble_eq_true rfl, Nat.le_of_ble_eq_true rfl⟩ (Nat.le_of_ble_eq_true rfl) (fun w3 hq hln_w3 => ?_)
  obtain ⟨⟨F2, eF2, h49⟩, hsm⟩ := hq
  have h44 := hsm.keep h44 (by decide)
  have h45 := hsm.keep h45 (by decide)
  have h46 := hsm.keep h46 (by decide)
  have h47 := hsm.keep h47 (by decide)
  have h48 := hsm.keep h48 (by decide)
  have h50 := hsm.keep h50 (by decide)
  have h51 := hsm.keep h51 (by decide)
  have hS := hS.call hsm (by decide)
  refine ww_aload_n K dX2_clear_13 rfl ?_
  refine ww_get K dX2_clear_14 lf_X2_27 h44 rfl ?_
  refine ww_iconst (v := 0) K dX2_clear_17 rfl ?_
  refine ww_xSv K dX2_clear_18 lc_X2_37 (ct_fill G l h50 (v := 0) (by decide)) rfl ⟨Nat.le_of_ble_eq_true rfl, Nat.le_of_ble_eq_true rfl⟩ (Nat.le_of_ble_eq_true rfl) (fun w5 hq hln_w5 => ?_)
  obtain ⟨⟨F4, eF4, h50⟩, hsm⟩ := hq
  have h44 := hsm.keep h44 (by decide)
  have h45 := hsm.keep h45 (by decide)
  have h46 := hsm.keep h46 (by decide)
  have h47 := hsm.keep h47 (by decide)
  have h48 := hsm.keep h48 (by decide)
  have h49 := hsm.keep h49 (by decide)
  have h51 := hsm.keep h51 (by decide)
  have hS := hS.call hsm (by decide)
  refine ww_aload_n K dX2_clear_21 rfl ?_
  refine ww_get K dX2_clear_22 lf_X2_30 h44 rfl ?_
  refine ww_iconst (v := 0) K dX2_clear_25 rfl ?_
  refine ww_xSv K dX2_clear_26 lc_X2_37 (ct_fill G l h51 (v := 0) (by decide)) rfl ⟨Nat.le_of_ble_eq_true rfl, Nat.le_of_ble_eq_true rfl⟩ (Nat.le_of_ble_eq_true rfl) (fun w7 hq hln_w7 => ?_)
  obtain ⟨⟨F6, eF6, h51⟩, hsm⟩ := hq
  have h44 := hsm.keep h44 (by decide)
  have h45 := hsm.keep h45 (by decide)
  have h46 := hsm.keep h46 (by decide)
  have h47 := hsm.keep h47 (by decide)
  have h48 := hsm.keep h48 (by decide)
  have h49 := hsm.keep h49 (by decide)
  have h50 := hsm.keep h50 (by decide)
  have hS := hS.call hsm (by decide)
  refine ww_aload_n K dX2_clear_29 rfl ?_
  refine ww_iconst (v := 0) K dX2_clear_30 rfl ?_
  refine ww_putX K dX2_clear_31 lp_X2_43 h44 (Nat.le_of_ble_eq_true rfl) rfl rfl (fun w8 hln_w8 h44 hne_w8 => ?_)
  have h44 : w8[44]? = some (cO 2 [eI (0), eR (45), eR (46), eR (47), eR (48), eR (49), eR (50), eR (51), eI (0), eI (a3), eI (a4), eI (a5), eI (a6), eI (a7)]) := h44
  have h45 := (hne_w8 45 (by decide)).trans h45
  have h46 := (hne_w8 46 (by decide)).trans h46
  have h47 := (hne_w8 47 (by decide)).trans h47
  have h48 := (hne_w8 48 (by decide)).trans h48
  have h49 := (hne_w8 49 (by decide)).trans h49
  have h50 := (hne_w8 50 (by decide)).trans h50
  have h51 := (hne_w8 51 (by decide)).trans h51
  have hS := hS.put (k := 44) (by decide) hne_w8
  refine ww_aload_n K dX2_clear_34 rfl ?_
  refine ww_bipush (v := 10) K dX2_clear_35 rfl ?_
  refine ww_putX K dX2_clear_37 lp_X2_46 h44 (Nat.le_of_ble_eq_true rfl) rfl rfl (fun w9 hln_w9 h44 hne_w9 => ?_)
  have h44 : w9[44]? = some (cO 2 [eI (0), eR (45), eR (46), eR (47), eR (48), eR (49), eR (50), eR (51), eI (0), eI (10), eI (a4), eI (a5), eI (a6), eI (a7)]) := h44
  have h45 := (hne_w9 45 (by decide)).trans h45
  have h46 := (hne_w9 46 (by decide)).trans h46
  have h47 := (hne_w9 47 (by decide)).trans h47
  have h48 := (hne_w9 48 (by decide)).trans h48
  have h49 := (hne_w9 49 (by decide)).trans h49
  have h50 := (hne_w9 50 (by decide)).trans h50
  have h51 := (hne_w9 51 (by decide)).trans h51
  have hS := hS.put (k := 44) (by decide) hne_w9
  refine ww_aload_n K dX2_clear_40 rfl ?_
  refine ww_iconst (v := 2) K dX2_clear_41 rfl ?_
  refine ww_putX K dX2_clear_42 lp_X2_49 h44 (Nat.le_of_ble_eq_true rfl) rfl rfl (fun w10 hln_w10 h44 hne_w10 => ?_)
  have h44 : w10[44]? = some (cO 2 [eI (0), eR (45), eR (46), eR (47), eR (48), eR (49), eR (50), eR (51), eI (0), eI (10), eI (2), eI (a5), eI (a6), eI (a7)]) := h44
  have h45 := (hne_w10 45 (by decide)).trans h45
  have h46 := (hne_w10 46 (by decide)).trans h46
  have h47 := (hne_w10 47 (by decide)).trans h47
  have h48 := (hne_w10 48 (by decide)).trans h48
  have h49 := (hne_w10 49 (by decide)).trans h49
  have h50 := (hne_w10 50 (by decide)).trans h50
  have h51 := (hne_w10 51 (by decide)).trans h51
  have hS := hS.put (k := 44) (by decide) hne_w10
  refine ww_aload_n K dX2_clear_45 rfl ?_
  refine ww_bipush (v := 50) K dX2_clear_46 rfl ?_
  refine ww_putX K dX2_clear_48 lp_X2_52 h44 (Nat.le_of_ble_eq_true rfl) rfl rfl (fun w11 hln_w11 h44 hne_w11 => ?_)
  have h44 : w11[44]? = some (cO 2 [eI (0), eR (45), eR (46), eR (47), eR (48), eR (49), eR (50), eR (51), eI (0), eI (10), eI (2), eI (50), eI (a6), eI (a7)]) := h44
  have h45 := (hne_w11 45 (by decide)).trans h45
  have h46 := (hne_w11 46 (by decide)).trans h46
  have h47 := (hne_w11 47 (by decide)).trans h47
  have h48 := (hne_w11 48 (by decide)).trans h48
  have h49 := (hne_w11 49 (by decide)).trans h49
  have h50 := (hne_w11 50 (by decide)).trans h50
  have h51 := (hne_w11 51 (by decide)).trans h51
  have hS := hS.put (k := 44) (by decide) hne_w11
  refine ww_aload_n K dX2_clear_51 rfl ?_
  refine ww_bipush (v := 50) K dX2_clear_52 rfl ?_
  refine ww_putX K dX2_clear_54 lp_X2_55 h44 (Nat.le_of_ble_eq_true rfl) rfl rfl (fun w12 hln_w12 h44 hne_w12 => ?_)
  have h44 : w12[44]? = some (cO 2 [eI (0), eR (45), eR (46), eR (47), eR (48), eR (49), eR (50), eR (51), eI (0), eI (10), eI (2), eI (50), eI (50), eI (a7)]) := h44
  have h45 := (hne_w12 45 (by decide)).trans h45
  have h46 := (hne_w12 46 (by decide)).trans h46
  have h47 := (hne_w12 47 (by decide)).trans h47
  have h48 := (hne_w12 48 (by decide)).trans h48
  have h49 := (hne_w12 49 (by decide)).trans h49
  have h50 := (hne_w12 50 (by decide)).trans h50
  have h51 := (hne_w12 51 (by decide)).trans h51
  have hS := hS.put (k := 44) (by decide) hne_w12
  refine ww_aload_n K dX2_clear_57 rfl ?_
  refine ww_bipush (v := 20) K dX2_clear_58 rfl ?_
  refine ww_putX K dX2_clear_60 lp_X2_58 h44 (Nat.le_of_ble_eq_true rfl) rfl rfl (fun w13 hln_w13 h44 hne_w13 => ?_)
  have h44 : w13[44]? = some (cO 2 [eI (0), eR (45), eR (46), eR (47), eR (48), eR (49), eR (50), eR (51), eI (0), eI (10), eI (2), eI (50), eI (50), eI (20)]) := h44
  have h45 := (hne_w13 45 (by decide)).trans h45
  have h46 := (hne_w13 46 (by decide)).trans h46
  have h47 := (hne_w13 47 (by decide)).trans h47
  have h48 := (hne_w13 48 (by decide)).trans h48
  have h49 := (hne_w13 49 (by decide)).trans h49
  have h50 := (hne_w13 50 (by decide)).trans h50
  have h51 := (hne_w13 51 (by decide)).trans h51
  have hS := hS.put (k := 44) (by decide) hne_w13
  exact ww_vret K dX2_clear_63 hr ⟨rfl, ⟨h44, ⟨_, h49⟩, ⟨_, h50⟩, ⟨_, h51⟩, hS⟩⟩
set_option maxRecDepth 100000 in
set_option maxHeartbeats 4000000 in
theorem ct_X3_clear_52 (G : EG) (l : Launch) {w : EW} {a1 : Int32} {f1 : Nat → Int32} (h52 : w[52]? = some (cO 3 [eI (a1), eR (53)])) (h53 : w[53]? = some (cI 0 200 f1)) : Ct G l yX3_clear cX3_clear 1 none 1 0 0 [eR (52)] w (fun r w2 => r = none ∧ (w2[52]? = some (cO 3 [eI (0), eR (53)]) ∧ (∃ F : Nat → Int32, w2[53]? = some (cI 0 200 F)) ∧ wc_same [52, 53] w w2)) := by
  refine Ct_of (by decide +kernel) (Nat.le_of_ble_eq_true rfl) ?_
  intro p_ e_ s_ m_ a_ b_ t_ c_ K0 hr hin
  have K : wc_C p_ s_ m_ a_ t_ c_ G RX3 cX3_clear 1 w.length := K0
  clear K0
  refine WW_ls (ls2 := [some (eR (52))]) rfl ?_
  have hS : wc_same [52, 53] w w := wc_same.rf
  refine ww_aload_n K dX3_clear_0 rfl ?_
  refine ww_iconst (v := 0) K dX3_clear_1 rfl ?_
  refine ww_putX K dX3_clear_2 lp_X3_15 h52 (Nat.le_of_ble_eq_true rfl) rfl rfl (fun w1 hln_w1 h52 hne_w1 => ?_)
  have h52 : w1[52]? = some (cO 3 [eI (0), eR (53)]) := h52
  have h53 := (hne_w1 53 (by decide)).trans h53
  have hS := hS.put (k := 52) (by decide) hne_w1
  refine ww_aload_n K dX3_clear_5 rfl ?_
  refine ww_get K dX3_clear_6 lf_X3_9 h52 rfl ?_
  refine ww_iconst (v := 0) K dX3_clear_9 rfl ?_
  refine ww_xSv K dX3_clear_10 lc_X3_19 (ct_fill G l h53 (v := 0) (by decide)) rfl ⟨Nat.le_of_ble_eq_true rfl, Nat.le_of_ble_eq_true rfl⟩ (Nat.le_of_ble_eq_true rfl) (fun w3 hq hln_w3 => ?_)
  obtain ⟨⟨F2, eF2, h53⟩, hsm⟩ := hq
  have h52 := hsm.keep h52 (by decide)
  have hS := hS.call hsm (by decide)
  exact ww_vret K dX3_clear_13 hr ⟨rfl, ⟨h52, ⟨_, h53⟩, hS⟩⟩
set_option maxRecDepth 100000 in
set_option maxHeartbeats 4000000 in
theorem ct_X1_advance_0 (G : EG) (l : Launch) {w : EW} {x4 x5 : Int32} (h43 : w[43]? = some (cO 1 [eR (44), eR (52), eI (0), eI ((-1)), eR (54), eR (55), eI (0), eI (x4), eI (x5), eI (0), eI (0), eI (0)])) : Ct G l yX1_advance cX1_advance 1 none 1 0 0 [eR (43)] w (fun r w2 => r = none ∧ (w2[43]? = some (cO 1 [eR (44), eR (52), eI (0), eI ((-1)), eR (54), eR (55), eI (0), eI (0), eI (0), eI (0), eI (0), eI (0)]) ∧ wc_same [43] w w2)) := by
  refine Ct_of (by decide +kernel) (Nat.le_of_ble_eq_true rfl) ?_
  intro p_ e_ s_ m_ a_ b_ t_ c_ K0 hr hin
  have K : wc_C p_ s_ m_ a_ t_ c_ G RX1 cX1_advance 1 w.length := K0
  clear K0
  refine WW_ls (ls2 := [some (eR (43))]) rfl ?_
  have hS : wc_same [43] w w := wc_same.rf
  refine ww_aload_n K dX1_advance_0 rfl ?_
  refine ww_aload_n K dX1_advance_1 rfl ?_
  refine ww_get K dX1_advance_2 lf_X1_71 h43 rfl ?_
  refine ww_putX K dX1_advance_5 lp_X1_80 h43 (Nat.le_of_ble_eq_true rfl) rfl rfl (fun w1 hln_w1 h43 hne_w1 => ?_)
  have h43 : w1[43]? = some (cO 1 [eR (44), eR (52), eI (0), eI ((-1)), eR (54), eR (55), eI (0), eI (x4), eI (0), eI (0), eI (0), eI (0)]) := h43
  have hS := hS.put (k := 43) (by decide) hne_w1
  refine ww_aload_n K dX1_advance_8 rfl ?_
  refine ww_get K dX1_advance_9 lf_X1_80 h43 rfl ?_
  refine ww_aload_n K dX1_advance_12 rfl ?_
  refine ww_get K dX1_advance_13 lf_X1_54 h43 rfl ?_
  refine ww_icmp_ge (tgt := 49) K dX1_advance_16 rfl (fun _ => ?_) (fun cc_ => absurd cc_ (by decide))
  refine ww_aload_n K dX1_advance_49 rfl ?_
  refine ww_aload_n K dX1_advance_50 rfl ?_
  refine ww_get K dX1_advance_51 lf_X1_80 h43 rfl ?_
  refine ww_putX K dX1_advance_54 lp_X1_71 h43 (Nat.le_of_ble_eq_true rfl) rfl rfl (fun w2 hln_w2 h43 hne_w2 => ?_)
  have h43 : w2[43]? = some (cO 1 [eR (44), eR (52), eI (0), eI ((-1)), eR (54), eR (55), eI (0), eI (x4), eI (0), eI (0), eI (0), eI (0)]) := h43
  have hS := hS.put (k := 43) (by decide) hne_w2
  refine ww_aload_n K dX1_advance_57 rfl ?_
  refine ww_get K dX1_advance_58 lf_X1_80 h43 rfl ?_
  refine ww_aload_n K dX1_advance_61 rfl ?_
  refine ww_get K dX1_advance_62 lf_X1_54 h43 rfl ?_
  refine ww_icmp_lt (tgt := 76) K dX1_advance_65 rfl (fun cc_ => absurd cc_ (by decide)) (fun _ => ?_)
  refine ww_aload_n K dX1_advance_68 rfl ?_
  refine ww_iconst (v := 0) K dX1_advance_69 rfl ?_
  refine ww_putX K dX1_advance_70 lp_X1_40 h43 (Nat.le_of_ble_eq_true rfl) rfl rfl (fun w3 hln_w3 h43 hne_w3 => ?_)
  have h43 : w3[43]? = some (cO 1 [eR (44), eR (52), eI (0), eI ((-1)), eR (54), eR (55), eI (0), eI (0), eI (0), eI (0), eI (0), eI (0)]) := h43
  have hS := hS.put (k := 43) (by decide) hne_w3
  refine ww_goto (tgt := 257) K dX1_advance_73 rfl ?_
  exact ww_vret K dX1_advance_257 hr ⟨rfl, ⟨h43, hS⟩⟩
set_option maxRecDepth 100000 in
set_option maxHeartbeats 4000000 in
theorem ct_X1_startOn_0 (G : EG) (l : Launch) {w : EW} {x1 x2 x3 x4 x5 x6 x7 x8 r1 : Int32} {q1 : Nat → Int32} {a1 a2 a3 a4 a5 a6 a7 : Int32} {f1 f2 f3 f4 f5 f6 f7 : Nat → Int32} (h43 : w[43]? = some (cO 1 [eR (44), eR (52), eI (x1), eI (x2), eR (54), eR (55), eI (x3), eI (x4), eI (x5), eI (x6), eI (x7), eI (x8)])) (h44 : w[44]? = some (cO 2 [eI (a1), eR (45), eR (46), eR (47), eR (48), eR (49), eR (50), eR (51), eI (a2), eI (a3), eI (a4), eI (a5), eI (a6), eI (a7)])) (h45 : w[45]? = some (cI 0 6 f1)) (h46 : w[46]? = some (cI 0 6 f2)) (h47 : w[47]? = some (cI 0 6 f3)) (h48 : w[48]? = some (cI 0 6 f4)) (h49 : w[49]? = some (cI 0 72 f5)) (h50 : w[50]? = some (cI 0 6 f6)) (h51 : w[51]? = some (cI 0 3 f7)) (h52 : w[52]? = some (cO 3 [eI (r1), eR (53)])) (h53 : w[53]? = some (cI 0 200 q1)) : Ct G l yX1_startOn cX1_startOn 2 none 2 0 0 [eR (43), eI (0)] w (fun r w2 => r = none ∧ (w2[43]? = some (cO 1 [eR (44), eR (52), eI (0), eI ((-1)), eR (54), eR (55), eI (0), eI (0), eI (0), eI (0), eI (0), eI (0)]) ∧ w2[44]? = some (cO 2 [eI (0), eR (45), eR (46), eR (47), eR (48), eR (49), eR (50), eR (51), eI (0), eI (10), eI (2), eI (50), eI (50), eI (20)]) ∧ w2[52]? = some (cO 3 [eI (0), eR (53)]) ∧ (∃ F : Nat → Int32, w2[49]? = some (cI 0 72 F)) ∧ (∃ F : Nat → Int32, w2[50]? = some (cI 0 6 F)) ∧ (∃ F : Nat → Int32, w2[51]? = some (cI 0 3 F)) ∧ (∃ F : Nat → Int32, w2[53]? = some (cI 0 200 F)) ∧ wc_same [43, 44, 49, 50, 51, 52, 53] w w2)) := by
  refine Ct_of (by decide +kernel) (Nat.le_of_ble_eq_true rfl) ?_
  intro p_ e_ s_ m_ a_ b_ t_ c_ K0 hr hin
  have K : wc_C p_ s_ m_ a_ t_ c_ G RX1 cX1_startOn 2 w.length := K0
  clear K0
  refine WW_ls (ls2 := [some (eR (43)), some (eI (0))]) rfl ?_
  have hS : wc_same [43, 44, 49, 50, 51, 52, 53] w w := wc_same.rf
  refine ww_aload_n K dX1_startOn_0 rfl ?_
  refine ww_get K dX1_startOn_1 lf_X1_12 h43 rfl ?_
  refine ww_xVv K dX1_startOn_4 lc_X1_61 h44 ⟨_, rfl, rfl⟩ (ct_X2_clear_44 G l h44 h45 h46 h47 h48 h49 h50 h51) rfl ⟨Nat.le_of_ble_eq_true rfl, Nat.le_of_ble_eq_true rfl⟩ (Nat.le_of_ble_eq_true rfl) (fun w4 hq hln_w4 => ?_)
  obtain ⟨h44, ⟨F1, h49⟩, ⟨F2, h50⟩, ⟨F3, h51⟩, hsm⟩ := hq
  have h43 := hsm.keep h43 (by decide)
  have h45 := hsm.keep h45 (by decide)
  have h46 := hsm.keep h46 (by decide)
  have h47 := hsm.keep h47 (by decide)
  have h48 := hsm.keep h48 (by decide)
  have h52 := hsm.keep h52 (by decide)
  have h53 := hsm.keep h53 (by decide)
  have hS := hS.call hsm (by decide)
  refine ww_aload_n K dX1_startOn_7 rfl ?_
  refine ww_get K dX1_startOn_8 lf_X1_21 h43 rfl ?_
  refine ww_xVv K dX1_startOn_11 lc_X1_64 h52 ⟨_, rfl, rfl⟩ (ct_X3_clear_52 G l h52 h53) rfl ⟨Nat.le_of_ble_eq_true rfl, Nat.le_of_ble_eq_true rfl⟩ (Nat.le_of_ble_eq_true rfl) (fun w6 hq hln_w6 => ?_)
  obtain ⟨h52, ⟨F5, h53⟩, hsm⟩ := hq
  have h43 := hsm.keep h43 (by decide)
  have h44 := hsm.keep h44 (by decide)
  have h45 := hsm.keep h45 (by decide)
  have h46 := hsm.keep h46 (by decide)
  have h47 := hsm.keep h47 (by decide)
  have h48 := hsm.keep h48 (by decide)
  have h49 := hsm.keep h49 (by decide)
  have h50 := hsm.keep h50 (by decide)
  have h51 := hsm.keep h51 (by decide)
  have hS := hS.call hsm (by decide)
  refine ww_aload_n K dX1_startOn_14 rfl ?_
  refine ww_iconst (v := 0) K dX1_startOn_15 rfl ?_
  refine ww_putX K dX1_startOn_16 lp_X1_65 h43 (Nat.le_of_ble_eq_true rfl) rfl rfl (fun w7 hln_w7 h43 hne_w7 => ?_)
  have h43 : w7[43]? = some (cO 1 [eR (44), eR (52), eI (0), eI (x2), eR (54), eR (55), eI (x3), eI (x4), eI (x5), eI (x6), eI (x7), eI (x8)]) := h43
  have h44 := (hne_w7 44 (by decide)).trans h44
  have h45 := (hne_w7 45 (by decide)).trans h45
  have h46 := (hne_w7 46 (by decide)).trans h46
  have h47 := (hne_w7 47 (by decide)).trans h47
  have h48 := (hne_w7 48 (by decide)).trans h48
  have h49 := (hne_w7 49 (by decide)).trans h49
  have h50 := (hne_w7 50 (by decide)).trans h50
  have h51 := (hne_w7 51 (by decide)).trans h51
  have h52 := (hne_w7 52 (by decide)).trans h52
  have h53 := (hne_w7 53 (by decide)).trans h53
  have hS := hS.put (k := 43) (by decide) hne_w7
  refine ww_aload_n K dX1_startOn_19 rfl ?_
  refine ww_iconst (v := (-1)) K dX1_startOn_20 rfl ?_
  refine ww_putX K dX1_startOn_21 lp_X1_68 h43 (Nat.le_of_ble_eq_true rfl) rfl rfl (fun w8 hln_w8 h43 hne_w8 => ?_)
  have h43 : w8[43]? = some (cO 1 [eR (44), eR (52), eI (0), eI ((-1)), eR (54), eR (55), eI (x3), eI (x4), eI (x5), eI (x6), eI (x7), eI (x8)]) := h43
  have h44 := (hne_w8 44 (by decide)).trans h44
  have h45 := (hne_w8 45 (by decide)).trans h45
  have h46 := (hne_w8 46 (by decide)).trans h46
  have h47 := (hne_w8 47 (by decide)).trans h47
  have h48 := (hne_w8 48 (by decide)).trans h48
  have h49 := (hne_w8 49 (by decide)).trans h49
  have h50 := (hne_w8 50 (by decide)).trans h50
  have h51 := (hne_w8 51 (by decide)).trans h51
  have h52 := (hne_w8 52 (by decide)).trans h52
  have h53 := (hne_w8 53 (by decide)).trans h53
  have hS := hS.put (k := 43) (by decide) hne_w8
  refine ww_aload_n K dX1_startOn_24 rfl ?_
  refine ww_iload_n K dX1_startOn_25 rfl ?_
  refine ww_putX K dX1_startOn_26 lp_X1_54 h43 (Nat.le_of_ble_eq_true rfl) rfl rfl (fun w9 hln_w9 h43 hne_w9 => ?_)
  have h43 : w9[43]? = some (cO 1 [eR (44), eR (52), eI (0), eI ((-1)), eR (54), eR (55), eI (0), eI (x4), eI (x5), eI (x6), eI (x7), eI (x8)]) := h43
  have h44 := (hne_w9 44 (by decide)).trans h44
  have h45 := (hne_w9 45 (by decide)).trans h45
  have h46 := (hne_w9 46 (by decide)).trans h46
  have h47 := (hne_w9 47 (by decide)).trans h47
  have h48 := (hne_w9 48 (by decide)).trans h48
  have h49 := (hne_w9 49 (by decide)).trans h49
  have h50 := (hne_w9 50 (by decide)).trans h50
  have h51 := (hne_w9 51 (by decide)).trans h51
  have h52 := (hne_w9 52 (by decide)).trans h52
  have h53 := (hne_w9 53 (by decide)).trans h53
  have hS := hS.put (k := 43) (by decide) hne_w9
  refine ww_aload_n K dX1_startOn_29 rfl ?_
  refine ww_iconst (v := 0) K dX1_startOn_30 rfl ?_
  refine ww_putX K dX1_startOn_31 lp_X1_71 h43 (Nat.le_of_ble_eq_true rfl) rfl rfl (fun w10 hln_w10 h43 hne_w10 => ?_)
  have h43 : w10[43]? = some (cO 1 [eR (44), eR (52), eI (0), eI ((-1)), eR (54), eR (55), eI (0), eI (x4), eI (x5), eI (0), eI (x7), eI (x8)]) := h43
  have h44 := (hne_w10 44 (by decide)).trans h44
  have h45 := (hne_w10 45 (by decide)).trans h45
  have h46 := (hne_w10 46 (by decide)).trans h46
  have h47 := (hne_w10 47 (by decide)).trans h47
  have h48 := (hne_w10 48 (by decide)).trans h48
  have h49 := (hne_w10 49 (by decide)).trans h49
  have h50 := (hne_w10 50 (by decide)).trans h50
  have h51 := (hne_w10 51 (by decide)).trans h51
  have h52 := (hne_w10 52 (by decide)).trans h52
  have h53 := (hne_w10 53 (by decide)).trans h53
  have hS := hS.put (k := 43) (by decide) hne_w10
  refine ww_aload_n K dX1_startOn_34 rfl ?_
  refine ww_iconst (v := 0) K dX1_startOn_35 rfl ?_
  refine ww_putX K dX1_startOn_36 lp_X1_74 h43 (Nat.le_of_ble_eq_true rfl) rfl rfl (fun w11 hln_w11 h43 hne_w11 => ?_)
  have h43 : w11[43]? = some (cO 1 [eR (44), eR (52), eI (0), eI ((-1)), eR (54), eR (55), eI (0), eI (x4), eI (x5), eI (0), eI (0), eI (x8)]) := h43
  have h44 := (hne_w11 44 (by decide)).trans h44
  have h45 := (hne_w11 45 (by decide)).trans h45
  have h46 := (hne_w11 46 (by decide)).trans h46
  have h47 := (hne_w11 47 (by decide)).trans h47
  have h48 := (hne_w11 48 (by decide)).trans h48
  have h49 := (hne_w11 49 (by decide)).trans h49
  have h50 := (hne_w11 50 (by decide)).trans h50
  have h51 := (hne_w11 51 (by decide)).trans h51
  have h52 := (hne_w11 52 (by decide)).trans h52
  have h53 := (hne_w11 53 (by decide)).trans h53
  have hS := hS.put (k := 43) (by decide) hne_w11
  refine ww_aload_n K dX1_startOn_39 rfl ?_
  refine ww_iconst (v := 0) K dX1_startOn_40 rfl ?_
  refine ww_putX K dX1_startOn_41 lp_X1_48 h43 (Nat.le_of_ble_eq_true rfl) rfl rfl (fun w12 hln_w12 h43 hne_w12 => ?_)
  have h43 : w12[43]? = some (cO 1 [eR (44), eR (52), eI (0), eI ((-1)), eR (54), eR (55), eI (0), eI (x4), eI (x5), eI (0), eI (0), eI (0)]) := h43
  have h44 := (hne_w12 44 (by decide)).trans h44
  have h45 := (hne_w12 45 (by decide)).trans h45
  have h46 := (hne_w12 46 (by decide)).trans h46
  have h47 := (hne_w12 47 (by decide)).trans h47
  have h48 := (hne_w12 48 (by decide)).trans h48
  have h49 := (hne_w12 49 (by decide)).trans h49
  have h50 := (hne_w12 50 (by decide)).trans h50
  have h51 := (hne_w12 51 (by decide)).trans h51
  have h52 := (hne_w12 52 (by decide)).trans h52
  have h53 := (hne_w12 53 (by decide)).trans h53
  have hS := hS.put (k := 43) (by decide) hne_w12
  refine ww_aload_n K dX1_startOn_44 rfl ?_
  refine ww_xVv K dX1_startOn_45 lc_X1_77 h43 ⟨_, rfl, rfl⟩ (ct_X1_advance_0 G l h43) rfl ⟨Nat.le_of_ble_eq_true rfl, Nat.le_of_ble_eq_true rfl⟩ (Nat.le_of_ble_eq_true rfl) (fun w13 hq hln_w13 => ?_)
  obtain ⟨h43, hsm⟩ := hq
  have h44 := hsm.keep h44 (by decide)
  have h45 := hsm.keep h45 (by decide)
  have h46 := hsm.keep h46 (by decide)
  have h47 := hsm.keep h47 (by decide)
  have h48 := hsm.keep h48 (by decide)
  have h49 := hsm.keep h49 (by decide)
  have h50 := hsm.keep h50 (by decide)
  have h51 := hsm.keep h51 (by decide)
  have h52 := hsm.keep h52 (by decide)
  have h53 := hsm.keep h53 (by decide)
  have hS := hS.call hsm (by decide)
  exact ww_vret K dX1_startOn_48 hr ⟨rfl, ⟨h43, h44, h52, ⟨_, h49⟩, ⟨_, h50⟩, ⟨_, h51⟩, ⟨_, h53⟩, hS⟩⟩
set_option maxRecDepth 100000 in
set_option maxHeartbeats 4000000 in
theorem ct_X1_read_0 (G : EG) (l : Launch) {w : EW} {x1 x2 x3 x4 x5 x6 x7 x8 r1 : Int32} {q1 q2 : Nat → Int32} {a1 a2 a3 a4 a5 a6 a7 : Int32} {f1 f2 f3 f4 f5 f6 f7 : Nat → Int32} {tp : Nat → Int32} (h2 : w[2]? = some (cI 0 600 tp)) (h43 : w[43]? = some (cO 1 [eR (44), eR (52), eI (x1), eI (x2), eR (54), eR (55), eI (x3), eI (x4), eI (x5), eI (x6), eI (x7), eI (x8)])) (h44 : w[44]? = some (cO 2 [eI (a1), eR (45), eR (46), eR (47), eR (48), eR (49), eR (50), eR (51), eI (a2), eI (a3), eI (a4), eI (a5), eI (a6), eI (a7)])) (h45 : w[45]? = some (cI 0 6 f1)) (h46 : w[46]? = some (cI 0 6 f2)) (h47 : w[47]? = some (cI 0 6 f3)) (h48 : w[48]? = some (cI 0 6 f4)) (h49 : w[49]? = some (cI 0 72 f5)) (h50 : w[50]? = some (cI 0 6 f6)) (h51 : w[51]? = some (cI 0 3 f7)) (h52 : w[52]? = some (cO 3 [eI (r1), eR (53)])) (h53 : w[53]? = some (cI 0 200 q1)) (h54 : w[54]? = some (cI 0 600 q2)) : Ct G l yX1_read cX1_read 6 none 3 0 0 [eR (43), eR (2), eI (0), eI (0)] w (fun r w2 => r = none ∧ (w2[43]? = some (cO 1 [eR (44), eR (52), eI (0), eI ((-1)), eR (54), eR (55), eI (0), eI (0), eI (0), eI (0), eI (0), eI (0)]) ∧ w2[44]? = some (cO 2 [eI (0), eR (45), eR (46), eR (47), eR (48), eR (49), eR (50), eR (51), eI (0), eI (10), eI (2), eI (50), eI (50), eI (20)]) ∧ w2[52]? = some (cO 3 [eI (0), eR (53)]) ∧ (∃ F : Nat → Int32, w2[49]? = some (cI 0 72 F)) ∧ (∃ F : Nat → Int32, w2[50]? = some (cI 0 6 F)) ∧ (∃ F : Nat → Int32, w2[51]? = some (cI 0 3 F)) ∧ (∃ F : Nat → Int32, w2[53]? = some (cI 0 200 F)) ∧ (∃ F : Nat → Int32, w2[54]? = some (cI 0 600 F)) ∧ wc_same [43, 44, 49, 50, 51, 52, 53, 54] w w2)) := by
  refine Ct_of (by decide +kernel) (Nat.le_of_ble_eq_true rfl) ?_
  intro p_ e_ s_ m_ a_ b_ t_ c_ K0 hr hin
  have K : wc_C p_ s_ m_ a_ t_ c_ G RX1 cX1_read 6 w.length := K0
  clear K0
  refine WW_ls (ls2 := [some (eR (43)), some (eR (2)), some (eI (0)), some (eI (0)), none, none]) rfl ?_
  have hS : wc_same [43, 44, 49, 50, 51, 52, 53, 54] w w := wc_same.rf
  refine ww_aload_n K dX1_read_0 rfl ?_
  refine ww_aload_n K dX1_read_1 rfl ?_
  refine ww_get K dX1_read_2 lf_X1_25 h43 rfl ?_
  refine ww_xSNv K dX1_read_5 lc_X1_32 (ct_copy G l h2 h54 (by decide)) rfl ⟨Nat.le_of_ble_eq_true rfl, Nat.le_of_ble_eq_true rfl⟩ (Nat.le_of_ble_eq_true rfl) (fun w2 hq hln_w2 => ?_)
  obtain ⟨⟨F1, eF1, h54⟩, hsm⟩ := hq
  have h2 := hsm.keep h2 (by decide)
  have h43 := hsm.keep h43 (by decide)
  have h44 := hsm.keep h44 (by decide)
  have h45 := hsm.keep h45 (by decide)
  have h46 := hsm.keep h46 (by decide)
  have h47 := hsm.keep h47 (by decide)
  have h48 := hsm.keep h48 (by decide)
  have h49 := hsm.keep h49 (by decide)
  have h50 := hsm.keep h50 (by decide)
  have h51 := hsm.keep h51 (by decide)
  have h52 := hsm.keep h52 (by decide)
  have h53 := hsm.keep h53 (by decide)
  have hS := hS.call hsm (by decide)
  refine ww_aload_n K dX1_read_8 rfl ?_
  refine ww_iload_n K dX1_read_9 rfl ?_
  refine ww_xVv K dX1_read_10 lc_X1_36 h43 ⟨_, rfl, rfl⟩ (ct_X1_startOn_0 G l h43 h44 h45 h46 h47 h48 h49 h50 h51 h52 h53) rfl ⟨Nat.le_of_ble_eq_true rfl, Nat.le_of_ble_eq_true rfl⟩ (Nat.le_of_ble_eq_true rfl) (fun w7 hq hln_w7 => ?_)
  obtain ⟨h43, h44, h52, ⟨F3, h49⟩, ⟨F4, h50⟩, ⟨F5, h51⟩, ⟨F6, h53⟩, hsm⟩ := hq
  have h2 := hsm.keep h2 (by decide)
  have h45 := hsm.keep h45 (by decide)
  have h46 := hsm.keep h46 (by decide)
  have h47 := hsm.keep h47 (by decide)
  have h48 := hsm.keep h48 (by decide)
  have h54 := hsm.keep h54 (by decide)
  have hS := hS.call hsm (by decide)
  refine ww_iconst (v := 1) K dX1_read_13 rfl ?_
  refine ww_istore (ls2 := [some (eR (43)), some (eR (2)), some (eI (0)), some (eI (0)), some (eI (1)), none]) K dX1_read_14 (by decide) rfl ?_
  refine ww_iconst (v := 0) K dX1_read_16 rfl ?_
  refine ww_istore (ls2 := [some (eR (43)), some (eR (2)), some (eI (0)), some (eI (0)), some (eI (1)), some (eI (0))]) K dX1_read_17 (by decide) rfl ?_
  refine ww_iload K dX1_read_19 rfl ?_
  refine ww_sipush (v := 600) K dX1_read_21 rfl ?_
  refine ww_icmp_ge (tgt := 52) K dX1_read_24 rfl (fun cc_ => absurd cc_ (by decide)) (fun _ => ?_)
  refine ww_iload K dX1_read_27 rfl ?_
  refine ww_if_eq (tgt := 52) K dX1_read_29 rfl (fun cc_ => absurd cc_ (by decide)) (fun _ => ?_)
  refine ww_aload_n K dX1_read_32 rfl ?_
  refine ww_get K dX1_read_33 lf_X1_40 h43 rfl ?_
  refine ww_if_eq (tgt := 52) K dX1_read_36 rfl (fun _ => ?_) (fun cc_ => absurd cc_ (by decide))
  refine ww_iload_n K dX1_read_52 rfl ?_
  refine ww_if_ne (tgt := 80) K dX1_read_53 rfl (fun cc_ => absurd cc_ (by decide)) (fun _ => ?_)
  refine ww_aload_n K dX1_read_56 rfl ?_
  refine ww_get K dX1_read_57 lf_X1_48 h43 rfl ?_
  refine ww_aload_n K dX1_read_60 rfl ?_
  refine ww_get K dX1_read_61 lf_X1_12 h43 rfl ?_
  refine ww_get K dX1_read_64 lf_X1_51 h44 rfl ?_
  refine ww_ishr K dX1_read_67 ?_
  rw [show ((0 : Int32) >>> ((0 : Int32) &&& 31)) = 0 from by decide]
  refine ww_if_eq (tgt := 80) K dX1_read_68 rfl (fun _ => ?_) (fun cc_ => absurd cc_ (by decide))
  exact ww_vret K dX1_read_80 hr ⟨rfl, ⟨h43, h44, h52, ⟨_, h49⟩, ⟨_, h50⟩, ⟨_, h51⟩, ⟨_, h53⟩, ⟨_, h54⟩, hS⟩⟩
set_option maxRecDepth 100000 in
set_option maxHeartbeats 4000000 in
theorem ct_X1_read_n (G : EG) (l : Launch) {w : EW} {x1 x2 x3 x4 x5 x6 x7 x8 r1 : Int32} {q1 q2 : Nat → Int32} {a1 a2 a3 a4 a5 a6 a7 : Int32} {f1 f2 f3 f4 f5 f6 f7 : Nat → Int32} {tp : Nat → Int32} {s : Int32} (hs : ¬ s = 0) (h2 : w[2]? = some (cI 0 600 tp)) (h43 : w[43]? = some (cO 1 [eR (44), eR (52), eI (x1), eI (x2), eR (54), eR (55), eI (x3), eI (x4), eI (x5), eI (x6), eI (x7), eI (x8)])) (h44 : w[44]? = some (cO 2 [eI (a1), eR (45), eR (46), eR (47), eR (48), eR (49), eR (50), eR (51), eI (a2), eI (a3), eI (a4), eI (a5), eI (a6), eI (a7)])) (h45 : w[45]? = some (cI 0 6 f1)) (h46 : w[46]? = some (cI 0 6 f2)) (h47 : w[47]? = some (cI 0 6 f3)) (h48 : w[48]? = some (cI 0 6 f4)) (h49 : w[49]? = some (cI 0 72 f5)) (h50 : w[50]? = some (cI 0 6 f6)) (h51 : w[51]? = some (cI 0 3 f7)) (h52 : w[52]? = some (cO 3 [eI (r1), eR (53)])) (h53 : w[53]? = some (cI 0 200 q1)) (h54 : w[54]? = some (cI 0 600 q2)) : Ct G l yX1_read cX1_read 6 none 3 0 0 [eR (43), eR (2), eI (0), eI (s)] w (fun r w2 => r = none ∧ (w2[43]? = some (cO 1 [eR (44), eR (52), eI (0), eI ((-1)), eR (54), eR (55), eI (0), eI (0), eI (0), eI (0), eI (0), eI (0)]) ∧ w2[44]? = some (cO 2 [eI (0), eR (45), eR (46), eR (47), eR (48), eR (49), eR (50), eR (51), eI (0), eI (10), eI (2), eI (50), eI (50), eI (20)]) ∧ w2[52]? = some (cO 3 [eI (0), eR (53)]) ∧ (∃ F : Nat → Int32, w2[49]? = some (cI 0 72 F)) ∧ (∃ F : Nat → Int32, w2[50]? = some (cI 0 6 F)) ∧ (∃ F : Nat → Int32, w2[51]? = some (cI 0 3 F)) ∧ (∃ F : Nat → Int32, w2[53]? = some (cI 0 200 F)) ∧ (∃ F : Nat → Int32, w2[54]? = some (cI 0 600 F)) ∧ wc_same [43, 44, 49, 50, 51, 52, 53, 54] w w2)) := by
  refine Ct_of (by decide +kernel) (Nat.le_of_ble_eq_true rfl) ?_
  intro p_ e_ s_ m_ a_ b_ t_ c_ K0 hr hin
  have K : wc_C p_ s_ m_ a_ t_ c_ G RX1 cX1_read 6 w.length := K0
  clear K0
  refine WW_ls (ls2 := [some (eR (43)), some (eR (2)), some (eI (0)), some (eI (s)), none, none]) rfl ?_
  have hS : wc_same [43, 44, 49, 50, 51, 52, 53, 54] w w := wc_same.rf
  refine ww_aload_n K dX1_read_0 rfl ?_
  refine ww_aload_n K dX1_read_1 rfl ?_
  refine ww_get K dX1_read_2 lf_X1_25 h43 rfl ?_
  refine ww_xSNv K dX1_read_5 lc_X1_32 (ct_copy G l h2 h54 (by decide)) rfl ⟨Nat.le_of_ble_eq_true rfl, Nat.le_of_ble_eq_true rfl⟩ (Nat.le_of_ble_eq_true rfl) (fun w2 hq hln_w2 => ?_)
  obtain ⟨⟨F1, eF1, h54⟩, hsm⟩ := hq
  have h2 := hsm.keep h2 (by decide)
  have h43 := hsm.keep h43 (by decide)
  have h44 := hsm.keep h44 (by decide)
  have h45 := hsm.keep h45 (by decide)
  have h46 := hsm.keep h46 (by decide)
  have h47 := hsm.keep h47 (by decide)
  have h48 := hsm.keep h48 (by decide)
  have h49 := hsm.keep h49 (by decide)
  have h50 := hsm.keep h50 (by decide)
  have h51 := hsm.keep h51 (by decide)
  have h52 := hsm.keep h52 (by decide)
  have h53 := hsm.keep h53 (by decide)
  have hS := hS.call hsm (by decide)
  refine ww_aload_n K dX1_read_8 rfl ?_
  refine ww_iload_n K dX1_read_9 rfl ?_
  refine ww_xVv K dX1_read_10 lc_X1_36 h43 ⟨_, rfl, rfl⟩ (ct_X1_startOn_0 G l h43 h44 h45 h46 h47 h48 h49 h50 h51 h52 h53) rfl ⟨Nat.le_of_ble_eq_true rfl, Nat.le_of_ble_eq_true rfl⟩ (Nat.le_of_ble_eq_true rfl) (fun w7 hq hln_w7 => ?_)
  obtain ⟨h43, h44, h52, ⟨F3, h49⟩, ⟨F4, h50⟩, ⟨F5, h51⟩, ⟨F6, h53⟩, hsm⟩ := hq
  have h2 := hsm.keep h2 (by decide)
  have h45 := hsm.keep h45 (by decide)
  have h46 := hsm.keep h46 (by decide)
  have h47 := hsm.keep h47 (by decide)
  have h48 := hsm.keep h48 (by decide)
  have h54 := hsm.keep h54 (by decide)
  have hS := hS.call hsm (by decide)
  refine ww_iconst (v := 1) K dX1_read_13 rfl ?_
  refine ww_istore (ls2 := [some (eR (43)), some (eR (2)), some (eI (0)), some (eI (s)), some (eI (1)), none]) K dX1_read_14 (by decide) rfl ?_
  refine ww_iconst (v := 0) K dX1_read_16 rfl ?_
  refine ww_istore (ls2 := [some (eR (43)), some (eR (2)), some (eI (0)), some (eI (s)), some (eI (1)), some (eI (0))]) K dX1_read_17 (by decide) rfl ?_
  refine ww_iload K dX1_read_19 rfl ?_
  refine ww_sipush (v := 600) K dX1_read_21 rfl ?_
  refine ww_icmp_ge (tgt := 52) K dX1_read_24 rfl (fun cc_ => absurd cc_ (by decide)) (fun _ => ?_)
  refine ww_iload K dX1_read_27 rfl ?_
  refine ww_if_eq (tgt := 52) K dX1_read_29 rfl (fun cc_ => absurd cc_ (by decide)) (fun _ => ?_)
  refine ww_aload_n K dX1_read_32 rfl ?_
  refine ww_get K dX1_read_33 lf_X1_40 h43 rfl ?_
  refine ww_if_eq (tgt := 52) K dX1_read_36 rfl (fun _ => ?_) (fun cc_ => absurd cc_ (by decide))
  refine ww_iload_n K dX1_read_52 rfl ?_
  refine ww_if_ne (tgt := 80) K dX1_read_53 rfl (fun _ => ?_) (fun cc_ => absurd cc_ hs)
  exact ww_vret K dX1_read_80 hr ⟨rfl, ⟨h43, h44, h52, ⟨_, h49⟩, ⟨_, h50⟩, ⟨_, h51⟩, ⟨_, h53⟩, ⟨_, h54⟩, hS⟩⟩
theorem wc_in6 {a N : Int32} {n : Nat} (hN : N.toInt = n) (h0 : ¬ a < 0) (h : a < N) : vp_in a n := by
  rw [vp_in_iff]
  have h1 := Int32.le_iff_toInt_le.mp (Int32.not_lt.mp h0)
  have h2 := Int32.lt_iff_toInt_lt.mp h
  rw [hN] at h2
  exact ⟨by simpa using h1, h2⟩
set_option maxRecDepth 100000 in
set_option maxHeartbeats 4000000 in
theorem ct_X6_placeFor_0 (G : EG) (l : Launch) {w : EW} {cnt : Nat → Int32} (hz : ∀ k, k < 6 → cnt k = 0) (h0 : w[0]? = some (cO 6 [eR (1), eR (42), eR (43), eR (56), eR (60), eR (61), eR (62), eR (63)])) (h1 : w[1]? = some (cO 5 [eR (2), eI (0), eI (0), eI ((-1)), eR (3), eR (4), eR (5)])) (h3 : w[3]? = some (cI 0 6 cnt)) : Ct G l yX6_placeFor cX6_placeFor 4 (some .int) 1 0 0 [eR (0), eI (0), eI ((-1))] w (fun r w2 => r = some (eI 0) ∧ w2 = w) := by
  refine Ct_of (by decide +kernel) (Nat.le_of_ble_eq_true rfl) ?_
  intro p_ e_ s_ m_ a_ b_ t_ c_ K0 hr hin
  have K : wc_C p_ s_ m_ a_ t_ c_ G RX6 cX6_placeFor 4 w.length := K0
  clear K0
  refine WW_ls (ls2 := [some (eR (0)), some (eI (0)), some (eI ((-1))), none]) rfl ?_
  have hS : wc_same [0] w w := wc_same.rf
  refine ww_iload_n K dX6_placeFor_0 rfl ?_
  refine ww_if_lt (tgt := 10) K dX6_placeFor_1 rfl (fun cc_ => absurd cc_ (by decide)) (fun _ => ?_)
  refine ww_iload_n K dX6_placeFor_4 rfl ?_
  refine ww_bipush (v := 6) K dX6_placeFor_5 rfl ?_
  refine ww_icmp_lt (tgt := 12) K dX6_placeFor_7 rfl (fun _ => ?_) (fun cc_ => absurd cc_ (by decide))
  refine ww_aload_n K dX6_placeFor_12 rfl ?_
  refine ww_get K dX6_placeFor_13 lf_X6_10 h0 rfl ?_
  refine ww_get K dX6_placeFor_16 lf_X6_85 h1 rfl ?_
  refine ww_iload_n K dX6_placeFor_19 rfl ?_
  refine ww_cS K dX6_placeFor_20 lc_X6_88 (ct_X6_cell G l h3 (by decide) (i := 0) (wc_vin (by decide))) rfl ⟨Nat.le_of_ble_eq_true rfl, Nat.le_of_ble_eq_true rfl⟩ (Nat.le_of_ble_eq_true rfl) ?_
  rw [show cnt (0 : Int32).toNatClampNeg = 0 from hz 0 (by decide)]
  refine ww_istore_n (ls2 := [some (eR (0)), some (eI (0)), some (eI ((-1))), some (eI (0))]) K dX6_placeFor_23 (by decide) rfl ?_
  refine ww_iload_n K dX6_placeFor_24 rfl ?_
  refine ww_iconst (v := (-1)) K dX6_placeFor_25 rfl ?_
  refine ww_icmp_ne (tgt := 40) K dX6_placeFor_26 rfl (fun cc_ => absurd cc_ (by decide)) (fun _ => ?_)
  refine ww_iload_n K dX6_placeFor_29 rfl ?_
  refine ww_iconst (v := 2) K dX6_placeFor_30 rfl ?_
  refine ww_icmp_ge (tgt := 38) K dX6_placeFor_31 rfl (fun cc_ => absurd cc_ (by decide)) (fun _ => ?_)
  refine ww_iload_n K dX6_placeFor_34 rfl ?_
  refine ww_goto (tgt := 39) K dX6_placeFor_35 rfl ?_
  exact ww_iret K dX6_placeFor_39 hr ⟨rfl, rfl⟩
set_option maxRecDepth 100000 in
set_option maxHeartbeats 4000000 in
theorem ct_X6_placeFor_1 (G : EG) (l : Launch) {w : EW} {cnt : Nat → Int32} (hz : ∀ k, k < 6 → cnt k = 0) (h0 : w[0]? = some (cO 6 [eR (1), eR (42), eR (43), eR (56), eR (60), eR (61), eR (62), eR (63)])) (h1 : w[1]? = some (cO 5 [eR (2), eI (0), eI (0), eI ((-1)), eR (3), eR (4), eR (5)])) (h3 : w[3]? = some (cI 0 6 cnt)) : Ct G l yX6_placeFor cX6_placeFor 4 (some .int) 1 0 0 [eR (0), eI (1), eI ((-1))] w (fun r w2 => r = some (eI 0) ∧ w2 = w) := by
  refine Ct_of (by decide +kernel) (Nat.le_of_ble_eq_true rfl) ?_
  intro p_ e_ s_ m_ a_ b_ t_ c_ K0 hr hin
  have K : wc_C p_ s_ m_ a_ t_ c_ G RX6 cX6_placeFor 4 w.length := K0
  clear K0
  refine WW_ls (ls2 := [some (eR (0)), some (eI (1)), some (eI ((-1))), none]) rfl ?_
  have hS : wc_same [0] w w := wc_same.rf
  refine ww_iload_n K dX6_placeFor_0 rfl ?_
  refine ww_if_lt (tgt := 10) K dX6_placeFor_1 rfl (fun cc_ => absurd cc_ (by decide)) (fun _ => ?_)
  refine ww_iload_n K dX6_placeFor_4 rfl ?_
  refine ww_bipush (v := 6) K dX6_placeFor_5 rfl ?_
  refine ww_icmp_lt (tgt := 12) K dX6_placeFor_7 rfl (fun _ => ?_) (fun cc_ => absurd cc_ (by decide))
  refine ww_aload_n K dX6_placeFor_12 rfl ?_
  refine ww_get K dX6_placeFor_13 lf_X6_10 h0 rfl ?_
  refine ww_get K dX6_placeFor_16 lf_X6_85 h1 rfl ?_
  refine ww_iload_n K dX6_placeFor_19 rfl ?_
  refine ww_cS K dX6_placeFor_20 lc_X6_88 (ct_X6_cell G l h3 (by decide) (i := 1) (wc_vin (by decide))) rfl ⟨Nat.le_of_ble_eq_true rfl, Nat.le_of_ble_eq_true rfl⟩ (Nat.le_of_ble_eq_true rfl) ?_
  rw [show cnt (1 : Int32).toNatClampNeg = 0 from hz 1 (by decide)]
  refine ww_istore_n (ls2 := [some (eR (0)), some (eI (1)), some (eI ((-1))), some (eI (0))]) K dX6_placeFor_23 (by decide) rfl ?_
  refine ww_iload_n K dX6_placeFor_24 rfl ?_
  refine ww_iconst (v := (-1)) K dX6_placeFor_25 rfl ?_
  refine ww_icmp_ne (tgt := 40) K dX6_placeFor_26 rfl (fun cc_ => absurd cc_ (by decide)) (fun _ => ?_)
  refine ww_iload_n K dX6_placeFor_29 rfl ?_
  refine ww_iconst (v := 2) K dX6_placeFor_30 rfl ?_
  refine ww_icmp_ge (tgt := 38) K dX6_placeFor_31 rfl (fun cc_ => absurd cc_ (by decide)) (fun _ => ?_)
  refine ww_iload_n K dX6_placeFor_34 rfl ?_
  refine ww_goto (tgt := 39) K dX6_placeFor_35 rfl ?_
  exact ww_iret K dX6_placeFor_39 hr ⟨rfl, rfl⟩
set_option maxRecDepth 100000 in
set_option maxHeartbeats 4000000 in
theorem ct_X6_placeFor_2 (G : EG) (l : Launch) {w : EW} {cnt : Nat → Int32} (hz : ∀ k, k < 6 → cnt k = 0) (h0 : w[0]? = some (cO 6 [eR (1), eR (42), eR (43), eR (56), eR (60), eR (61), eR (62), eR (63)])) (h1 : w[1]? = some (cO 5 [eR (2), eI (0), eI (0), eI ((-1)), eR (3), eR (4), eR (5)])) (h3 : w[3]? = some (cI 0 6 cnt)) : Ct G l yX6_placeFor cX6_placeFor 4 (some .int) 1 0 0 [eR (0), eI (2), eI ((-1))] w (fun r w2 => r = some (eI 0) ∧ w2 = w) := by
  refine Ct_of (by decide +kernel) (Nat.le_of_ble_eq_true rfl) ?_
  intro p_ e_ s_ m_ a_ b_ t_ c_ K0 hr hin
  have K : wc_C p_ s_ m_ a_ t_ c_ G RX6 cX6_placeFor 4 w.length := K0
  clear K0
  refine WW_ls (ls2 := [some (eR (0)), some (eI (2)), some (eI ((-1))), none]) rfl ?_
  have hS : wc_same [0] w w := wc_same.rf
  refine ww_iload_n K dX6_placeFor_0 rfl ?_
  refine ww_if_lt (tgt := 10) K dX6_placeFor_1 rfl (fun cc_ => absurd cc_ (by decide)) (fun _ => ?_)
  refine ww_iload_n K dX6_placeFor_4 rfl ?_
  refine ww_bipush (v := 6) K dX6_placeFor_5 rfl ?_
  refine ww_icmp_lt (tgt := 12) K dX6_placeFor_7 rfl (fun _ => ?_) (fun cc_ => absurd cc_ (by decide))
  refine ww_aload_n K dX6_placeFor_12 rfl ?_
  refine ww_get K dX6_placeFor_13 lf_X6_10 h0 rfl ?_
  refine ww_get K dX6_placeFor_16 lf_X6_85 h1 rfl ?_
  refine ww_iload_n K dX6_placeFor_19 rfl ?_
  refine ww_cS K dX6_placeFor_20 lc_X6_88 (ct_X6_cell G l h3 (by decide) (i := 2) (wc_vin (by decide))) rfl ⟨Nat.le_of_ble_eq_true rfl, Nat.le_of_ble_eq_true rfl⟩ (Nat.le_of_ble_eq_true rfl) ?_
  rw [show cnt (2 : Int32).toNatClampNeg = 0 from hz 2 (by decide)]
  refine ww_istore_n (ls2 := [some (eR (0)), some (eI (2)), some (eI ((-1))), some (eI (0))]) K dX6_placeFor_23 (by decide) rfl ?_
  refine ww_iload_n K dX6_placeFor_24 rfl ?_
  refine ww_iconst (v := (-1)) K dX6_placeFor_25 rfl ?_
  refine ww_icmp_ne (tgt := 40) K dX6_placeFor_26 rfl (fun cc_ => absurd cc_ (by decide)) (fun _ => ?_)
  refine ww_iload_n K dX6_placeFor_29 rfl ?_
  refine ww_iconst (v := 2) K dX6_placeFor_30 rfl ?_
  refine ww_icmp_ge (tgt := 38) K dX6_placeFor_31 rfl (fun cc_ => absurd cc_ (by decide)) (fun _ => ?_)
  refine ww_iload_n K dX6_placeFor_34 rfl ?_
  refine ww_goto (tgt := 39) K dX6_placeFor_35 rfl ?_
  exact ww_iret K dX6_placeFor_39 hr ⟨rfl, rfl⟩
set_option maxRecDepth 100000 in
set_option maxHeartbeats 4000000 in
theorem ct_X6_placeFor_3 (G : EG) (l : Launch) {w : EW} {cnt : Nat → Int32} (hz : ∀ k, k < 6 → cnt k = 0) (h0 : w[0]? = some (cO 6 [eR (1), eR (42), eR (43), eR (56), eR (60), eR (61), eR (62), eR (63)])) (h1 : w[1]? = some (cO 5 [eR (2), eI (0), eI (0), eI ((-1)), eR (3), eR (4), eR (5)])) (h3 : w[3]? = some (cI 0 6 cnt)) : Ct G l yX6_placeFor cX6_placeFor 4 (some .int) 1 0 0 [eR (0), eI (3), eI ((-1))] w (fun r w2 => r = some (eI 0) ∧ w2 = w) := by
  refine Ct_of (by decide +kernel) (Nat.le_of_ble_eq_true rfl) ?_
  intro p_ e_ s_ m_ a_ b_ t_ c_ K0 hr hin
  have K : wc_C p_ s_ m_ a_ t_ c_ G RX6 cX6_placeFor 4 w.length := K0
  clear K0
  refine WW_ls (ls2 := [some (eR (0)), some (eI (3)), some (eI ((-1))), none]) rfl ?_
  have hS : wc_same [0] w w := wc_same.rf
  refine ww_iload_n K dX6_placeFor_0 rfl ?_
  refine ww_if_lt (tgt := 10) K dX6_placeFor_1 rfl (fun cc_ => absurd cc_ (by decide)) (fun _ => ?_)
  refine ww_iload_n K dX6_placeFor_4 rfl ?_
  refine ww_bipush (v := 6) K dX6_placeFor_5 rfl ?_
  refine ww_icmp_lt (tgt := 12) K dX6_placeFor_7 rfl (fun _ => ?_) (fun cc_ => absurd cc_ (by decide))
  refine ww_aload_n K dX6_placeFor_12 rfl ?_
  refine ww_get K dX6_placeFor_13 lf_X6_10 h0 rfl ?_
  refine ww_get K dX6_placeFor_16 lf_X6_85 h1 rfl ?_
  refine ww_iload_n K dX6_placeFor_19 rfl ?_
  refine ww_cS K dX6_placeFor_20 lc_X6_88 (ct_X6_cell G l h3 (by decide) (i := 3) (wc_vin (by decide))) rfl ⟨Nat.le_of_ble_eq_true rfl, Nat.le_of_ble_eq_true rfl⟩ (Nat.le_of_ble_eq_true rfl) ?_
  rw [show cnt (3 : Int32).toNatClampNeg = 0 from hz 3 (by decide)]
  refine ww_istore_n (ls2 := [some (eR (0)), some (eI (3)), some (eI ((-1))), some (eI (0))]) K dX6_placeFor_23 (by decide) rfl ?_
  refine ww_iload_n K dX6_placeFor_24 rfl ?_
  refine ww_iconst (v := (-1)) K dX6_placeFor_25 rfl ?_
  refine ww_icmp_ne (tgt := 40) K dX6_placeFor_26 rfl (fun cc_ => absurd cc_ (by decide)) (fun _ => ?_)
  refine ww_iload_n K dX6_placeFor_29 rfl ?_
  refine ww_iconst (v := 2) K dX6_placeFor_30 rfl ?_
  refine ww_icmp_ge (tgt := 38) K dX6_placeFor_31 rfl (fun cc_ => absurd cc_ (by decide)) (fun _ => ?_)
  refine ww_iload_n K dX6_placeFor_34 rfl ?_
  refine ww_goto (tgt := 39) K dX6_placeFor_35 rfl ?_
  exact ww_iret K dX6_placeFor_39 hr ⟨rfl, rfl⟩
set_option maxRecDepth 100000 in
set_option maxHeartbeats 4000000 in
theorem ct_X6_placeFor_4 (G : EG) (l : Launch) {w : EW} {cnt : Nat → Int32} (hz : ∀ k, k < 6 → cnt k = 0) (h0 : w[0]? = some (cO 6 [eR (1), eR (42), eR (43), eR (56), eR (60), eR (61), eR (62), eR (63)])) (h1 : w[1]? = some (cO 5 [eR (2), eI (0), eI (0), eI ((-1)), eR (3), eR (4), eR (5)])) (h3 : w[3]? = some (cI 0 6 cnt)) : Ct G l yX6_placeFor cX6_placeFor 4 (some .int) 1 0 0 [eR (0), eI (4), eI ((-1))] w (fun r w2 => r = some (eI 0) ∧ w2 = w) := by
  refine Ct_of (by decide +kernel) (Nat.le_of_ble_eq_true rfl) ?_
  intro p_ e_ s_ m_ a_ b_ t_ c_ K0 hr hin
  have K : wc_C p_ s_ m_ a_ t_ c_ G RX6 cX6_placeFor 4 w.length := K0
  clear K0
  refine WW_ls (ls2 := [some (eR (0)), some (eI (4)), some (eI ((-1))), none]) rfl ?_
  have hS : wc_same [0] w w := wc_same.rf
  refine ww_iload_n K dX6_placeFor_0 rfl ?_
  refine ww_if_lt (tgt := 10) K dX6_placeFor_1 rfl (fun cc_ => absurd cc_ (by decide)) (fun _ => ?_)
  refine ww_iload_n K dX6_placeFor_4 rfl ?_
  refine ww_bipush (v := 6) K dX6_placeFor_5 rfl ?_
  refine ww_icmp_lt (tgt := 12) K dX6_placeFor_7 rfl (fun _ => ?_) (fun cc_ => absurd cc_ (by decide))
  refine ww_aload_n K dX6_placeFor_12 rfl ?_
  refine ww_get K dX6_placeFor_13 lf_X6_10 h0 rfl ?_
  refine ww_get K dX6_placeFor_16 lf_X6_85 h1 rfl ?_
  refine ww_iload_n K dX6_placeFor_19 rfl ?_
  refine ww_cS K dX6_placeFor_20 lc_X6_88 (ct_X6_cell G l h3 (by decide) (i := 4) (wc_vin (by decide))) rfl ⟨Nat.le_of_ble_eq_true rfl, Nat.le_of_ble_eq_true rfl⟩ (Nat.le_of_ble_eq_true rfl) ?_
  rw [show cnt (4 : Int32).toNatClampNeg = 0 from hz 4 (by decide)]
  refine ww_istore_n (ls2 := [some (eR (0)), some (eI (4)), some (eI ((-1))), some (eI (0))]) K dX6_placeFor_23 (by decide) rfl ?_
  refine ww_iload_n K dX6_placeFor_24 rfl ?_
  refine ww_iconst (v := (-1)) K dX6_placeFor_25 rfl ?_
  refine ww_icmp_ne (tgt := 40) K dX6_placeFor_26 rfl (fun cc_ => absurd cc_ (by decide)) (fun _ => ?_)
  refine ww_iload_n K dX6_placeFor_29 rfl ?_
  refine ww_iconst (v := 2) K dX6_placeFor_30 rfl ?_
  refine ww_icmp_ge (tgt := 38) K dX6_placeFor_31 rfl (fun cc_ => absurd cc_ (by decide)) (fun _ => ?_)
  refine ww_iload_n K dX6_placeFor_34 rfl ?_
  refine ww_goto (tgt := 39) K dX6_placeFor_35 rfl ?_
  exact ww_iret K dX6_placeFor_39 hr ⟨rfl, rfl⟩
set_option maxRecDepth 100000 in
set_option maxHeartbeats 4000000 in
theorem ct_X6_placeFor_5 (G : EG) (l : Launch) {w : EW} {cnt : Nat → Int32} (hz : ∀ k, k < 6 → cnt k = 0) (h0 : w[0]? = some (cO 6 [eR (1), eR (42), eR (43), eR (56), eR (60), eR (61), eR (62), eR (63)])) (h1 : w[1]? = some (cO 5 [eR (2), eI (0), eI (0), eI ((-1)), eR (3), eR (4), eR (5)])) (h3 : w[3]? = some (cI 0 6 cnt)) : Ct G l yX6_placeFor cX6_placeFor 4 (some .int) 1 0 0 [eR (0), eI (5), eI ((-1))] w (fun r w2 => r = some (eI 0) ∧ w2 = w) := by
  refine Ct_of (by decide +kernel) (Nat.le_of_ble_eq_true rfl) ?_
  intro p_ e_ s_ m_ a_ b_ t_ c_ K0 hr hin
  have K : wc_C p_ s_ m_ a_ t_ c_ G RX6 cX6_placeFor 4 w.length := K0
  clear K0
  refine WW_ls (ls2 := [some (eR (0)), some (eI (5)), some (eI ((-1))), none]) rfl ?_
  have hS : wc_same [0] w w := wc_same.rf
  refine ww_iload_n K dX6_placeFor_0 rfl ?_
  refine ww_if_lt (tgt := 10) K dX6_placeFor_1 rfl (fun cc_ => absurd cc_ (by decide)) (fun _ => ?_)
  refine ww_iload_n K dX6_placeFor_4 rfl ?_
  refine ww_bipush (v := 6) K dX6_placeFor_5 rfl ?_
  refine ww_icmp_lt (tgt := 12) K dX6_placeFor_7 rfl (fun _ => ?_) (fun cc_ => absurd cc_ (by decide))
  refine ww_aload_n K dX6_placeFor_12 rfl ?_
  refine ww_get K dX6_placeFor_13 lf_X6_10 h0 rfl ?_
  refine ww_get K dX6_placeFor_16 lf_X6_85 h1 rfl ?_
  refine ww_iload_n K dX6_placeFor_19 rfl ?_
  refine ww_cS K dX6_placeFor_20 lc_X6_88 (ct_X6_cell G l h3 (by decide) (i := 5) (wc_vin (by decide))) rfl ⟨Nat.le_of_ble_eq_true rfl, Nat.le_of_ble_eq_true rfl⟩ (Nat.le_of_ble_eq_true rfl) ?_
  rw [show cnt (5 : Int32).toNatClampNeg = 0 from hz 5 (by decide)]
  refine ww_istore_n (ls2 := [some (eR (0)), some (eI (5)), some (eI ((-1))), some (eI (0))]) K dX6_placeFor_23 (by decide) rfl ?_
  refine ww_iload_n K dX6_placeFor_24 rfl ?_
  refine ww_iconst (v := (-1)) K dX6_placeFor_25 rfl ?_
  refine ww_icmp_ne (tgt := 40) K dX6_placeFor_26 rfl (fun cc_ => absurd cc_ (by decide)) (fun _ => ?_)
  refine ww_iload_n K dX6_placeFor_29 rfl ?_
  refine ww_iconst (v := 2) K dX6_placeFor_30 rfl ?_
  refine ww_icmp_ge (tgt := 38) K dX6_placeFor_31 rfl (fun cc_ => absurd cc_ (by decide)) (fun _ => ?_)
  refine ww_iload_n K dX6_placeFor_34 rfl ?_
  refine ww_goto (tgt := 39) K dX6_placeFor_35 rfl ?_
  exact ww_iret K dX6_placeFor_39 hr ⟨rfl, rfl⟩
set_option maxRecDepth 100000 in
set_option maxHeartbeats 4000000 in
theorem ct_X6_placeFor_bad (G : EG) (l : Launch) {w : EW} {a b : Int32} (hb : a < 0 ∨ 6 ≤ a ∨ ¬ b = -1) {cnt : Nat → Int32} (hz : ∀ k, k < 6 → cnt k = 0) (h0 : w[0]? = some (cO 6 [eR (1), eR (42), eR (43), eR (56), eR (60), eR (61), eR (62), eR (63)])) (h1 : w[1]? = some (cO 5 [eR (2), eI (0), eI (0), eI ((-1)), eR (3), eR (4), eR (5)])) (h3 : w[3]? = some (cI 0 6 cnt)) : Ct G l yX6_placeFor cX6_placeFor 4 (some .int) 1 0 0 [eR (0), eI (a), eI (b)] w (fun r w2 => r = some (eI (-1)) ∧ w2 = w) := by
  refine Ct_of (by decide +kernel) (Nat.le_of_ble_eq_true rfl) ?_
  intro p_ e_ s_ m_ a_ b_ t_ c_ K0 hr hin
  have K : wc_C p_ s_ m_ a_ t_ c_ G RX6 cX6_placeFor 4 w.length := K0
  clear K0
  refine WW_ls (ls2 := [some (eR (0)), some (eI (a)), some (eI (b)), none]) rfl ?_
  have hS : wc_same [0] w w := wc_same.rf
  refine ww_iload_n K dX6_placeFor_0 rfl ?_
  refine ww_if_lt (tgt := 10) K dX6_placeFor_1 rfl (fun c_1 => ?_) (fun c_1 => ?_)
  · refine ww_iconst (v := (-1)) K dX6_placeFor_10 rfl ?_
    exact ww_iret K dX6_placeFor_11 hr ⟨rfl, rfl⟩
  · refine ww_iload_n K dX6_placeFor_4 rfl ?_
    refine ww_bipush (v := 6) K dX6_placeFor_5 rfl ?_
    refine ww_icmp_lt (tgt := 12) K dX6_placeFor_7 rfl (fun c_7 => ?_) (fun c_7 => ?_)
    · refine ww_aload_n K dX6_placeFor_12 rfl ?_
      refine ww_get K dX6_placeFor_13 lf_X6_10 h0 rfl ?_
      refine ww_get K dX6_placeFor_16 lf_X6_85 h1 rfl ?_
      refine ww_iload_n K dX6_placeFor_19 rfl ?_
      refine ww_cS K dX6_placeFor_20 lc_X6_88 (ct_X6_cell G l h3 (by decide) (i := a) (wc_in6 (N := 6) rfl c_1 c_7)) rfl ⟨Nat.le_of_ble_eq_true rfl, Nat.le_of_ble_eq_true rfl⟩ (Nat.le_of_ble_eq_true rfl) ?_
      rw [show cnt (a : Int32).toNatClampNeg = 0 from hz _ (wc_cl_lt (wc_in6 (N := 6) rfl c_1 c_7))]
      refine ww_istore_n (ls2 := [some (eR (0)), some (eI (a)), some (eI (b)), some (eI (0))]) K dX6_placeFor_23 (by decide) rfl ?_
      refine ww_iload_n K dX6_placeFor_24 rfl ?_
      refine ww_iconst (v := (-1)) K dX6_placeFor_25 rfl ?_
      refine ww_icmp_ne (tgt := 40) K dX6_placeFor_26 rfl (fun _ => ?_) (fun cc_ => absurd cc_ ((hb.resolve_left c_1).resolve_left (Int32.not_le.mpr c_7)))
      refine ww_iload_n K dX6_placeFor_40 rfl ?_
      refine ww_if_lt (tgt := 53) K dX6_placeFor_41 rfl (fun c_41 => ?_) (fun c_41 => ?_)
      · refine ww_iconst (v := (-1)) K dX6_placeFor_53 rfl ?_
        exact ww_iret K dX6_placeFor_54 hr ⟨rfl, rfl⟩
      · refine ww_iload_n K dX6_placeFor_44 rfl ?_
        refine ww_iload_n K dX6_placeFor_45 rfl ?_
        refine ww_icmp_ge (tgt := 53) K dX6_placeFor_46 rfl (fun _ => ?_) (fun cc_ => absurd (Int32.not_lt.mp c_41) cc_)
        refine ww_iconst (v := (-1)) K dX6_placeFor_53 rfl ?_
        exact ww_iret K dX6_placeFor_54 hr ⟨rfl, rfl⟩
    · refine ww_iconst (v := (-1)) K dX6_placeFor_10 rfl ?_
      exact ww_iret K dX6_placeFor_11 hr ⟨rfl, rfl⟩
set_option maxRecDepth 100000 in
set_option maxHeartbeats 4000000 in
theorem ct_X5_republicKept_0 (G : EG) (l : Launch) {w : EW}  (h1 : w[1]? = some (cO 5 [eR (2), eI (0), eI (0), eI ((-1)), eR (3), eR (4), eR (5)])) (h4 : w[4]? = some (cQ 2 2 (va_up (va_up (fun _ => none) 0 (some 6)) 1 (some 14)))) : Ct G l yX5_republicKept cX5_republicKept 2 (some (.object "WindCabinet$Republic")) 0 0 0 [eR (1), eI (0)] w (fun r w2 => r = some (eR 6) ∧ w2 = w) := by
  refine Ct_of (by decide +kernel) (Nat.le_of_ble_eq_true rfl) ?_
  intro p_ e_ s_ m_ a_ b_ t_ c_ K0 hr hin
  have K : wc_C p_ s_ m_ a_ t_ c_ G RX5 cX5_republicKept 2 w.length := K0
  clear K0
  refine WW_ls (ls2 := [some (eR (1)), some (eI (0))]) rfl ?_
  have hS : wc_same [0] w w := wc_same.rf
  refine ww_iload_n K dX5_republicKept_0 rfl ?_
  refine ww_if_lt (tgt := 22) K dX5_republicKept_1 rfl (fun cc_ => absurd cc_ (by decide)) (fun _ => ?_)
  refine ww_iload_n K dX5_republicKept_4 rfl ?_
  refine ww_aload_n K dX5_republicKept_5 rfl ?_
  refine ww_get K dX5_republicKept_6 lf_X5_24 h1 rfl ?_
  refine ww_alenq K dX5_republicKept_9 h4 (by decide) ?_
  rw [show Int32.ofNat 2 = 2 from rfl]
  refine ww_icmp_ge (tgt := 22) K dX5_republicKept_10 rfl (fun cc_ => absurd cc_ (by decide)) (fun _ => ?_)
  refine ww_aload_n K dX5_republicKept_13 rfl ?_
  refine ww_get K dX5_republicKept_14 lf_X5_24 h1 rfl ?_
  refine ww_iload_n K dX5_republicKept_17 rfl ?_
  refine ww_aald2 K dX5_republicKept_18 h4 (wc_vin (by decide)) ?_
  refine ww_goto (tgt := 23) K dX5_republicKept_19 rfl ?_
  exact ww_aret K (Or.inl ⟨_, rfl⟩) dX5_republicKept_23 hr ⟨rfl, rfl⟩
set_option maxRecDepth 100000 in
set_option maxHeartbeats 4000000 in
theorem ct_X5_rowsKept_1 (G : EG) (l : Launch) {w : EW}  (h1 : w[1]? = some (cO 5 [eR (2), eI (0), eI (0), eI ((-1)), eR (3), eR (4), eR (5)])) (h5 : w[5]? = some (cQ 3 10 (va_up (va_up (va_up (va_up (va_up (va_up (va_up (va_up (va_up (va_up (fun _ => none) 0 (some 22)) 1 (some 24)) 2 (some 26)) 3 (some 28)) 4 (some 30)) 5 (some 32)) 6 (some 34)) 7 (some 36)) 8 (some 38)) 9 (some 40)))) : Ct G l yX5_rowsKept cX5_rowsKept 4 (some (.object "WindCabinet$Rows")) 0 0 0 [eR (1), eI (1), eI (0)] w (fun r w2 => r = some (eR 22) ∧ w2 = w) := by
  refine Ct_of (by decide +kernel) (Nat.le_of_ble_eq_true rfl) ?_
  intro p_ e_ s_ m_ a_ b_ t_ c_ K0 hr hin
  have K : wc_C p_ s_ m_ a_ t_ c_ G RX5 cX5_rowsKept 4 w.length := K0
  clear K0
  refine WW_ls (ls2 := [some (eR (1)), some (eI (1)), some (eI (0)), none]) rfl ?_
  have hS : wc_same [0] w w := wc_same.rf
  refine ww_iload_n K dX5_rowsKept_0 rfl ?_
  refine ww_iconst (v := 1) K dX5_rowsKept_1 rfl ?_
  refine ww_isub K dX5_rowsKept_2 ?_
  rw [show ((1 : Int32) - 1) = 0 from rfl]
  refine ww_iconst (v := 2) K dX5_rowsKept_3 rfl ?_
  refine ww_imul K dX5_rowsKept_4 ?_
  rw [show ((0 : Int32) * 2) = 0 from rfl]
  refine ww_iload_n K dX5_rowsKept_5 rfl ?_
  refine ww_iadd K dX5_rowsKept_6 ?_
  rw [show ((0 : Int32) + 0) = 0 from rfl]
  refine ww_istore_n (ls2 := [some (eR (1)), some (eI (1)), some (eI (0)), some (eI (0))]) K dX5_rowsKept_7 (by decide) rfl ?_
  refine ww_iload_n K dX5_rowsKept_8 rfl ?_
  refine ww_if_lt (tgt := 30) K dX5_rowsKept_9 rfl (fun cc_ => absurd cc_ (by decide)) (fun _ => ?_)
  refine ww_iload_n K dX5_rowsKept_12 rfl ?_
  refine ww_aload_n K dX5_rowsKept_13 rfl ?_
  refine ww_get K dX5_rowsKept_14 lf_X5_30 h1 rfl ?_
  refine ww_alenq K dX5_rowsKept_17 h5 (by decide) ?_
  rw [show Int32.ofNat 10 = 10 from rfl]
  refine ww_icmp_ge (tgt := 30) K dX5_rowsKept_18 rfl (fun cc_ => absurd cc_ (by decide)) (fun _ => ?_)
  refine ww_aload_n K dX5_rowsKept_21 rfl ?_
  refine ww_get K dX5_rowsKept_22 lf_X5_30 h1 rfl ?_
  refine ww_iload_n K dX5_rowsKept_25 rfl ?_
  refine ww_aald3 K dX5_rowsKept_26 h5 (wc_vin (by decide)) ?_
  refine ww_goto (tgt := 31) K dX5_rowsKept_27 rfl ?_
  exact ww_aret K (Or.inl ⟨_, rfl⟩) dX5_rowsKept_31 hr ⟨rfl, rfl⟩
set_option maxRecDepth 100000 in
set_option maxHeartbeats 4000000 in
theorem ct_X5_rowsKept_2 (G : EG) (l : Launch) {w : EW}  (h1 : w[1]? = some (cO 5 [eR (2), eI (0), eI (0), eI ((-1)), eR (3), eR (4), eR (5)])) (h5 : w[5]? = some (cQ 3 10 (va_up (va_up (va_up (va_up (va_up (va_up (va_up (va_up (va_up (va_up (fun _ => none) 0 (some 22)) 1 (some 24)) 2 (some 26)) 3 (some 28)) 4 (some 30)) 5 (some 32)) 6 (some 34)) 7 (some 36)) 8 (some 38)) 9 (some 40)))) : Ct G l yX5_rowsKept cX5_rowsKept 4 (some (.object "WindCabinet$Rows")) 0 0 0 [eR (1), eI (2), eI (0)] w (fun r w2 => r = some (eR 26) ∧ w2 = w) := by
  refine Ct_of (by decide +kernel) (Nat.le_of_ble_eq_true rfl) ?_
  intro p_ e_ s_ m_ a_ b_ t_ c_ K0 hr hin
  have K : wc_C p_ s_ m_ a_ t_ c_ G RX5 cX5_rowsKept 4 w.length := K0
  clear K0
  refine WW_ls (ls2 := [some (eR (1)), some (eI (2)), some (eI (0)), none]) rfl ?_
  have hS : wc_same [0] w w := wc_same.rf
  refine ww_iload_n K dX5_rowsKept_0 rfl ?_
  refine ww_iconst (v := 1) K dX5_rowsKept_1 rfl ?_
  refine ww_isub K dX5_rowsKept_2 ?_
  rw [show ((2 : Int32) - 1) = 1 from rfl]
  refine ww_iconst (v := 2) K dX5_rowsKept_3 rfl ?_
  refine ww_imul K dX5_rowsKept_4 ?_
  rw [show ((1 : Int32) * 2) = 2 from rfl]
  refine ww_iload_n K dX5_rowsKept_5 rfl ?_
  refine ww_iadd K dX5_rowsKept_6 ?_
  rw [show ((2 : Int32) + 0) = 2 from rfl]
  refine ww_istore_n (ls2 := [some (eR (1)), some (eI (2)), some (eI (0)), some (eI (2))]) K dX5_rowsKept_7 (by decide) rfl ?_
  refine ww_iload_n K dX5_rowsKept_8 rfl ?_
  refine ww_if_lt (tgt := 30) K dX5_rowsKept_9 rfl (fun cc_ => absurd cc_ (by decide)) (fun _ => ?_)
  refine ww_iload_n K dX5_rowsKept_12 rfl ?_
  refine ww_aload_n K dX5_rowsKept_13 rfl ?_
  refine ww_get K dX5_rowsKept_14 lf_X5_30 h1 rfl ?_
  refine ww_alenq K dX5_rowsKept_17 h5 (by decide) ?_
  rw [show Int32.ofNat 10 = 10 from rfl]
  refine ww_icmp_ge (tgt := 30) K dX5_rowsKept_18 rfl (fun cc_ => absurd cc_ (by decide)) (fun _ => ?_)
  refine ww_aload_n K dX5_rowsKept_21 rfl ?_
  refine ww_get K dX5_rowsKept_22 lf_X5_30 h1 rfl ?_
  refine ww_iload_n K dX5_rowsKept_25 rfl ?_
  refine ww_aald3 K dX5_rowsKept_26 h5 (wc_vin (by decide)) ?_
  refine ww_goto (tgt := 31) K dX5_rowsKept_27 rfl ?_
  exact ww_aret K (Or.inl ⟨_, rfl⟩) dX5_rowsKept_31 hr ⟨rfl, rfl⟩
set_option maxRecDepth 100000 in
set_option maxHeartbeats 4000000 in
theorem ct_X5_rowsKept_3 (G : EG) (l : Launch) {w : EW}  (h1 : w[1]? = some (cO 5 [eR (2), eI (0), eI (0), eI ((-1)), eR (3), eR (4), eR (5)])) (h5 : w[5]? = some (cQ 3 10 (va_up (va_up (va_up (va_up (va_up (va_up (va_up (va_up (va_up (va_up (fun _ => none) 0 (some 22)) 1 (some 24)) 2 (some 26)) 3 (some 28)) 4 (some 30)) 5 (some 32)) 6 (some 34)) 7 (some 36)) 8 (some 38)) 9 (some 40)))) : Ct G l yX5_rowsKept cX5_rowsKept 4 (some (.object "WindCabinet$Rows")) 0 0 0 [eR (1), eI (3), eI (0)] w (fun r w2 => r = some (eR 30) ∧ w2 = w) := by
  refine Ct_of (by decide +kernel) (Nat.le_of_ble_eq_true rfl) ?_
  intro p_ e_ s_ m_ a_ b_ t_ c_ K0 hr hin
  have K : wc_C p_ s_ m_ a_ t_ c_ G RX5 cX5_rowsKept 4 w.length := K0
  clear K0
  refine WW_ls (ls2 := [some (eR (1)), some (eI (3)), some (eI (0)), none]) rfl ?_
  have hS : wc_same [0] w w := wc_same.rf
  refine ww_iload_n K dX5_rowsKept_0 rfl ?_
  refine ww_iconst (v := 1) K dX5_rowsKept_1 rfl ?_
  refine ww_isub K dX5_rowsKept_2 ?_
  rw [show ((3 : Int32) - 1) = 2 from rfl]
  refine ww_iconst (v := 2) K dX5_rowsKept_3 rfl ?_
  refine ww_imul K dX5_rowsKept_4 ?_
  rw [show ((2 : Int32) * 2) = 4 from rfl]
  refine ww_iload_n K dX5_rowsKept_5 rfl ?_
  refine ww_iadd K dX5_rowsKept_6 ?_
  rw [show ((4 : Int32) + 0) = 4 from rfl]
  refine ww_istore_n (ls2 := [some (eR (1)), some (eI (3)), some (eI (0)), some (eI (4))]) K dX5_rowsKept_7 (by decide) rfl ?_
  refine ww_iload_n K dX5_rowsKept_8 rfl ?_
  refine ww_if_lt (tgt := 30) K dX5_rowsKept_9 rfl (fun cc_ => absurd cc_ (by decide)) (fun _ => ?_)
  refine ww_iload_n K dX5_rowsKept_12 rfl ?_
  refine ww_aload_n K dX5_rowsKept_13 rfl ?_
  refine ww_get K dX5_rowsKept_14 lf_X5_30 h1 rfl ?_
  refine ww_alenq K dX5_rowsKept_17 h5 (by decide) ?_
  rw [show Int32.ofNat 10 = 10 from rfl]
  refine ww_icmp_ge (tgt := 30) K dX5_rowsKept_18 rfl (fun cc_ => absurd cc_ (by decide)) (fun _ => ?_)
  refine ww_aload_n K dX5_rowsKept_21 rfl ?_
  refine ww_get K dX5_rowsKept_22 lf_X5_30 h1 rfl ?_
  refine ww_iload_n K dX5_rowsKept_25 rfl ?_
  refine ww_aald3 K dX5_rowsKept_26 h5 (wc_vin (by decide)) ?_
  refine ww_goto (tgt := 31) K dX5_rowsKept_27 rfl ?_
  exact ww_aret K (Or.inl ⟨_, rfl⟩) dX5_rowsKept_31 hr ⟨rfl, rfl⟩
set_option maxRecDepth 100000 in
set_option maxHeartbeats 4000000 in
theorem ct_X5_rowsKept_4 (G : EG) (l : Launch) {w : EW}  (h1 : w[1]? = some (cO 5 [eR (2), eI (0), eI (0), eI ((-1)), eR (3), eR (4), eR (5)])) (h5 : w[5]? = some (cQ 3 10 (va_up (va_up (va_up (va_up (va_up (va_up (va_up (va_up (va_up (va_up (fun _ => none) 0 (some 22)) 1 (some 24)) 2 (some 26)) 3 (some 28)) 4 (some 30)) 5 (some 32)) 6 (some 34)) 7 (some 36)) 8 (some 38)) 9 (some 40)))) : Ct G l yX5_rowsKept cX5_rowsKept 4 (some (.object "WindCabinet$Rows")) 0 0 0 [eR (1), eI (4), eI (0)] w (fun r w2 => r = some (eR 34) ∧ w2 = w) := by
  refine Ct_of (by decide +kernel) (Nat.le_of_ble_eq_true rfl) ?_
  intro p_ e_ s_ m_ a_ b_ t_ c_ K0 hr hin
  have K : wc_C p_ s_ m_ a_ t_ c_ G RX5 cX5_rowsKept 4 w.length := K0
  clear K0
  refine WW_ls (ls2 := [some (eR (1)), some (eI (4)), some (eI (0)), none]) rfl ?_
  have hS : wc_same [0] w w := wc_same.rf
  refine ww_iload_n K dX5_rowsKept_0 rfl ?_
  refine ww_iconst (v := 1) K dX5_rowsKept_1 rfl ?_
  refine ww_isub K dX5_rowsKept_2 ?_
  rw [show ((4 : Int32) - 1) = 3 from rfl]
  refine ww_iconst (v := 2) K dX5_rowsKept_3 rfl ?_
  refine ww_imul K dX5_rowsKept_4 ?_
  rw [show ((3 : Int32) * 2) = 6 from rfl]
  refine ww_iload_n K dX5_rowsKept_5 rfl ?_
  refine ww_iadd K dX5_rowsKept_6 ?_
  rw [show ((6 : Int32) + 0) = 6 from rfl]
  refine ww_istore_n (ls2 := [some (eR (1)), some (eI (4)), some (eI (0)), some (eI (6))]) K dX5_rowsKept_7 (by decide) rfl ?_
  refine ww_iload_n K dX5_rowsKept_8 rfl ?_
  refine ww_if_lt (tgt := 30) K dX5_rowsKept_9 rfl (fun cc_ => absurd cc_ (by decide)) (fun _ => ?_)
  refine ww_iload_n K dX5_rowsKept_12 rfl ?_
  refine ww_aload_n K dX5_rowsKept_13 rfl ?_
  refine ww_get K dX5_rowsKept_14 lf_X5_30 h1 rfl ?_
  refine ww_alenq K dX5_rowsKept_17 h5 (by decide) ?_
  rw [show Int32.ofNat 10 = 10 from rfl]
  refine ww_icmp_ge (tgt := 30) K dX5_rowsKept_18 rfl (fun cc_ => absurd cc_ (by decide)) (fun _ => ?_)
  refine ww_aload_n K dX5_rowsKept_21 rfl ?_
  refine ww_get K dX5_rowsKept_22 lf_X5_30 h1 rfl ?_
  refine ww_iload_n K dX5_rowsKept_25 rfl ?_
  refine ww_aald3 K dX5_rowsKept_26 h5 (wc_vin (by decide)) ?_
  refine ww_goto (tgt := 31) K dX5_rowsKept_27 rfl ?_
  exact ww_aret K (Or.inl ⟨_, rfl⟩) dX5_rowsKept_31 hr ⟨rfl, rfl⟩
set_option maxRecDepth 100000 in
set_option maxHeartbeats 4000000 in
theorem ct_X5_rowsKept_5 (G : EG) (l : Launch) {w : EW}  (h1 : w[1]? = some (cO 5 [eR (2), eI (0), eI (0), eI ((-1)), eR (3), eR (4), eR (5)])) (h5 : w[5]? = some (cQ 3 10 (va_up (va_up (va_up (va_up (va_up (va_up (va_up (va_up (va_up (va_up (fun _ => none) 0 (some 22)) 1 (some 24)) 2 (some 26)) 3 (some 28)) 4 (some 30)) 5 (some 32)) 6 (some 34)) 7 (some 36)) 8 (some 38)) 9 (some 40)))) : Ct G l yX5_rowsKept cX5_rowsKept 4 (some (.object "WindCabinet$Rows")) 0 0 0 [eR (1), eI (5), eI (0)] w (fun r w2 => r = some (eR 38) ∧ w2 = w) := by
  refine Ct_of (by decide +kernel) (Nat.le_of_ble_eq_true rfl) ?_
  intro p_ e_ s_ m_ a_ b_ t_ c_ K0 hr hin
  have K : wc_C p_ s_ m_ a_ t_ c_ G RX5 cX5_rowsKept 4 w.length := K0
  clear K0
  refine WW_ls (ls2 := [some (eR (1)), some (eI (5)), some (eI (0)), none]) rfl ?_
  have hS : wc_same [0] w w := wc_same.rf
  refine ww_iload_n K dX5_rowsKept_0 rfl ?_
  refine ww_iconst (v := 1) K dX5_rowsKept_1 rfl ?_
  refine ww_isub K dX5_rowsKept_2 ?_
  rw [show ((5 : Int32) - 1) = 4 from rfl]
  refine ww_iconst (v := 2) K dX5_rowsKept_3 rfl ?_
  refine ww_imul K dX5_rowsKept_4 ?_
  rw [show ((4 : Int32) * 2) = 8 from rfl]
  refine ww_iload_n K dX5_rowsKept_5 rfl ?_
  refine ww_iadd K dX5_rowsKept_6 ?_
  rw [show ((8 : Int32) + 0) = 8 from rfl]
  refine ww_istore_n (ls2 := [some (eR (1)), some (eI (5)), some (eI (0)), some (eI (8))]) K dX5_rowsKept_7 (by decide) rfl ?_
  refine ww_iload_n K dX5_rowsKept_8 rfl ?_
  refine ww_if_lt (tgt := 30) K dX5_rowsKept_9 rfl (fun cc_ => absurd cc_ (by decide)) (fun _ => ?_)
  refine ww_iload_n K dX5_rowsKept_12 rfl ?_
  refine ww_aload_n K dX5_rowsKept_13 rfl ?_
  refine ww_get K dX5_rowsKept_14 lf_X5_30 h1 rfl ?_
  refine ww_alenq K dX5_rowsKept_17 h5 (by decide) ?_
  rw [show Int32.ofNat 10 = 10 from rfl]
  refine ww_icmp_ge (tgt := 30) K dX5_rowsKept_18 rfl (fun cc_ => absurd cc_ (by decide)) (fun _ => ?_)
  refine ww_aload_n K dX5_rowsKept_21 rfl ?_
  refine ww_get K dX5_rowsKept_22 lf_X5_30 h1 rfl ?_
  refine ww_iload_n K dX5_rowsKept_25 rfl ?_
  refine ww_aald3 K dX5_rowsKept_26 h5 (wc_vin (by decide)) ?_
  refine ww_goto (tgt := 31) K dX5_rowsKept_27 rfl ?_
  exact ww_aret K (Or.inl ⟨_, rfl⟩) dX5_rowsKept_31 hr ⟨rfl, rfl⟩
set_option maxRecDepth 100000 in
set_option maxHeartbeats 4000000 in
theorem ct_X6_keep_0 (G : EG) (l : Launch) {w : EW} {cnt : Nat → Int32} (hz : ∀ k, k < 6 → cnt k = 0) {e1 e2 e3 e4 e5 e6 e7 : Int32} {k1 k2 k3 k4 k5 k6 k7 : Nat → Int32} {g1 g2 g3 g4 g5 g6 g7 : Nat → Int32} (h0 : w[0]? = some (cO 6 [eR (1), eR (42), eR (43), eR (56), eR (60), eR (61), eR (62), eR (63)])) (h1 : w[1]? = some (cO 5 [eR (2), eI (0), eI (0), eI ((-1)), eR (3), eR (4), eR (5)])) (h3 : w[3]? = some (cI 0 6 cnt)) (h43 : w[43]? = some (cO 1 [eR (44), eR (52), eI (0), eI ((-1)), eR (54), eR (55), eI (0), eI (0), eI (0), eI (0), eI (0), eI (0)])) (h4 : w[4]? = some (cQ 2 2 (va_up (va_up (fun _ => none) 0 (some 6)) 1 (some 14)))) (h6 : w[6]? = some (cO 2 [eI (e1), eR (7), eR (8), eR (9), eR (10), eR (11), eR (12), eR (13), eI (e2), eI (e3), eI (e4), eI (e5), eI (e6), eI (e7)])) (h7 : w[7]? = some (cI 0 6 k1)) (h8 : w[8]? = some (cI 0 6 k2)) (h9 : w[9]? = some (cI 0 6 k3)) (h10 : w[10]? = some (cI 0 6 k4)) (h11 : w[11]? = some (cI 0 72 k5)) (h12 : w[12]? = some (cI 0 6 k6)) (h13 : w[13]? = some (cI 0 3 k7)) (h44 : w[44]? = some (cO 2 [eI (0), eR (45), eR (46), eR (47), eR (48), eR (49), eR (50), eR (51), eI (0), eI (10), eI (2), eI (50), eI (50), eI (20)])) (h45 : w[45]? = some (cI 0 6 g1)) (h46 : w[46]? = some (cI 0 6 g2)) (h47 : w[47]? = some (cI 0 6 g3)) (h48 : w[48]? = some (cI 0 6 g4)) (h49 : w[49]? = some (cI 0 72 g5)) (h50 : w[50]? = some (cI 0 6 g6)) (h51 : w[51]? = some (cI 0 3 g7)) : Ct G l yX6_keep cX6_keep 4 none 3 0 0 [eR (0), eI (0), eI (0)] w (fun r w2 => r = none ∧ wc_same [3, 6, 7, 8, 9, 10, 11, 12, 13] w w2) := by
  refine Ct_of (by decide +kernel) (Nat.le_of_ble_eq_true rfl) ?_
  intro p_ e_ s_ m_ a_ b_ t_ c_ K0 hr hin
  have K : wc_C p_ s_ m_ a_ t_ c_ G RX6 cX6_keep 4 w.length := K0
  clear K0
  refine WW_ls (ls2 := [some (eR (0)), some (eI (0)), some (eI (0)), none]) rfl ?_
  have hS : wc_same [3, 6, 7, 8, 9, 10, 11, 12, 13] w w := wc_same.rf
  refine ww_iload_n K dX6_keep_0 rfl ?_
  refine ww_if_ne (tgt := 31) K dX6_keep_1 rfl (fun cc_ => absurd cc_ (by decide)) (fun _ => ?_)
  refine ww_aload_n K dX6_keep_4 rfl ?_
  refine ww_get K dX6_keep_5 lf_X6_10 h0 rfl ?_
  refine ww_iload_n K dX6_keep_8 rfl ?_
  refine ww_cV K dX6_keep_9 lc_X6_92 h1 ⟨_, rfl, rfl⟩ (ct_X5_republicKept_0 G l h1 h4) rfl ⟨Nat.le_of_ble_eq_true rfl, Nat.le_of_ble_eq_true rfl⟩ (Nat.le_of_ble_eq_true rfl) ?_
  refine ww_astore_n (ls2 := [some (eR (0)), some (eI (0)), some (eI (0)), some (eR (6))]) K dX6_keep_12 (by decide) rfl ?_
  refine ww_aload_n K dX6_keep_13 rfl ?_
  refine ww_ifnull K dX6_keep_14 ?_
  refine ww_aload_n K dX6_keep_17 rfl ?_
  refine ww_aload_n K dX6_keep_18 rfl ?_
  refine ww_get K dX6_keep_19 lf_X6_23 h0 rfl ?_
  refine ww_get K dX6_keep_22 lf_X6_96 h43 rfl ?_
  refine ww_xVv K dX6_keep_25 lc_X6_100 h6 ⟨_, rfl, rfl⟩ (ct_X2_copyRepublic_6_44 G l h6 h7 h8 h9 h10 h11 h12 h13 h44 h45 h46 h47 h48 h49 h50 h51) rfl ⟨Nat.le_of_ble_eq_true rfl, Nat.le_of_ble_eq_true rfl⟩ (Nat.le_of_ble_eq_true rfl) (fun w1 hq hln_w1 => ?_)
  have hsm := hq
  have h0 := hsm.keep h0 (by decide)
  have h1 := hsm.keep h1 (by decide)
  have h3 := hsm.keep h3 (by decide)
  have h43 := hsm.keep h43 (by decide)
  have h4 := hsm.keep h4 (by decide)
  have h44 := hsm.keep h44 (by decide)
  have h45 := hsm.keep h45 (by decide)
  have h46 := hsm.keep h46 (by decide)
  have h47 := hsm.keep h47 (by decide)
  have h48 := hsm.keep h48 (by decide)
  have h49 := hsm.keep h49 (by decide)
  have h50 := hsm.keep h50 (by decide)
  have h51 := hsm.keep h51 (by decide)
  have hS := hS.call hsm (by decide)
  refine ww_goto (tgt := 56) K dX6_keep_28 rfl ?_
  refine ww_aload_n K dX6_keep_56 rfl ?_
  refine ww_get K dX6_keep_57 lf_X6_10 h0 rfl ?_
  refine ww_get K dX6_keep_60 lf_X6_85 h1 rfl ?_
  refine ww_iload_n K dX6_keep_63 rfl ?_
  refine ww_aload_n K dX6_keep_64 rfl ?_
  refine ww_get K dX6_keep_65 lf_X6_10 h0 rfl ?_
  refine ww_get K dX6_keep_68 lf_X6_85 h1 rfl ?_
  refine ww_iload_n K dX6_keep_71 rfl ?_
  refine ww_cS K dX6_keep_72 lc_X6_88 (ct_X6_cell G l h3 (by decide) (i := 0) (wc_vin (by decide))) rfl ⟨Nat.le_of_ble_eq_true rfl, Nat.le_of_ble_eq_true rfl⟩ (Nat.le_of_ble_eq_true rfl) ?_
  rw [show cnt (0 : Int32).toNatClampNeg = 0 from hz 0 (by decide)]
  refine ww_iload_n K dX6_keep_75 rfl ?_
  refine ww_iconst (v := 1) K dX6_keep_76 rfl ?_
  refine ww_iadd K dX6_keep_77 ?_
  rw [show ((0 : Int32) + 1) = 1 from rfl]
  refine ww_mmax K dX6_keep_78 lm_X6_120 ⟨Nat.le_of_ble_eq_true rfl, Nat.le_of_ble_eq_true rfl⟩ ?_
  refine ww_xSv K dX6_keep_81 lc_X6_62 (ct_X6_put G l h3 (by decide) (i := 0) (x := (if 0 < 1 then 1 else 0)) (wc_vin (by decide))) rfl ⟨Nat.le_of_ble_eq_true rfl, Nat.le_of_ble_eq_true rfl⟩ (Nat.le_of_ble_eq_true rfl) (fun w2 hq hln_w2 => ?_)
  obtain ⟨h3, hsm⟩ := hq
  have h0 := hsm.keep h0 (by decide)
  have h1 := hsm.keep h1 (by decide)
  have h43 := hsm.keep h43 (by decide)
  have h4 := hsm.keep h4 (by decide)
  have h44 := hsm.keep h44 (by decide)
  have h45 := hsm.keep h45 (by decide)
  have h46 := hsm.keep h46 (by decide)
  have h47 := hsm.keep h47 (by decide)
  have h48 := hsm.keep h48 (by decide)
  have h49 := hsm.keep h49 (by decide)
  have h50 := hsm.keep h50 (by decide)
  have h51 := hsm.keep h51 (by decide)
  have hS := hS.call hsm (by decide)
  exact ww_vret K dX6_keep_84 hr ⟨rfl, hS⟩
set_option maxRecDepth 100000 in
set_option maxHeartbeats 4000000 in
theorem ct_X6_keep_1 (G : EG) (l : Launch) {w : EW} {cnt : Nat → Int32} (hz : ∀ k, k < 6 → cnt k = 0) {a1 : Int32} {f1 g1 : Nat → Int32} (h0 : w[0]? = some (cO 6 [eR (1), eR (42), eR (43), eR (56), eR (60), eR (61), eR (62), eR (63)])) (h1 : w[1]? = some (cO 5 [eR (2), eI (0), eI (0), eI ((-1)), eR (3), eR (4), eR (5)])) (h3 : w[3]? = some (cI 0 6 cnt)) (h43 : w[43]? = some (cO 1 [eR (44), eR (52), eI (0), eI ((-1)), eR (54), eR (55), eI (0), eI (0), eI (0), eI (0), eI (0), eI (0)])) (h5 : w[5]? = some (cQ 3 10 (va_up (va_up (va_up (va_up (va_up (va_up (va_up (va_up (va_up (va_up (fun _ => none) 0 (some 22)) 1 (some 24)) 2 (some 26)) 3 (some 28)) 4 (some 30)) 5 (some 32)) 6 (some 34)) 7 (some 36)) 8 (some 38)) 9 (some 40)))) (h22 : w[22]? = some (cO 3 [eI (a1), eR (23)])) (h23 : w[23]? = some (cI 0 200 f1)) (h52 : w[52]? = some (cO 3 [eI (0), eR (53)])) (h53 : w[53]? = some (cI 0 200 g1)) : Ct G l yX6_keep cX6_keep 4 none 3 0 0 [eR (0), eI (1), eI (0)] w (fun r w2 => r = none ∧ wc_same [3, 22, 23] w w2) := by
  refine Ct_of (by decide +kernel) (Nat.le_of_ble_eq_true rfl) ?_
  intro p_ e_ s_ m_ a_ b_ t_ c_ K0 hr hin
  have K : wc_C p_ s_ m_ a_ t_ c_ G RX6 cX6_keep 4 w.length := K0
  clear K0
  refine WW_ls (ls2 := [some (eR (0)), some (eI (1)), some (eI (0)), none]) rfl ?_
  have hS : wc_same [3, 22, 23] w w := wc_same.rf
  refine ww_iload_n K dX6_keep_0 rfl ?_
  refine ww_if_ne (tgt := 31) K dX6_keep_1 rfl (fun _ => ?_) (fun cc_ => absurd cc_ (by decide))
  refine ww_aload_n K dX6_keep_31 rfl ?_
  refine ww_get K dX6_keep_32 lf_X6_10 h0 rfl ?_
  refine ww_iload_n K dX6_keep_35 rfl ?_
  refine ww_iload_n K dX6_keep_36 rfl ?_
  refine ww_cV K dX6_keep_37 lc_X6_106 h1 ⟨_, rfl, rfl⟩ (ct_X5_rowsKept_1 G l h1 h5) rfl ⟨Nat.le_of_ble_eq_true rfl, Nat.le_of_ble_eq_true rfl⟩ (Nat.le_of_ble_eq_true rfl) ?_
  refine ww_astore_n (ls2 := [some (eR (0)), some (eI (1)), some (eI (0)), some (eR (22))]) K dX6_keep_40 (by decide) rfl ?_
  refine ww_aload_n K dX6_keep_41 rfl ?_
  refine ww_ifnull K dX6_keep_42 ?_
  refine ww_aload_n K dX6_keep_45 rfl ?_
  refine ww_aload_n K dX6_keep_46 rfl ?_
  refine ww_get K dX6_keep_47 lf_X6_23 h0 rfl ?_
  refine ww_get K dX6_keep_50 lf_X6_110 h43 rfl ?_
  refine ww_xVv K dX6_keep_53 lc_X6_114 h22 ⟨_, rfl, rfl⟩ (ct_X3_copyRows_22_52 G l h22 h23 h52 h53) rfl ⟨Nat.le_of_ble_eq_true rfl, Nat.le_of_ble_eq_true rfl⟩ (Nat.le_of_ble_eq_true rfl) (fun w1 hq hln_w1 => ?_)
  have hsm := hq
  have h0 := hsm.keep h0 (by decide)
  have h1 := hsm.keep h1 (by decide)
  have h3 := hsm.keep h3 (by decide)
  have h43 := hsm.keep h43 (by decide)
  have h5 := hsm.keep h5 (by decide)
  have h52 := hsm.keep h52 (by decide)
  have h53 := hsm.keep h53 (by decide)
  have hS := hS.call hsm (by decide)
  refine ww_aload_n K dX6_keep_56 rfl ?_
  refine ww_get K dX6_keep_57 lf_X6_10 h0 rfl ?_
  refine ww_get K dX6_keep_60 lf_X6_85 h1 rfl ?_
  refine ww_iload_n K dX6_keep_63 rfl ?_
  refine ww_aload_n K dX6_keep_64 rfl ?_
  refine ww_get K dX6_keep_65 lf_X6_10 h0 rfl ?_
  refine ww_get K dX6_keep_68 lf_X6_85 h1 rfl ?_
  refine ww_iload_n K dX6_keep_71 rfl ?_
  refine ww_cS K dX6_keep_72 lc_X6_88 (ct_X6_cell G l h3 (by decide) (i := 1) (wc_vin (by decide))) rfl ⟨Nat.le_of_ble_eq_true rfl, Nat.le_of_ble_eq_true rfl⟩ (Nat.le_of_ble_eq_true rfl) ?_
  rw [show cnt (1 : Int32).toNatClampNeg = 0 from hz 1 (by decide)]
  refine ww_iload_n K dX6_keep_75 rfl ?_
  refine ww_iconst (v := 1) K dX6_keep_76 rfl ?_
  refine ww_iadd K dX6_keep_77 ?_
  rw [show ((0 : Int32) + 1) = 1 from rfl]
  refine ww_mmax K dX6_keep_78 lm_X6_120 ⟨Nat.le_of_ble_eq_true rfl, Nat.le_of_ble_eq_true rfl⟩ ?_
  refine ww_xSv K dX6_keep_81 lc_X6_62 (ct_X6_put G l h3 (by decide) (i := 1) (x := (if 0 < 1 then 1 else 0)) (wc_vin (by decide))) rfl ⟨Nat.le_of_ble_eq_true rfl, Nat.le_of_ble_eq_true rfl⟩ (Nat.le_of_ble_eq_true rfl) (fun w2 hq hln_w2 => ?_)
  obtain ⟨h3, hsm⟩ := hq
  have h0 := hsm.keep h0 (by decide)
  have h1 := hsm.keep h1 (by decide)
  have h43 := hsm.keep h43 (by decide)
  have h5 := hsm.keep h5 (by decide)
  have h52 := hsm.keep h52 (by decide)
  have h53 := hsm.keep h53 (by decide)
  have hS := hS.call hsm (by decide)
  exact ww_vret K dX6_keep_84 hr ⟨rfl, hS⟩
set_option maxRecDepth 100000 in
set_option maxHeartbeats 4000000 in
theorem ct_X6_keep_2 (G : EG) (l : Launch) {w : EW} {cnt : Nat → Int32} (hz : ∀ k, k < 6 → cnt k = 0) {a1 : Int32} {f1 g1 : Nat → Int32} (h0 : w[0]? = some (cO 6 [eR (1), eR (42), eR (43), eR (56), eR (60), eR (61), eR (62), eR (63)])) (h1 : w[1]? = some (cO 5 [eR (2), eI (0), eI (0), eI ((-1)), eR (3), eR (4), eR (5)])) (h3 : w[3]? = some (cI 0 6 cnt)) (h43 : w[43]? = some (cO 1 [eR (44), eR (52), eI (0), eI ((-1)), eR (54), eR (55), eI (0), eI (0), eI (0), eI (0), eI (0), eI (0)])) (h5 : w[5]? = some (cQ 3 10 (va_up (va_up (va_up (va_up (va_up (va_up (va_up (va_up (va_up (va_up (fun _ => none) 0 (some 22)) 1 (some 24)) 2 (some 26)) 3 (some 28)) 4 (some 30)) 5 (some 32)) 6 (some 34)) 7 (some 36)) 8 (some 38)) 9 (some 40)))) (h26 : w[26]? = some (cO 3 [eI (a1), eR (27)])) (h27 : w[27]? = some (cI 0 200 f1)) (h52 : w[52]? = some (cO 3 [eI (0), eR (53)])) (h53 : w[53]? = some (cI 0 200 g1)) : Ct G l yX6_keep cX6_keep 4 none 3 0 0 [eR (0), eI (2), eI (0)] w (fun r w2 => r = none ∧ wc_same [3, 26, 27] w w2) := by
  refine Ct_of (by decide +kernel) (Nat.le_of_ble_eq_true rfl) ?_
  intro p_ e_ s_ m_ a_ b_ t_ c_ K0 hr hin
  have K : wc_C p_ s_ m_ a_ t_ c_ G RX6 cX6_keep 4 w.length := K0
  clear K0
  refine WW_ls (ls2 := [some (eR (0)), some (eI (2)), some (eI (0)), none]) rfl ?_
  have hS : wc_same [3, 26, 27] w w := wc_same.rf
  refine ww_iload_n K dX6_keep_0 rfl ?_
  refine ww_if_ne (tgt := 31) K dX6_keep_1 rfl (fun _ => ?_) (fun cc_ => absurd cc_ (by decide))
  refine ww_aload_n K dX6_keep_31 rfl ?_
  refine ww_get K dX6_keep_32 lf_X6_10 h0 rfl ?_
  refine ww_iload_n K dX6_keep_35 rfl ?_
  refine ww_iload_n K dX6_keep_36 rfl ?_
  refine ww_cV K dX6_keep_37 lc_X6_106 h1 ⟨_, rfl, rfl⟩ (ct_X5_rowsKept_2 G l h1 h5) rfl ⟨Nat.le_of_ble_eq_true rfl, Nat.le_of_ble_eq_true rfl⟩ (Nat.le_of_ble_eq_true rfl) ?_
  refine ww_astore_n (ls2 := [some (eR (0)), some (eI (2)), some (eI (0)), some (eR (26))]) K dX6_keep_40 (by decide) rfl ?_
  refine ww_aload_n K dX6_keep_41 rfl ?_
  refine ww_ifnull K dX6_keep_42 ?_
  refine ww_aload_n K dX6_keep_45 rfl ?_
  refine ww_aload_n K dX6_keep_46 rfl ?_
  refine ww_get K dX6_keep_47 lf_X6_23 h0 rfl ?_
  refine ww_get K dX6_keep_50 lf_X6_110 h43 rfl ?_
  refine ww_xVv K dX6_keep_53 lc_X6_114 h26 ⟨_, rfl, rfl⟩ (ct_X3_copyRows_26_52 G l h26 h27 h52 h53) rfl ⟨Nat.le_of_ble_eq_true rfl, Nat.le_of_ble_eq_true rfl⟩ (Nat.le_of_ble_eq_true rfl) (fun w1 hq hln_w1 => ?_)
  have hsm := hq
  have h0 := hsm.keep h0 (by decide)
  have h1 := hsm.keep h1 (by decide)
  have h3 := hsm.keep h3 (by decide)
  have h43 := hsm.keep h43 (by decide)
  have h5 := hsm.keep h5 (by decide)
  have h52 := hsm.keep h52 (by decide)
  have h53 := hsm.keep h53 (by decide)
  have hS := hS.call hsm (by decide)
  refine ww_aload_n K dX6_keep_56 rfl ?_
  refine ww_get K dX6_keep_57 lf_X6_10 h0 rfl ?_
  refine ww_get K dX6_keep_60 lf_X6_85 h1 rfl ?_
  refine ww_iload_n K dX6_keep_63 rfl ?_
  refine ww_aload_n K dX6_keep_64 rfl ?_
  refine ww_get K dX6_keep_65 lf_X6_10 h0 rfl ?_
  refine ww_get K dX6_keep_68 lf_X6_85 h1 rfl ?_
  refine ww_iload_n K dX6_keep_71 rfl ?_
  refine ww_cS K dX6_keep_72 lc_X6_88 (ct_X6_cell G l h3 (by decide) (i := 2) (wc_vin (by decide))) rfl ⟨Nat.le_of_ble_eq_true rfl, Nat.le_of_ble_eq_true rfl⟩ (Nat.le_of_ble_eq_true rfl) ?_
  rw [show cnt (2 : Int32).toNatClampNeg = 0 from hz 2 (by decide)]
  refine ww_iload_n K dX6_keep_75 rfl ?_
  refine ww_iconst (v := 1) K dX6_keep_76 rfl ?_
  refine ww_iadd K dX6_keep_77 ?_
  rw [show ((0 : Int32) + 1) = 1 from rfl]
  refine ww_mmax K dX6_keep_78 lm_X6_120 ⟨Nat.le_of_ble_eq_true rfl, Nat.le_of_ble_eq_true rfl⟩ ?_
  refine ww_xSv K dX6_keep_81 lc_X6_62 (ct_X6_put G l h3 (by decide) (i := 2) (x := (if 0 < 1 then 1 else 0)) (wc_vin (by decide))) rfl ⟨Nat.le_of_ble_eq_true rfl, Nat.le_of_ble_eq_true rfl⟩ (Nat.le_of_ble_eq_true rfl) (fun w2 hq hln_w2 => ?_)
  obtain ⟨h3, hsm⟩ := hq
  have h0 := hsm.keep h0 (by decide)
  have h1 := hsm.keep h1 (by decide)
  have h43 := hsm.keep h43 (by decide)
  have h5 := hsm.keep h5 (by decide)
  have h52 := hsm.keep h52 (by decide)
  have h53 := hsm.keep h53 (by decide)
  have hS := hS.call hsm (by decide)
  exact ww_vret K dX6_keep_84 hr ⟨rfl, hS⟩
set_option maxRecDepth 100000 in
set_option maxHeartbeats 4000000 in
theorem ct_X6_keep_3 (G : EG) (l : Launch) {w : EW} {cnt : Nat → Int32} (hz : ∀ k, k < 6 → cnt k = 0) {a1 : Int32} {f1 g1 : Nat → Int32} (h0 : w[0]? = some (cO 6 [eR (1), eR (42), eR (43), eR (56), eR (60), eR (61), eR (62), eR (63)])) (h1 : w[1]? = some (cO 5 [eR (2), eI (0), eI (0), eI ((-1)), eR (3), eR (4), eR (5)])) (h3 : w[3]? = some (cI 0 6 cnt)) (h43 : w[43]? = some (cO 1 [eR (44), eR (52), eI (0), eI ((-1)), eR (54), eR (55), eI (0), eI (0), eI (0), eI (0), eI (0), eI (0)])) (h5 : w[5]? = some (cQ 3 10 (va_up (va_up (va_up (va_up (va_up (va_up (va_up (va_up (va_up (va_up (fun _ => none) 0 (some 22)) 1 (some 24)) 2 (some 26)) 3 (some 28)) 4 (some 30)) 5 (some 32)) 6 (some 34)) 7 (some 36)) 8 (some 38)) 9 (some 40)))) (h30 : w[30]? = some (cO 3 [eI (a1), eR (31)])) (h31 : w[31]? = some (cI 0 200 f1)) (h52 : w[52]? = some (cO 3 [eI (0), eR (53)])) (h53 : w[53]? = some (cI 0 200 g1)) : Ct G l yX6_keep cX6_keep 4 none 3 0 0 [eR (0), eI (3), eI (0)] w (fun r w2 => r = none ∧ wc_same [3, 30, 31] w w2) := by
  refine Ct_of (by decide +kernel) (Nat.le_of_ble_eq_true rfl) ?_
  intro p_ e_ s_ m_ a_ b_ t_ c_ K0 hr hin
  have K : wc_C p_ s_ m_ a_ t_ c_ G RX6 cX6_keep 4 w.length := K0
  clear K0
  refine WW_ls (ls2 := [some (eR (0)), some (eI (3)), some (eI (0)), none]) rfl ?_
  have hS : wc_same [3, 30, 31] w w := wc_same.rf
  refine ww_iload_n K dX6_keep_0 rfl ?_
  refine ww_if_ne (tgt := 31) K dX6_keep_1 rfl (fun _ => ?_) (fun cc_ => absurd cc_ (by decide))
  refine ww_aload_n K dX6_keep_31 rfl ?_
  refine ww_get K dX6_keep_32 lf_X6_10 h0 rfl ?_
  refine ww_iload_n K dX6_keep_35 rfl ?_
  refine ww_iload_n K dX6_keep_36 rfl ?_
  refine ww_cV K dX6_keep_37 lc_X6_106 h1 ⟨_, rfl, rfl⟩ (ct_X5_rowsKept_3 G l h1 h5) rfl ⟨Nat.le_of_ble_eq_true rfl, Nat.le_of_ble_eq_true rfl⟩ (Nat.le_of_ble_eq_true rfl) ?_
  refine ww_astore_n (ls2 := [some (eR (0)), some (eI (3)), some (eI (0)), some (eR (30))]) K dX6_keep_40 (by decide) rfl ?_
  refine ww_aload_n K dX6_keep_41 rfl ?_
  refine ww_ifnull K dX6_keep_42 ?_
  refine ww_aload_n K dX6_keep_45 rfl ?_
  refine ww_aload_n K dX6_keep_46 rfl ?_
  refine ww_get K dX6_keep_47 lf_X6_23 h0 rfl ?_
  refine ww_get K dX6_keep_50 lf_X6_110 h43 rfl ?_
  refine ww_xVv K dX6_keep_53 lc_X6_114 h30 ⟨_, rfl, rfl⟩ (ct_X3_copyRows_30_52 G l h30 h31 h52 h53) rfl ⟨Nat.le_of_ble_eq_true rfl, Nat.le_of_ble_eq_true rfl⟩ (Nat.le_of_ble_eq_true rfl) (fun w1 hq hln_w1 => ?_)
  have hsm := hq
  have h0 := hsm.keep h0 (by decide)
  have h1 := hsm.keep h1 (by decide)
  have h3 := hsm.keep h3 (by decide)
  have h43 := hsm.keep h43 (by decide)
  have h5 := hsm.keep h5 (by decide)
  have h52 := hsm.keep h52 (by decide)
  have h53 := hsm.keep h53 (by decide)
  have hS := hS.call hsm (by decide)
  refine ww_aload_n K dX6_keep_56 rfl ?_
  refine ww_get K dX6_keep_57 lf_X6_10 h0 rfl ?_
  refine ww_get K dX6_keep_60 lf_X6_85 h1 rfl ?_
  refine ww_iload_n K dX6_keep_63 rfl ?_
  refine ww_aload_n K dX6_keep_64 rfl ?_
  refine ww_get K dX6_keep_65 lf_X6_10 h0 rfl ?_
  refine ww_get K dX6_keep_68 lf_X6_85 h1 rfl ?_
  refine ww_iload_n K dX6_keep_71 rfl ?_
  refine ww_cS K dX6_keep_72 lc_X6_88 (ct_X6_cell G l h3 (by decide) (i := 3) (wc_vin (by decide))) rfl ⟨Nat.le_of_ble_eq_true rfl, Nat.le_of_ble_eq_true rfl⟩ (Nat.le_of_ble_eq_true rfl) ?_
  rw [show cnt (3 : Int32).toNatClampNeg = 0 from hz 3 (by decide)]
  refine ww_iload_n K dX6_keep_75 rfl ?_
  refine ww_iconst (v := 1) K dX6_keep_76 rfl ?_
  refine ww_iadd K dX6_keep_77 ?_
  rw [show ((0 : Int32) + 1) = 1 from rfl]
  refine ww_mmax K dX6_keep_78 lm_X6_120 ⟨Nat.le_of_ble_eq_true rfl, Nat.le_of_ble_eq_true rfl⟩ ?_
  refine ww_xSv K dX6_keep_81 lc_X6_62 (ct_X6_put G l h3 (by decide) (i := 3) (x := (if 0 < 1 then 1 else 0)) (wc_vin (by decide))) rfl ⟨Nat.le_of_ble_eq_true rfl, Nat.le_of_ble_eq_true rfl⟩ (Nat.le_of_ble_eq_true rfl) (fun w2 hq hln_w2 => ?_)
  obtain ⟨h3, hsm⟩ := hq
  have h0 := hsm.keep h0 (by decide)
  have h1 := hsm.keep h1 (by decide)
  have h43 := hsm.keep h43 (by decide)
  have h5 := hsm.keep h5 (by decide)
  have h52 := hsm.keep h52 (by decide)
  have h53 := hsm.keep h53 (by decide)
  have hS := hS.call hsm (by decide)
  exact ww_vret K dX6_keep_84 hr ⟨rfl, hS⟩
set_option maxRecDepth 100000 in
set_option maxHeartbeats 4000000 in
theorem ct_X6_keep_4 (G : EG) (l : Launch) {w : EW} {cnt : Nat → Int32} (hz : ∀ k, k < 6 → cnt k = 0) {a1 : Int32} {f1 g1 : Nat → Int32} (h0 : w[0]? = some (cO 6 [eR (1), eR (42), eR (43), eR (56), eR (60), eR (61), eR (62), eR (63)])) (h1 : w[1]? = some (cO 5 [eR (2), eI (0), eI (0), eI ((-1)), eR (3), eR (4), eR (5)])) (h3 : w[3]? = some (cI 0 6 cnt)) (h43 : w[43]? = some (cO 1 [eR (44), eR (52), eI (0), eI ((-1)), eR (54), eR (55), eI (0), eI (0), eI (0), eI (0), eI (0), eI (0)])) (h5 : w[5]? = some (cQ 3 10 (va_up (va_up (va_up (va_up (va_up (va_up (va_up (va_up (va_up (va_up (fun _ => none) 0 (some 22)) 1 (some 24)) 2 (some 26)) 3 (some 28)) 4 (some 30)) 5 (some 32)) 6 (some 34)) 7 (some 36)) 8 (some 38)) 9 (some 40)))) (h34 : w[34]? = some (cO 3 [eI (a1), eR (35)])) (h35 : w[35]? = some (cI 0 200 f1)) (h52 : w[52]? = some (cO 3 [eI (0), eR (53)])) (h53 : w[53]? = some (cI 0 200 g1)) : Ct G l yX6_keep cX6_keep 4 none 3 0 0 [eR (0), eI (4), eI (0)] w (fun r w2 => r = none ∧ wc_same [3, 34, 35] w w2) := by
  refine Ct_of (by decide +kernel) (Nat.le_of_ble_eq_true rfl) ?_
  intro p_ e_ s_ m_ a_ b_ t_ c_ K0 hr hin
  have K : wc_C p_ s_ m_ a_ t_ c_ G RX6 cX6_keep 4 w.length := K0
  clear K0
  refine WW_ls (ls2 := [some (eR (0)), some (eI (4)), some (eI (0)), none]) rfl ?_
  have hS : wc_same [3, 34, 35] w w := wc_same.rf
  refine ww_iload_n K dX6_keep_0 rfl ?_
  refine ww_if_ne (tgt := 31) K dX6_keep_1 rfl (fun _ => ?_) (fun cc_ => absurd cc_ (by decide))
  refine ww_aload_n K dX6_keep_31 rfl ?_
  refine ww_get K dX6_keep_32 lf_X6_10 h0 rfl ?_
  refine ww_iload_n K dX6_keep_35 rfl ?_
  refine ww_iload_n K dX6_keep_36 rfl ?_
  refine ww_cV K dX6_keep_37 lc_X6_106 h1 ⟨_, rfl, rfl⟩ (ct_X5_rowsKept_4 G l h1 h5) rfl ⟨Nat.le_of_ble_eq_true rfl, Nat.le_of_ble_eq_true rfl⟩ (Nat.le_of_ble_eq_true rfl) ?_
  refine ww_astore_n (ls2 := [some (eR (0)), some (eI (4)), some (eI (0)), some (eR (34))]) K dX6_keep_40 (by decide) rfl ?_
  refine ww_aload_n K dX6_keep_41 rfl ?_
  refine ww_ifnull K dX6_keep_42 ?_
  refine ww_aload_n K dX6_keep_45 rfl ?_
  refine ww_aload_n K dX6_keep_46 rfl ?_
  refine ww_get K dX6_keep_47 lf_X6_23 h0 rfl ?_
  refine ww_get K dX6_keep_50 lf_X6_110 h43 rfl ?_
  refine ww_xVv K dX6_keep_53 lc_X6_114 h34 ⟨_, rfl, rfl⟩ (ct_X3_copyRows_34_52 G l h34 h35 h52 h53) rfl ⟨Nat.le_of_ble_eq_true rfl, Nat.le_of_ble_eq_true rfl⟩ (Nat.le_of_ble_eq_true rfl) (fun w1 hq hln_w1 => ?_)
  have hsm := hq
  have h0 := hsm.keep h0 (by decide)
  have h1 := hsm.keep h1 (by decide)
  have h3 := hsm.keep h3 (by decide)
  have h43 := hsm.keep h43 (by decide)
  have h5 := hsm.keep h5 (by decide)
  have h52 := hsm.keep h52 (by decide)
  have h53 := hsm.keep h53 (by decide)
  have hS := hS.call hsm (by decide)
  refine ww_aload_n K dX6_keep_56 rfl ?_
  refine ww_get K dX6_keep_57 lf_X6_10 h0 rfl ?_
  refine ww_get K dX6_keep_60 lf_X6_85 h1 rfl ?_
  refine ww_iload_n K dX6_keep_63 rfl ?_
  refine ww_aload_n K dX6_keep_64 rfl ?_
  refine ww_get K dX6_keep_65 lf_X6_10 h0 rfl ?_
  refine ww_get K dX6_keep_68 lf_X6_85 h1 rfl ?_
  refine ww_iload_n K dX6_keep_71 rfl ?_
  refine ww_cS K dX6_keep_72 lc_X6_88 (ct_X6_cell G l h3 (by decide) (i := 4) (wc_vin (by decide))) rfl ⟨Nat.le_of_ble_eq_true rfl, Nat.le_of_ble_eq_true rfl⟩ (Nat.le_of_ble_eq_true rfl) ?_
  rw [show cnt (4 : Int32).toNatClampNeg = 0 from hz 4 (by decide)]
  refine ww_iload_n K dX6_keep_75 rfl ?_
  refine ww_iconst (v := 1) K dX6_keep_76 rfl ?_
  refine ww_iadd K dX6_keep_77 ?_
  rw [show ((0 : Int32) + 1) = 1 from rfl]
  refine ww_mmax K dX6_keep_78 lm_X6_120 ⟨Nat.le_of_ble_eq_true rfl, Nat.le_of_ble_eq_true rfl⟩ ?_
  refine ww_xSv K dX6_keep_81 lc_X6_62 (ct_X6_put G l h3 (by decide) (i := 4) (x := (if 0 < 1 then 1 else 0)) (wc_vin (by decide))) rfl ⟨Nat.le_of_ble_eq_true rfl, Nat.le_of_ble_eq_true rfl⟩ (Nat.le_of_ble_eq_true rfl) (fun w2 hq hln_w2 => ?_)
  obtain ⟨h3, hsm⟩ := hq
  have h0 := hsm.keep h0 (by decide)
  have h1 := hsm.keep h1 (by decide)
  have h43 := hsm.keep h43 (by decide)
  have h5 := hsm.keep h5 (by decide)
  have h52 := hsm.keep h52 (by decide)
  have h53 := hsm.keep h53 (by decide)
  have hS := hS.call hsm (by decide)
  exact ww_vret K dX6_keep_84 hr ⟨rfl, hS⟩
set_option maxRecDepth 100000 in
set_option maxHeartbeats 4000000 in
theorem ct_X6_keep_5 (G : EG) (l : Launch) {w : EW} {cnt : Nat → Int32} (hz : ∀ k, k < 6 → cnt k = 0) {a1 : Int32} {f1 g1 : Nat → Int32} (h0 : w[0]? = some (cO 6 [eR (1), eR (42), eR (43), eR (56), eR (60), eR (61), eR (62), eR (63)])) (h1 : w[1]? = some (cO 5 [eR (2), eI (0), eI (0), eI ((-1)), eR (3), eR (4), eR (5)])) (h3 : w[3]? = some (cI 0 6 cnt)) (h43 : w[43]? = some (cO 1 [eR (44), eR (52), eI (0), eI ((-1)), eR (54), eR (55), eI (0), eI (0), eI (0), eI (0), eI (0), eI (0)])) (h5 : w[5]? = some (cQ 3 10 (va_up (va_up (va_up (va_up (va_up (va_up (va_up (va_up (va_up (va_up (fun _ => none) 0 (some 22)) 1 (some 24)) 2 (some 26)) 3 (some 28)) 4 (some 30)) 5 (some 32)) 6 (some 34)) 7 (some 36)) 8 (some 38)) 9 (some 40)))) (h38 : w[38]? = some (cO 3 [eI (a1), eR (39)])) (h39 : w[39]? = some (cI 0 200 f1)) (h52 : w[52]? = some (cO 3 [eI (0), eR (53)])) (h53 : w[53]? = some (cI 0 200 g1)) : Ct G l yX6_keep cX6_keep 4 none 3 0 0 [eR (0), eI (5), eI (0)] w (fun r w2 => r = none ∧ wc_same [3, 38, 39] w w2) := by
  refine Ct_of (by decide +kernel) (Nat.le_of_ble_eq_true rfl) ?_
  intro p_ e_ s_ m_ a_ b_ t_ c_ K0 hr hin
  have K : wc_C p_ s_ m_ a_ t_ c_ G RX6 cX6_keep 4 w.length := K0
  clear K0
  refine WW_ls (ls2 := [some (eR (0)), some (eI (5)), some (eI (0)), none]) rfl ?_
  have hS : wc_same [3, 38, 39] w w := wc_same.rf
  refine ww_iload_n K dX6_keep_0 rfl ?_
  refine ww_if_ne (tgt := 31) K dX6_keep_1 rfl (fun _ => ?_) (fun cc_ => absurd cc_ (by decide))
  refine ww_aload_n K dX6_keep_31 rfl ?_
  refine ww_get K dX6_keep_32 lf_X6_10 h0 rfl ?_
  refine ww_iload_n K dX6_keep_35 rfl ?_
  refine ww_iload_n K dX6_keep_36 rfl ?_
  refine ww_cV K dX6_keep_37 lc_X6_106 h1 ⟨_, rfl, rfl⟩ (ct_X5_rowsKept_5 G l h1 h5) rfl ⟨Nat.le_of_ble_eq_true rfl, Nat.le_of_ble_eq_true rfl⟩ (Nat.le_of_ble_eq_true rfl) ?_
  refine ww_astore_n (ls2 := [some (eR (0)), some (eI (5)), some (eI (0)), some (eR (38))]) K dX6_keep_40 (by decide) rfl ?_
  refine ww_aload_n K dX6_keep_41 rfl ?_
  refine ww_ifnull K dX6_keep_42 ?_
  refine ww_aload_n K dX6_keep_45 rfl ?_
  refine ww_aload_n K dX6_keep_46 rfl ?_
  refine ww_get K dX6_keep_47 lf_X6_23 h0 rfl ?_
  refine ww_get K dX6_keep_50 lf_X6_110 h43 rfl ?_
  refine ww_xVv K dX6_keep_53 lc_X6_114 h38 ⟨_, rfl, rfl⟩ (ct_X3_copyRows_38_52 G l h38 h39 h52 h53) rfl ⟨Nat.le_of_ble_eq_true rfl, Nat.le_of_ble_eq_true rfl⟩ (Nat.le_of_ble_eq_true rfl) (fun w1 hq hln_w1 => ?_)
  have hsm := hq
  have h0 := hsm.keep h0 (by decide)
  have h1 := hsm.keep h1 (by decide)
  have h3 := hsm.keep h3 (by decide)
  have h43 := hsm.keep h43 (by decide)
  have h5 := hsm.keep h5 (by decide)
  have h52 := hsm.keep h52 (by decide)
  have h53 := hsm.keep h53 (by decide)
  have hS := hS.call hsm (by decide)
  refine ww_aload_n K dX6_keep_56 rfl ?_
  refine ww_get K dX6_keep_57 lf_X6_10 h0 rfl ?_
  refine ww_get K dX6_keep_60 lf_X6_85 h1 rfl ?_
  refine ww_iload_n K dX6_keep_63 rfl ?_
  refine ww_aload_n K dX6_keep_64 rfl ?_
  refine ww_get K dX6_keep_65 lf_X6_10 h0 rfl ?_
  refine ww_get K dX6_keep_68 lf_X6_85 h1 rfl ?_
  refine ww_iload_n K dX6_keep_71 rfl ?_
  refine ww_cS K dX6_keep_72 lc_X6_88 (ct_X6_cell G l h3 (by decide) (i := 5) (wc_vin (by decide))) rfl ⟨Nat.le_of_ble_eq_true rfl, Nat.le_of_ble_eq_true rfl⟩ (Nat.le_of_ble_eq_true rfl) ?_
  rw [show cnt (5 : Int32).toNatClampNeg = 0 from hz 5 (by decide)]
  refine ww_iload_n K dX6_keep_75 rfl ?_
  refine ww_iconst (v := 1) K dX6_keep_76 rfl ?_
  refine ww_iadd K dX6_keep_77 ?_
  rw [show ((0 : Int32) + 1) = 1 from rfl]
  refine ww_mmax K dX6_keep_78 lm_X6_120 ⟨Nat.le_of_ble_eq_true rfl, Nat.le_of_ble_eq_true rfl⟩ ?_
  refine ww_xSv K dX6_keep_81 lc_X6_62 (ct_X6_put G l h3 (by decide) (i := 5) (x := (if 0 < 1 then 1 else 0)) (wc_vin (by decide))) rfl ⟨Nat.le_of_ble_eq_true rfl, Nat.le_of_ble_eq_true rfl⟩ (Nat.le_of_ble_eq_true rfl) (fun w2 hq hln_w2 => ?_)
  obtain ⟨h3, hsm⟩ := hq
  have h0 := hsm.keep h0 (by decide)
  have h1 := hsm.keep h1 (by decide)
  have h43 := hsm.keep h43 (by decide)
  have h5 := hsm.keep h5 (by decide)
  have h52 := hsm.keep h52 (by decide)
  have h53 := hsm.keep h53 (by decide)
  have hS := hS.call hsm (by decide)
  exact ww_vret K dX6_keep_84 hr ⟨rfl, hS⟩
