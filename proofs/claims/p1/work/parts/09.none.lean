theorem wc_vin {i : Int32} {n : Nat} (h : ¬ (i < 0 ∨ n ≤ i.toNatClampNeg)) : vp_in i n := h
theorem wc_cl_lt {i : Int32} {n : Nat} (h : vp_in i n) : i.toNatClampNeg < n := Nat.not_le.mp fun q => h (Or.inr q)
theorem wc_none (k : Int32) : (if k < 0 then 0 else if (-1) < k then 0 else (1 : Int32)) = 0 := by
  by_cases h : k < 0
  · rw [if_pos h]
  · rw [if_neg h, if_pos]
    have h0 := Int32.not_lt.mp h
    exact Int32.lt_of_lt_of_le (by decide) h0
theorem wc_in_le {i : Int32} {n m : Nat} (h : vp_in i n) (hm : n ≤ m) : vp_in i m := fun q => h (q.imp id (fun z => Nat.le_trans hm z))
set_option maxRecDepth 100000 in
set_option maxHeartbeats 4000000 in
theorem ct_X6_republicAt0 (G : EG) (l : Launch) {w : EW} {ln fl pl : Int32} {cnt : Nat → Int32} (hx : w[0]? = some (cO 6 [eR (1), eR (42), eR (43), eR (56), eR (60), eR (61), eR (62), eR (63)])) (ht : w[1]? = some (cO 5 [eR (2), eI (ln), eI (fl), eI (pl), eR (3), eR (4), eR (5)])) (hc : w[3]? = some (cI 0 6 cnt)) (hz : ∀ k, k < 6 → cnt k = 0) {a : Int32} : Ct G l yX6_republicAt cX6_republicAt 2 (some (.object "WindCabinet$Republic")) 1 0 0 [eR (0), eI (a)] w (fun r w2 => r = some eN ∧ w2 = w) := by
  refine Ct_of (by decide +kernel) (Nat.le_of_ble_eq_true rfl) ?_
  intro p_ e_ s_ m_ a_ b_ t_ c_ K0 hr hin
  have K : wc_C p_ s_ m_ a_ t_ c_ G RX6 cX6_republicAt 2 (w).length := K0
  clear K0
  refine WW_ls (ls2 := [some (eR (0)), some (eI (a))]) rfl ?_
  refine ww_iload_n K dX6_republicAt_0 rfl ?_
  refine ww_if_lt (tgt := 30) K dX6_republicAt_1 rfl (fun c_1 => ?_) (fun c_1 => ?_)
  · refine ww_null K dX6_republicAt_30 ?_
    exact ww_aretN K (Or.inl ⟨_, rfl⟩) dX6_republicAt_31 hr ⟨rfl, rfl⟩
  · refine ww_iload_n K dX6_republicAt_4 rfl ?_
    refine ww_aload_n K dX6_republicAt_5 rfl ?_
    refine ww_get K dX6_republicAt_6 lf_X6_10 hx rfl ?_
    refine ww_get K dX6_republicAt_9 lf_X6_85 ht rfl ?_
    refine ww_iconst (v := 0) K dX6_republicAt_12 rfl ?_
    refine ww_cS K dX6_republicAt_13 lc_X6_88 (ct_X6_cell G l hc (by decide) (i := 0) (wc_vin (by decide))) rfl ⟨Nat.le_of_ble_eq_true rfl, Nat.le_of_ble_eq_true rfl⟩ (Nat.le_of_ble_eq_true rfl) ?_
    rw [show cnt (0 : Int32).toNatClampNeg = 0 from hz 0 (by decide)]
    refine ww_icmp_ge (tgt := 30) K dX6_republicAt_16 rfl (fun _ => ?_) (fun cc_ => absurd (Int32.not_lt.mp c_1) cc_)
    refine ww_null K dX6_republicAt_30 ?_
    exact ww_aretN K (Or.inl ⟨_, rfl⟩) dX6_republicAt_31 hr ⟨rfl, rfl⟩
set_option maxRecDepth 100000 in
set_option maxHeartbeats 4000000 in
theorem ct_X6_rowsAt0 (G : EG) (l : Launch) {w : EW} {ln fl pl : Int32} {cnt : Nat → Int32} (hx : w[0]? = some (cO 6 [eR (1), eR (42), eR (43), eR (56), eR (60), eR (61), eR (62), eR (63)])) (ht : w[1]? = some (cO 5 [eR (2), eI (ln), eI (fl), eI (pl), eR (3), eR (4), eR (5)])) (hc : w[3]? = some (cI 0 6 cnt)) (hz : ∀ k, k < 6 → cnt k = 0) {j a : Int32} (hj : vp_in j 6) : Ct G l yX6_rowsAt cX6_rowsAt 3 (some (.object "WindCabinet$Rows")) 1 0 0 [eR (0), eI (j), eI (a)] w (fun r w2 => r = some eN ∧ w2 = w) := by
  refine Ct_of (by decide +kernel) (Nat.le_of_ble_eq_true rfl) ?_
  intro p_ e_ s_ m_ a_ b_ t_ c_ K0 hr hin
  have K : wc_C p_ s_ m_ a_ t_ c_ G RX6 cX6_rowsAt 3 (w).length := K0
  clear K0
  refine WW_ls (ls2 := [some (eR (0)), some (eI (j)), some (eI (a))]) rfl ?_
  refine ww_iload_n K dX6_rowsAt_0 rfl ?_
  refine ww_if_lt (tgt := 31) K dX6_rowsAt_1 rfl (fun c_1 => ?_) (fun c_1 => ?_)
  · refine ww_null K dX6_rowsAt_31 ?_
    exact ww_aretN K (Or.inl ⟨_, rfl⟩) dX6_rowsAt_32 hr ⟨rfl, rfl⟩
  · refine ww_iload_n K dX6_rowsAt_4 rfl ?_
    refine ww_aload_n K dX6_rowsAt_5 rfl ?_
    refine ww_get K dX6_rowsAt_6 lf_X6_10 hx rfl ?_
    refine ww_get K dX6_rowsAt_9 lf_X6_85 ht rfl ?_
    refine ww_iload_n K dX6_rowsAt_12 rfl ?_
    refine ww_cS K dX6_rowsAt_13 lc_X6_88 (ct_X6_cell G l hc (by decide) (i := j) hj) rfl ⟨Nat.le_of_ble_eq_true rfl, Nat.le_of_ble_eq_true rfl⟩ (Nat.le_of_ble_eq_true rfl) ?_
    rw [show cnt (j : Int32).toNatClampNeg = 0 from hz _ (wc_cl_lt hj)]
    refine ww_icmp_ge (tgt := 31) K dX6_rowsAt_16 rfl (fun _ => ?_) (fun cc_ => absurd (Int32.not_lt.mp c_1) cc_)
    refine ww_null K dX6_rowsAt_31 ?_
    exact ww_aretN K (Or.inl ⟨_, rfl⟩) dX6_rowsAt_32 hr ⟨rfl, rfl⟩
set_option maxRecDepth 100000 in
set_option maxHeartbeats 4000000 in
theorem ct_X6_movedIn0 (G : EG) (l : Launch) {w : EW} {ln fl pl : Int32} {cnt : Nat → Int32} (hx : w[0]? = some (cO 6 [eR (1), eR (42), eR (43), eR (56), eR (60), eR (61), eR (62), eR (63)])) (ht : w[1]? = some (cO 5 [eR (2), eI (ln), eI (fl), eI (pl), eR (3), eR (4), eR (5)])) (hc : w[3]? = some (cI 0 6 cnt)) (hz : ∀ k, k < 6 → cnt k = 0) {a b c d : Int32} : Ct G l yX6_movedIn cX6_movedIn 6 (some (.object "WindCabinet$Republic")) 2 0 0 [eR (0), eI (a), eI (b), eI (c), eI (d)] w (fun r w2 => r = some eN ∧ w2 = w) := by
  refine Ct_of (by decide +kernel) (Nat.le_of_ble_eq_true rfl) ?_
  intro p_ e_ s_ m_ a_ b_ t_ c_ K0 hr hin
  have K : wc_C p_ s_ m_ a_ t_ c_ G RX6 cX6_movedIn 6 (w).length := K0
  clear K0
  refine WW_ls (ls2 := [some (eR (0)), some (eI (a)), some (eI (b)), some (eI (c)), some (eI (d)), none]) rfl ?_
  refine ww_aload_n K dX6_movedIn_0 rfl ?_
  refine ww_iload_n K dX6_movedIn_1 rfl ?_
  refine ww_cV K dX6_movedIn_2 lc_X6_129 hx ⟨_, rfl, rfl⟩ (ct_X6_republicAt0 G l hx ht hc hz (a := a)) rfl ⟨Nat.le_of_ble_eq_true rfl, Nat.le_of_ble_eq_true rfl⟩ (Nat.le_of_ble_eq_true rfl) ?_
  refine ww_astoreN (ls2 := [some (eR (0)), some (eI (a)), some (eI (b)), some (eI (c)), some (eI (d)), some (eN)]) K dX6_movedIn_5 (by decide) rfl ?_
  refine ww_aloadN K dX6_movedIn_7 rfl ?_
  refine ww_ifnullN (tgt := 39) K dX6_movedIn_9 rfl ?_
  refine ww_null K dX6_movedIn_39 ?_
  exact ww_aretN K (Or.inl ⟨_, rfl⟩) dX6_movedIn_40 hr ⟨rfl, rfl⟩
set_option maxRecDepth 100000 in
set_option maxHeartbeats 4000000 in
theorem ct_X6_rowTold0 (G : EG) (l : Launch) {w : EW} {a b c : Int32} : Ct G l yX6_rowTold cX6_rowTold 4 (some .int) 0 0 0 [eN, eI (a), eI (b), eI (c)] w (fun r w2 => r = some (eI (-2)) ∧ w2 = w) := by
  refine Ct_of (by decide +kernel) (Nat.le_of_ble_eq_true rfl) ?_
  intro p_ e_ s_ m_ a_ b_ t_ c_ K0 hr hin
  have K : wc_C p_ s_ m_ a_ t_ c_ G RX6 cX6_rowTold 4 (w).length := K0
  clear K0
  refine WW_ls (ls2 := [some (eN), some (eI (a)), some (eI (b)), some (eI (c))]) rfl ?_
  refine ww_aload_nN K dX6_rowTold_0 rfl ?_
  refine ww_ifnullN (tgt := 13) K dX6_rowTold_1 rfl ?_
  refine ww_bipush (v := (-2)) K dX6_rowTold_13 rfl ?_
  exact ww_iret K dX6_rowTold_15 hr ⟨rfl, rfl⟩
set_option maxRecDepth 100000 in
set_option maxHeartbeats 4000000 in
theorem ct_X6_republic0 (G : EG) (l : Launch) {w : EW} {ln fl pl : Int32} {cnt : Nat → Int32} (hx : w[0]? = some (cO 6 [eR (1), eR (42), eR (43), eR (56), eR (60), eR (61), eR (62), eR (63)])) (ht : w[1]? = some (cO 5 [eR (2), eI (ln), eI (fl), eI (pl), eR (3), eR (4), eR (5)])) (hc : w[3]? = some (cI 0 6 cnt)) (hz : ∀ k, k < 6 → cnt k = 0) {a b : Int32} : Ct G l yX6_republic cX6_republic 4 (some .int) 3 0 0 [eR (0), eI (a), eI (b)] w (fun r w2 => r = some (eI (-1)) ∧ w2 = w) := by
  refine Ct_of (by decide +kernel) (Nat.le_of_ble_eq_true rfl) ?_
  intro p_ e_ s_ m_ a_ b_ t_ c_ K0 hr hin
  have K : wc_C p_ s_ m_ a_ t_ c_ G RX6 cX6_republic 4 (w).length := K0
  clear K0
  refine WW_ls (ls2 := [some (eR (0)), some (eI (a)), some (eI (b)), none]) rfl ?_
  refine ww_aload_n K dX6_republic_0 rfl ?_
  refine ww_iload_n K dX6_republic_1 rfl ?_
  refine ww_cV K dX6_republic_2 lc_X6_129 hx ⟨_, rfl, rfl⟩ (ct_X6_republicAt0 G l hx ht hc hz (a := a)) rfl ⟨Nat.le_of_ble_eq_true rfl, Nat.le_of_ble_eq_true rfl⟩ (Nat.le_of_ble_eq_true rfl) ?_
  refine ww_astore_nN (ls2 := [some (eR (0)), some (eI (a)), some (eI (b)), some (eN)]) K dX6_republic_5 (by decide) rfl ?_
  refine ww_aload_nN K dX6_republic_6 rfl ?_
  refine ww_ifnonnullN K dX6_republic_7 ?_
  refine ww_iconst (v := (-1)) K dX6_republic_10 rfl ?_
  exact ww_iret K dX6_republic_11 hr ⟨rfl, rfl⟩
set_option maxRecDepth 100000 in
set_option maxHeartbeats 4000000 in
theorem ct_X6_minister0 (G : EG) (l : Launch) {w : EW} {ln fl pl : Int32} {cnt : Nat → Int32} (hx : w[0]? = some (cO 6 [eR (1), eR (42), eR (43), eR (56), eR (60), eR (61), eR (62), eR (63)])) (ht : w[1]? = some (cO 5 [eR (2), eI (ln), eI (fl), eI (pl), eR (3), eR (4), eR (5)])) (hc : w[3]? = some (cI 0 6 cnt)) (hz : ∀ k, k < 6 → cnt k = 0) {a b c : Int32} : Ct G l yX6_minister cX6_minister 5 (some .int) 3 0 0 [eR (0), eI (a), eI (b), eI (c)] w (fun r w2 => r = some (eI (-1)) ∧ w2 = w) := by
  refine Ct_of (by decide +kernel) (Nat.le_of_ble_eq_true rfl) ?_
  intro p_ e_ s_ m_ a_ b_ t_ c_ K0 hr hin
  have K : wc_C p_ s_ m_ a_ t_ c_ G RX6 cX6_minister 5 (w).length := K0
  clear K0
  refine WW_ls (ls2 := [some (eR (0)), some (eI (a)), some (eI (b)), some (eI (c)), none]) rfl ?_
  refine ww_aload_n K dX6_minister_0 rfl ?_
  refine ww_iload_n K dX6_minister_1 rfl ?_
  refine ww_cV K dX6_minister_2 lc_X6_129 hx ⟨_, rfl, rfl⟩ (ct_X6_republicAt0 G l hx ht hc hz (a := a)) rfl ⟨Nat.le_of_ble_eq_true rfl, Nat.le_of_ble_eq_true rfl⟩ (Nat.le_of_ble_eq_true rfl) ?_
  refine ww_astoreN (ls2 := [some (eR (0)), some (eI (a)), some (eI (b)), some (eI (c)), some (eN)]) K dX6_minister_5 (by decide) rfl ?_
  refine ww_aloadN K dX6_minister_7 rfl ?_
  refine ww_ifnullN (tgt := 21) K dX6_minister_9 rfl ?_
  refine ww_iconst (v := (-1)) K dX6_minister_21 rfl ?_
  exact ww_iret K dX6_minister_22 hr ⟨rfl, rfl⟩
set_option maxRecDepth 100000 in
set_option maxHeartbeats 4000000 in
theorem ct_X6_off0 (G : EG) (l : Launch) {w : EW} {ln fl pl : Int32} {cnt : Nat → Int32} (hx : w[0]? = some (cO 6 [eR (1), eR (42), eR (43), eR (56), eR (60), eR (61), eR (62), eR (63)])) (ht : w[1]? = some (cO 5 [eR (2), eI (ln), eI (fl), eI (pl), eR (3), eR (4), eR (5)])) (hc : w[3]? = some (cI 0 6 cnt)) (hz : ∀ k, k < 6 → cnt k = 0) {a b c d f g : Int32} : Ct G l yX6_off cX6_off 9 (some .int) 3 0 0 [eR (0), eI (a), eI (b), eI (c), eI (d), eI (f), eI (g)] w (fun r w2 => r = some (eI (-1)) ∧ w2 = w) := by
  refine Ct_of (by decide +kernel) (Nat.le_of_ble_eq_true rfl) ?_
  intro p_ e_ s_ m_ a_ b_ t_ c_ K0 hr hin
  have K : wc_C p_ s_ m_ a_ t_ c_ G RX6 cX6_off 9 (w).length := K0
  clear K0
  refine WW_ls (ls2 := [some (eR (0)), some (eI (a)), some (eI (b)), some (eI (c)), some (eI (d)), some (eI (f)), some (eI (g)), none, none]) rfl ?_
  refine ww_iload K dX6_off_0 rfl ?_
  refine ww_iload K dX6_off_2 rfl ?_
  refine ww_iload K dX6_off_4 rfl ?_
  refine ww_xS K dX6_off_6 lc_X6_196 (ct_X6_dayOf G l (a := d) (b := f) (c := g)) rfl ⟨Nat.le_of_ble_eq_true rfl, Nat.le_of_ble_eq_true rfl⟩ (Nat.le_of_ble_eq_true rfl) (fun dy w2 hq hln => ?_)
  subst hq
  refine ww_istore (ls2 := [some (eR (0)), some (eI (a)), some (eI (b)), some (eI (c)), some (eI (d)), some (eI (f)), some (eI (g)), some (eI (dy)), none]) K dX6_off_9 (by decide) rfl ?_
  refine ww_aload_n K dX6_off_11 rfl ?_
  refine ww_iload_n K dX6_off_12 rfl ?_
  refine ww_iload_n K dX6_off_13 rfl ?_
  refine ww_iload_n K dX6_off_14 rfl ?_
  refine ww_iload K dX6_off_15 rfl ?_
  refine ww_cV K dX6_off_17 lc_X6_200 hx ⟨_, rfl, rfl⟩ (ct_X6_movedIn0 G l hx ht hc hz (a := a) (b := b) (c := c) (d := dy)) rfl ⟨Nat.le_of_ble_eq_true rfl, Nat.le_of_ble_eq_true rfl⟩ (Nat.le_of_ble_eq_true rfl) ?_
  refine ww_astoreN (ls2 := [some (eR (0)), some (eI (a)), some (eI (b)), some (eI (c)), some (eI (d)), some (eI (f)), some (eI (g)), some (eI (dy)), some (eN)]) K dX6_off_20 (by decide) rfl ?_
  refine ww_aloadN K dX6_off_22 rfl ?_
  refine ww_ifnonnullN K dX6_off_24 ?_
  refine ww_iconst (v := (-1)) K dX6_off_27 rfl ?_
  refine ww_goto (tgt := 40) K dX6_off_28 rfl ?_
  exact ww_iret K dX6_off_40 hr ⟨rfl, rfl⟩
set_option maxRecDepth 100000 in
set_option maxHeartbeats 4000000 in
theorem ct_X6_vote0 (G : EG) (l : Launch) {w : EW} {ln fl pl : Int32} {cnt : Nat → Int32} (hx : w[0]? = some (cO 6 [eR (1), eR (42), eR (43), eR (56), eR (60), eR (61), eR (62), eR (63)])) (ht : w[1]? = some (cO 5 [eR (2), eI (ln), eI (fl), eI (pl), eR (3), eR (4), eR (5)])) (hc : w[3]? = some (cI 0 6 cnt)) (hz : ∀ k, k < 6 → cnt k = 0) {a b c d f g h : Int32} : Ct G l yX6_vote cX6_vote 11 (some .int) 3 0 0 [eR (0), eI (a), eI (b), eI (c), eI (d), eI (f), eI (g), eI (h)] w (fun r w2 => r = some (eI (-1)) ∧ w2 = w) := by
  refine Ct_of (by decide +kernel) (Nat.le_of_ble_eq_true rfl) ?_
  intro p_ e_ s_ m_ a_ b_ t_ c_ K0 hr hin
  have K : wc_C p_ s_ m_ a_ t_ c_ G RX6 cX6_vote 11 (w).length := K0
  clear K0
  refine WW_ls (ls2 := [some (eR (0)), some (eI (a)), some (eI (b)), some (eI (c)), some (eI (d)), some (eI (f)), some (eI (g)), some (eI (h)), none, none, none]) rfl ?_
  refine ww_iload K dX6_vote_0 rfl ?_
  refine ww_iload K dX6_vote_2 rfl ?_
  refine ww_iload K dX6_vote_4 rfl ?_
  refine ww_xS K dX6_vote_6 lc_X6_196 (ct_X6_dayOf G l (a := d) (b := f) (c := g)) rfl ⟨Nat.le_of_ble_eq_true rfl, Nat.le_of_ble_eq_true rfl⟩ (Nat.le_of_ble_eq_true rfl) (fun dy w2 hq hln => ?_)
  subst hq
  refine ww_istore (ls2 := [some (eR (0)), some (eI (a)), some (eI (b)), some (eI (c)), some (eI (d)), some (eI (f)), some (eI (g)), some (eI (h)), some (eI (dy)), none, none]) K dX6_vote_9 (by decide) rfl ?_
  refine ww_aload_n K dX6_vote_11 rfl ?_
  refine ww_iload_n K dX6_vote_12 rfl ?_
  refine ww_iload_n K dX6_vote_13 rfl ?_
  refine ww_iload_n K dX6_vote_14 rfl ?_
  refine ww_iload K dX6_vote_15 rfl ?_
  refine ww_cV K dX6_vote_17 lc_X6_200 hx ⟨_, rfl, rfl⟩ (ct_X6_movedIn0 G l hx ht hc hz (a := a) (b := b) (c := c) (d := dy)) rfl ⟨Nat.le_of_ble_eq_true rfl, Nat.le_of_ble_eq_true rfl⟩ (Nat.le_of_ble_eq_true rfl) ?_
  refine ww_astoreN (ls2 := [some (eR (0)), some (eI (a)), some (eI (b)), some (eI (c)), some (eI (d)), some (eI (f)), some (eI (g)), some (eI (h)), some (eI (dy)), some (eN), none]) K dX6_vote_20 (by decide) rfl ?_
  refine ww_aloadN K dX6_vote_22 rfl ?_
  refine ww_ifnonnullN K dX6_vote_24 ?_
  refine ww_iconst (v := (-1)) K dX6_vote_27 rfl ?_
  exact ww_iret K dX6_vote_28 hr ⟨rfl, rfl⟩
set_option maxRecDepth 100000 in
set_option maxHeartbeats 4000000 in
theorem ct_X6_order0 (G : EG) (l : Launch) {w : EW} {ln fl pl : Int32} {cnt : Nat → Int32} (hx : w[0]? = some (cO 6 [eR (1), eR (42), eR (43), eR (56), eR (60), eR (61), eR (62), eR (63)])) (ht : w[1]? = some (cO 5 [eR (2), eI (ln), eI (fl), eI (pl), eR (3), eR (4), eR (5)])) (hc : w[3]? = some (cI 0 6 cnt)) (hz : ∀ k, k < 6 → cnt k = 0) {a b c : Int32} : Ct G l yX6_order cX6_order 4 (some .int) 3 0 0 [eR (0), eI (a), eI (b), eI (c)] w (fun r w2 => r = some (eI (-2)) ∧ w2 = w) := by
  refine Ct_of (by decide +kernel) (Nat.le_of_ble_eq_true rfl) ?_
  intro p_ e_ s_ m_ a_ b_ t_ c_ K0 hr hin
  have K : wc_C p_ s_ m_ a_ t_ c_ G RX6 cX6_order 4 (w).length := K0
  clear K0
  refine WW_ls (ls2 := [some (eR (0)), some (eI (a)), some (eI (b)), some (eI (c))]) rfl ?_
  refine ww_aload_n K dX6_order_0 rfl ?_
  refine ww_iconst (v := 1) K dX6_order_1 rfl ?_
  refine ww_iload_n K dX6_order_2 rfl ?_
  refine ww_cV K dX6_order_3 lc_X6_182 hx ⟨_, rfl, rfl⟩ (ct_X6_rowsAt0 G l hx ht hc hz (j := 1) (a := a) (wc_vin (by decide))) rfl ⟨Nat.le_of_ble_eq_true rfl, Nat.le_of_ble_eq_true rfl⟩ (Nat.le_of_ble_eq_true rfl) ?_
  refine ww_iload_n K dX6_order_6 rfl ?_
  refine ww_iload_n K dX6_order_7 rfl ?_
  refine ww_iconst (v := 5) K dX6_order_8 rfl ?_
  refine ww_cS K dX6_order_9 lc_X6_185 (ct_X6_rowTold0 G l (a := b) (b := c) (c := 5)) rfl ⟨Nat.le_of_ble_eq_true rfl, Nat.le_of_ble_eq_true rfl⟩ (Nat.le_of_ble_eq_true rfl) ?_
  exact ww_iret K dX6_order_12 hr ⟨rfl, rfl⟩
set_option maxRecDepth 100000 in
set_option maxHeartbeats 4000000 in
theorem ct_X6_broken0 (G : EG) (l : Launch) {w : EW} {ln fl pl : Int32} {cnt : Nat → Int32} (hx : w[0]? = some (cO 6 [eR (1), eR (42), eR (43), eR (56), eR (60), eR (61), eR (62), eR (63)])) (ht : w[1]? = some (cO 5 [eR (2), eI (ln), eI (fl), eI (pl), eR (3), eR (4), eR (5)])) (hc : w[3]? = some (cI 0 6 cnt)) (hz : ∀ k, k < 6 → cnt k = 0) {a b c d f g : Int32} : Ct G l yX6_broken cX6_broken 9 (some .int) 3 0 0 [eR (0), eI (a), eI (b), eI (c), eI (d), eI (f), eI (g)] w (fun r w2 => r = some (eI (-1)) ∧ w2 = w) := by
  refine Ct_of (by decide +kernel) (Nat.le_of_ble_eq_true rfl) ?_
  intro p_ e_ s_ m_ a_ b_ t_ c_ K0 hr hin
  have K : wc_C p_ s_ m_ a_ t_ c_ G RX6 cX6_broken 9 (w).length := K0
  clear K0
  refine WW_ls (ls2 := [some (eR (0)), some (eI (a)), some (eI (b)), some (eI (c)), some (eI (d)), some (eI (f)), some (eI (g)), none, none]) rfl ?_
  refine ww_aload_n K dX6_broken_0 rfl ?_
  refine ww_iconst (v := 1) K dX6_broken_1 rfl ?_
  refine ww_iload_n K dX6_broken_2 rfl ?_
  refine ww_cV K dX6_broken_3 lc_X6_182 hx ⟨_, rfl, rfl⟩ (ct_X6_rowsAt0 G l hx ht hc hz (j := 1) (a := a) (wc_vin (by decide))) rfl ⟨Nat.le_of_ble_eq_true rfl, Nat.le_of_ble_eq_true rfl⟩ (Nat.le_of_ble_eq_true rfl) ?_
  refine ww_astoreN (ls2 := [some (eR (0)), some (eI (a)), some (eI (b)), some (eI (c)), some (eI (d)), some (eI (f)), some (eI (g)), some (eN), none]) K dX6_broken_6 (by decide) rfl ?_
  refine ww_iload_n K dX6_broken_8 rfl ?_
  refine ww_iload K dX6_broken_9 rfl ?_
  refine ww_iload K dX6_broken_11 rfl ?_
  refine ww_xS K dX6_broken_13 lc_X6_196 (ct_X6_dayOf G l (a := c) (b := d) (c := f)) rfl ⟨Nat.le_of_ble_eq_true rfl, Nat.le_of_ble_eq_true rfl⟩ (Nat.le_of_ble_eq_true rfl) (fun dy w2 hq hln => ?_)
  subst hq
  refine ww_istore (ls2 := [some (eR (0)), some (eI (a)), some (eI (b)), some (eI (c)), some (eI (d)), some (eI (f)), some (eI (g)), some (eN), some (eI (dy))]) K dX6_broken_16 (by decide) rfl ?_
  refine ww_aloadN K dX6_broken_18 rfl ?_
  refine ww_ifnullN (tgt := 50) K dX6_broken_20 rfl ?_
  refine ww_iconst (v := (-1)) K dX6_broken_50 rfl ?_
  exact ww_iret K dX6_broken_51 hr ⟨rfl, rfl⟩
set_option maxRecDepth 100000 in
set_option maxHeartbeats 4000000 in
theorem ct_X6_deed0 (G : EG) (l : Launch) {w : EW} {ln fl pl : Int32} {cnt : Nat → Int32} (hx : w[0]? = some (cO 6 [eR (1), eR (42), eR (43), eR (56), eR (60), eR (61), eR (62), eR (63)])) (ht : w[1]? = some (cO 5 [eR (2), eI (ln), eI (fl), eI (pl), eR (3), eR (4), eR (5)])) (hc : w[3]? = some (cI 0 6 cnt)) (hz : ∀ k, k < 6 → cnt k = 0) {a b c : Int32} : Ct G l yX6_deed cX6_deed 4 (some .int) 3 0 0 [eR (0), eI (a), eI (b), eI (c)] w (fun r w2 => r = some (eI (-2)) ∧ w2 = w) := by
  refine Ct_of (by decide +kernel) (Nat.le_of_ble_eq_true rfl) ?_
  intro p_ e_ s_ m_ a_ b_ t_ c_ K0 hr hin
  have K : wc_C p_ s_ m_ a_ t_ c_ G RX6 cX6_deed 4 (w).length := K0
  clear K0
  refine WW_ls (ls2 := [some (eR (0)), some (eI (a)), some (eI (b)), some (eI (c))]) rfl ?_
  refine ww_aload_n K dX6_deed_0 rfl ?_
  refine ww_iconst (v := 2) K dX6_deed_1 rfl ?_
  refine ww_iload_n K dX6_deed_2 rfl ?_
  refine ww_cV K dX6_deed_3 lc_X6_182 hx ⟨_, rfl, rfl⟩ (ct_X6_rowsAt0 G l hx ht hc hz (j := 2) (a := a) (wc_vin (by decide))) rfl ⟨Nat.le_of_ble_eq_true rfl, Nat.le_of_ble_eq_true rfl⟩ (Nat.le_of_ble_eq_true rfl) ?_
  refine ww_iload_n K dX6_deed_6 rfl ?_
  refine ww_iload_n K dX6_deed_7 rfl ?_
  refine ww_iconst (v := 5) K dX6_deed_8 rfl ?_
  refine ww_cS K dX6_deed_9 lc_X6_185 (ct_X6_rowTold0 G l (a := b) (b := c) (c := 5)) rfl ⟨Nat.le_of_ble_eq_true rfl, Nat.le_of_ble_eq_true rfl⟩ (Nat.le_of_ble_eq_true rfl) ?_
  exact ww_iret K dX6_deed_12 hr ⟨rfl, rfl⟩
set_option maxRecDepth 100000 in
set_option maxHeartbeats 4000000 in
theorem ct_X6_stop0 (G : EG) (l : Launch) {w : EW} {ln fl pl : Int32} {cnt : Nat → Int32} (hx : w[0]? = some (cO 6 [eR (1), eR (42), eR (43), eR (56), eR (60), eR (61), eR (62), eR (63)])) (ht : w[1]? = some (cO 5 [eR (2), eI (ln), eI (fl), eI (pl), eR (3), eR (4), eR (5)])) (hc : w[3]? = some (cI 0 6 cnt)) (hz : ∀ k, k < 6 → cnt k = 0) {a b c : Int32} : Ct G l yX6_stop cX6_stop 7 (some .int) 3 0 0 [eR (0), eI (a), eI (b), eI (c)] w (fun r w2 => r = some (eI (-1)) ∧ w2 = w) := by
  refine Ct_of (by decide +kernel) (Nat.le_of_ble_eq_true rfl) ?_
  intro p_ e_ s_ m_ a_ b_ t_ c_ K0 hr hin
  have K : wc_C p_ s_ m_ a_ t_ c_ G RX6 cX6_stop 7 (w).length := K0
  clear K0
  refine WW_ls (ls2 := [some (eR (0)), some (eI (a)), some (eI (b)), some (eI (c)), none, none, none]) rfl ?_
  refine ww_aload_n K dX6_stop_0 rfl ?_
  refine ww_iload_n K dX6_stop_1 rfl ?_
  refine ww_cV K dX6_stop_2 lc_X6_129 hx ⟨_, rfl, rfl⟩ (ct_X6_republicAt0 G l hx ht hc hz (a := a)) rfl ⟨Nat.le_of_ble_eq_true rfl, Nat.le_of_ble_eq_true rfl⟩ (Nat.le_of_ble_eq_true rfl) ?_
  refine ww_astoreN (ls2 := [some (eR (0)), some (eI (a)), some (eI (b)), some (eI (c)), some (eN), none, none]) K dX6_stop_5 (by decide) rfl ?_
  refine ww_aload_n K dX6_stop_7 rfl ?_
  refine ww_iconst (v := 1) K dX6_stop_8 rfl ?_
  refine ww_iload_n K dX6_stop_9 rfl ?_
  refine ww_cV K dX6_stop_10 lc_X6_182 hx ⟨_, rfl, rfl⟩ (ct_X6_rowsAt0 G l hx ht hc hz (j := 1) (a := b) (wc_vin (by decide))) rfl ⟨Nat.le_of_ble_eq_true rfl, Nat.le_of_ble_eq_true rfl⟩ (Nat.le_of_ble_eq_true rfl) ?_
  refine ww_astoreN (ls2 := [some (eR (0)), some (eI (a)), some (eI (b)), some (eI (c)), some (eN), some (eN), none]) K dX6_stop_13 (by decide) rfl ?_
  refine ww_aload_n K dX6_stop_15 rfl ?_
  refine ww_iconst (v := 2) K dX6_stop_16 rfl ?_
  refine ww_iload_n K dX6_stop_17 rfl ?_
  refine ww_cV K dX6_stop_18 lc_X6_182 hx ⟨_, rfl, rfl⟩ (ct_X6_rowsAt0 G l hx ht hc hz (j := 2) (a := c) (wc_vin (by decide))) rfl ⟨Nat.le_of_ble_eq_true rfl, Nat.le_of_ble_eq_true rfl⟩ (Nat.le_of_ble_eq_true rfl) ?_
  refine ww_astoreN (ls2 := [some (eR (0)), some (eI (a)), some (eI (b)), some (eI (c)), some (eN), some (eN), some (eN)]) K dX6_stop_21 (by decide) rfl ?_
  refine ww_aloadN K dX6_stop_23 rfl ?_
  refine ww_ifnullN (tgt := 38) K dX6_stop_25 rfl ?_
  refine ww_iconst (v := (-1)) K dX6_stop_38 rfl ?_
  exact ww_iret K dX6_stop_39 hr ⟨rfl, rfl⟩
set_option maxRecDepth 100000 in
set_option maxHeartbeats 4000000 in
theorem ct_X6_state0 (G : EG) (l : Launch) {w : EW} {ln fl pl : Int32} {cnt : Nat → Int32} (hx : w[0]? = some (cO 6 [eR (1), eR (42), eR (43), eR (56), eR (60), eR (61), eR (62), eR (63)])) (ht : w[1]? = some (cO 5 [eR (2), eI (ln), eI (fl), eI (pl), eR (3), eR (4), eR (5)])) (hc : w[3]? = some (cI 0 6 cnt)) (hz : ∀ k, k < 6 → cnt k = 0) {a b c d f : Int32} : Ct G l yX6_state cX6_state 9 (some .int) 3 0 0 [eR (0), eI (a), eI (b), eI (c), eI (d), eI (f)] w (fun r w2 => r = some (eI (-2)) ∧ w2 = w) := by
  refine Ct_of (by decide +kernel) (Nat.le_of_ble_eq_true rfl) ?_
  intro p_ e_ s_ m_ a_ b_ t_ c_ K0 hr hin
  have K : wc_C p_ s_ m_ a_ t_ c_ G RX6 cX6_state 9 (w).length := K0
  clear K0
  refine WW_ls (ls2 := [some (eR (0)), some (eI (a)), some (eI (b)), some (eI (c)), some (eI (d)), some (eI (f)), none, none, none]) rfl ?_
  refine ww_aload_n K dX6_state_0 rfl ?_
  refine ww_iload_n K dX6_state_1 rfl ?_
  refine ww_cV K dX6_state_2 lc_X6_129 hx ⟨_, rfl, rfl⟩ (ct_X6_republicAt0 G l hx ht hc hz (a := a)) rfl ⟨Nat.le_of_ble_eq_true rfl, Nat.le_of_ble_eq_true rfl⟩ (Nat.le_of_ble_eq_true rfl) ?_
  refine ww_astoreN (ls2 := [some (eR (0)), some (eI (a)), some (eI (b)), some (eI (c)), some (eI (d)), some (eI (f)), some (eN), none, none]) K dX6_state_5 (by decide) rfl ?_
  refine ww_aload_n K dX6_state_7 rfl ?_
  refine ww_iconst (v := 1) K dX6_state_8 rfl ?_
  refine ww_iload_n K dX6_state_9 rfl ?_
  refine ww_cV K dX6_state_10 lc_X6_182 hx ⟨_, rfl, rfl⟩ (ct_X6_rowsAt0 G l hx ht hc hz (j := 1) (a := b) (wc_vin (by decide))) rfl ⟨Nat.le_of_ble_eq_true rfl, Nat.le_of_ble_eq_true rfl⟩ (Nat.le_of_ble_eq_true rfl) ?_
  refine ww_astoreN (ls2 := [some (eR (0)), some (eI (a)), some (eI (b)), some (eI (c)), some (eI (d)), some (eI (f)), some (eN), some (eN), none]) K dX6_state_13 (by decide) rfl ?_
  refine ww_aload_n K dX6_state_15 rfl ?_
  refine ww_iconst (v := 2) K dX6_state_16 rfl ?_
  refine ww_iload_n K dX6_state_17 rfl ?_
  refine ww_cV K dX6_state_18 lc_X6_182 hx ⟨_, rfl, rfl⟩ (ct_X6_rowsAt0 G l hx ht hc hz (j := 2) (a := c) (wc_vin (by decide))) rfl ⟨Nat.le_of_ble_eq_true rfl, Nat.le_of_ble_eq_true rfl⟩ (Nat.le_of_ble_eq_true rfl) ?_
  refine ww_astoreN (ls2 := [some (eR (0)), some (eI (a)), some (eI (b)), some (eI (c)), some (eI (d)), some (eI (f)), some (eN), some (eN), some (eN)]) K dX6_state_21 (by decide) rfl ?_
  refine ww_aloadN K dX6_state_23 rfl ?_
  refine ww_ifnullN (tgt := 53) K dX6_state_25 rfl ?_
  refine ww_bipush (v := (-2)) K dX6_state_53 rfl ?_
  exact ww_iret K dX6_state_55 hr ⟨rfl, rfl⟩
set_option maxRecDepth 100000 in
set_option maxHeartbeats 4000000 in
theorem ct_X6_agreed0 (G : EG) (l : Launch) {w : EW} {ln fl pl : Int32} {cnt : Nat → Int32} (hx : w[0]? = some (cO 6 [eR (1), eR (42), eR (43), eR (56), eR (60), eR (61), eR (62), eR (63)])) (ht : w[1]? = some (cO 5 [eR (2), eI (ln), eI (fl), eI (pl), eR (3), eR (4), eR (5)])) (hc : w[3]? = some (cI 0 6 cnt)) (hz : ∀ k, k < 6 → cnt k = 0) {a b c d f : Int32} : Ct G l yX6_agreed cX6_agreed 8 (some .int) 3 0 0 [eR (0), eI (a), eI (b), eI (c), eI (d), eI (f)] w (fun r w2 => r = some (eI (-2)) ∧ w2 = w) := by
  refine Ct_of (by decide +kernel) (Nat.le_of_ble_eq_true rfl) ?_
  intro p_ e_ s_ m_ a_ b_ t_ c_ K0 hr hin
  have K : wc_C p_ s_ m_ a_ t_ c_ G RX6 cX6_agreed 8 (w).length := K0
  clear K0
  refine WW_ls (ls2 := [some (eR (0)), some (eI (a)), some (eI (b)), some (eI (c)), some (eI (d)), some (eI (f)), none, none]) rfl ?_
  refine ww_aload_n K dX6_agreed_0 rfl ?_
  refine ww_iload_n K dX6_agreed_1 rfl ?_
  refine ww_iload_n K dX6_agreed_2 rfl ?_
  refine ww_iload K dX6_agreed_3 rfl ?_
  refine ww_iconst (v := 0) K dX6_agreed_5 rfl ?_
  refine ww_cV K dX6_agreed_6 lc_X6_200 hx ⟨_, rfl, rfl⟩ (ct_X6_movedIn0 G l hx ht hc hz (a := a) (b := c) (c := d) (d := 0)) rfl ⟨Nat.le_of_ble_eq_true rfl, Nat.le_of_ble_eq_true rfl⟩ (Nat.le_of_ble_eq_true rfl) ?_
  refine ww_astoreN (ls2 := [some (eR (0)), some (eI (a)), some (eI (b)), some (eI (c)), some (eI (d)), some (eI (f)), some (eN), none]) K dX6_agreed_9 (by decide) rfl ?_
  refine ww_aload_n K dX6_agreed_11 rfl ?_
  refine ww_iconst (v := 1) K dX6_agreed_12 rfl ?_
  refine ww_iload_n K dX6_agreed_13 rfl ?_
  refine ww_cV K dX6_agreed_14 lc_X6_182 hx ⟨_, rfl, rfl⟩ (ct_X6_rowsAt0 G l hx ht hc hz (j := 1) (a := b) (wc_vin (by decide))) rfl ⟨Nat.le_of_ble_eq_true rfl, Nat.le_of_ble_eq_true rfl⟩ (Nat.le_of_ble_eq_true rfl) ?_
  refine ww_astoreN (ls2 := [some (eR (0)), some (eI (a)), some (eI (b)), some (eI (c)), some (eI (d)), some (eI (f)), some (eN), some (eN)]) K dX6_agreed_17 (by decide) rfl ?_
  refine ww_aloadN K dX6_agreed_19 rfl ?_
  refine ww_ifnullN (tgt := 34) K dX6_agreed_21 rfl ?_
  refine ww_bipush (v := (-2)) K dX6_agreed_34 rfl ?_
  exact ww_iret K dX6_agreed_36 hr ⟨rfl, rfl⟩
set_option maxRecDepth 100000 in
set_option maxHeartbeats 4000000 in
theorem ct_X6_power0 (G : EG) (l : Launch) {w : EW} {ln fl pl : Int32} {cnt : Nat → Int32} (hx : w[0]? = some (cO 6 [eR (1), eR (42), eR (43), eR (56), eR (60), eR (61), eR (62), eR (63)])) (ht : w[1]? = some (cO 5 [eR (2), eI (ln), eI (fl), eI (pl), eR (3), eR (4), eR (5)])) (hc : w[3]? = some (cI 0 6 cnt)) (hz : ∀ k, k < 6 → cnt k = 0) {a b c : Int32} : Ct G l yX6_power cX6_power 5 (some .int) 3 0 0 [eR (0), eI (a), eI (b), eI (c)] w (fun r w2 => r = some (eI (-1)) ∧ w2 = w) := by
  refine Ct_of (by decide +kernel) (Nat.le_of_ble_eq_true rfl) ?_
  intro p_ e_ s_ m_ a_ b_ t_ c_ K0 hr hin
  have K : wc_C p_ s_ m_ a_ t_ c_ G RX6 cX6_power 5 (w).length := K0
  clear K0
  refine WW_ls (ls2 := [some (eR (0)), some (eI (a)), some (eI (b)), some (eI (c)), none]) rfl ?_
  refine ww_aload_n K dX6_power_0 rfl ?_
  refine ww_iload_n K dX6_power_1 rfl ?_
  refine ww_cV K dX6_power_2 lc_X6_129 hx ⟨_, rfl, rfl⟩ (ct_X6_republicAt0 G l hx ht hc hz (a := a)) rfl ⟨Nat.le_of_ble_eq_true rfl, Nat.le_of_ble_eq_true rfl⟩ (Nat.le_of_ble_eq_true rfl) ?_
  refine ww_astoreN (ls2 := [some (eR (0)), some (eI (a)), some (eI (b)), some (eI (c)), some (eN)]) K dX6_power_5 (by decide) rfl ?_
  refine ww_aloadN K dX6_power_7 rfl ?_
  refine ww_ifnullN (tgt := 21) K dX6_power_9 rfl ?_
  refine ww_iconst (v := (-1)) K dX6_power_21 rfl ?_
  exact ww_iret K dX6_power_22 hr ⟨rfl, rfl⟩
set_option maxRecDepth 100000 in
set_option maxHeartbeats 4000000 in
theorem ct_X6_coalition0 (G : EG) (l : Launch) {w : EW} {ln fl pl : Int32} {cnt : Nat → Int32} (hx : w[0]? = some (cO 6 [eR (1), eR (42), eR (43), eR (56), eR (60), eR (61), eR (62), eR (63)])) (ht : w[1]? = some (cO 5 [eR (2), eI (ln), eI (fl), eI (pl), eR (3), eR (4), eR (5)])) (hc : w[3]? = some (cI 0 6 cnt)) (hz : ∀ k, k < 6 → cnt k = 0) {a b : Int32} : Ct G l yX6_coalition cX6_coalition 4 (some .int) 3 0 0 [eR (0), eI (a), eI (b)] w (fun r w2 => r = some (eI (-3)) ∧ w2 = w) := by
  refine Ct_of (by decide +kernel) (Nat.le_of_ble_eq_true rfl) ?_
  intro p_ e_ s_ m_ a_ b_ t_ c_ K0 hr hin
  have K : wc_C p_ s_ m_ a_ t_ c_ G RX6 cX6_coalition 4 (w).length := K0
  clear K0
  refine WW_ls (ls2 := [some (eR (0)), some (eI (a)), some (eI (b)), none]) rfl ?_
  refine ww_aload_n K dX6_coalition_0 rfl ?_
  refine ww_iload_n K dX6_coalition_1 rfl ?_
  refine ww_cV K dX6_coalition_2 lc_X6_129 hx ⟨_, rfl, rfl⟩ (ct_X6_republicAt0 G l hx ht hc hz (a := a)) rfl ⟨Nat.le_of_ble_eq_true rfl, Nat.le_of_ble_eq_true rfl⟩ (Nat.le_of_ble_eq_true rfl) ?_
  refine ww_astore_nN (ls2 := [some (eR (0)), some (eI (a)), some (eI (b)), some (eN)]) K dX6_coalition_5 (by decide) rfl ?_
  refine ww_aload_nN K dX6_coalition_6 rfl ?_
  refine ww_ifnullN (tgt := 16) K dX6_coalition_7 rfl ?_
  refine ww_bipush (v := (-3)) K dX6_coalition_16 rfl ?_
  exact ww_iret K dX6_coalition_18 hr ⟨rfl, rfl⟩
set_option maxRecDepth 100000 in
set_option maxHeartbeats 4000000 in
theorem ct_X6_bribe0 (G : EG) (l : Launch) {w : EW} {ln fl pl : Int32} {cnt : Nat → Int32} (hx : w[0]? = some (cO 6 [eR (1), eR (42), eR (43), eR (56), eR (60), eR (61), eR (62), eR (63)])) (ht : w[1]? = some (cO 5 [eR (2), eI (ln), eI (fl), eI (pl), eR (3), eR (4), eR (5)])) (hc : w[3]? = some (cI 0 6 cnt)) (hz : ∀ k, k < 6 → cnt k = 0) {a b c d f g h : Int32} : Ct G l yX6_bribe cX6_bribe 15 (some .int) 3 0 0 [eR (0), eI (a), eI (b), eI (c), eI (d), eI (f), eI (g), eI (h)] w (fun r w2 => r = some (eI (-1)) ∧ w2 = w) := by
  refine Ct_of (by decide +kernel) (Nat.le_of_ble_eq_true rfl) ?_
  intro p_ e_ s_ m_ a_ b_ t_ c_ K0 hr hin
  have K : wc_C p_ s_ m_ a_ t_ c_ G RX6 cX6_bribe 15 (w).length := K0
  clear K0
  refine WW_ls (ls2 := [some (eR (0)), some (eI (a)), some (eI (b)), some (eI (c)), some (eI (d)), some (eI (f)), some (eI (g)), some (eI (h)), none, none, none, none, none, none, none]) rfl ?_
  refine ww_iload K dX6_bribe_0 rfl ?_
  refine ww_iload K dX6_bribe_2 rfl ?_
  refine ww_iload K dX6_bribe_4 rfl ?_
  refine ww_xS K dX6_bribe_6 lc_X6_196 (ct_X6_dayOf G l (a := d) (b := f) (c := g)) rfl ⟨Nat.le_of_ble_eq_true rfl, Nat.le_of_ble_eq_true rfl⟩ (Nat.le_of_ble_eq_true rfl) (fun dy w2 hq hln => ?_)
  subst hq
  refine ww_istore (ls2 := [some (eR (0)), some (eI (a)), some (eI (b)), some (eI (c)), some (eI (d)), some (eI (f)), some (eI (g)), some (eI (h)), some (eI (dy)), none, none, none, none, none, none]) K dX6_bribe_9 (by decide) rfl ?_
  refine ww_aload_n K dX6_bribe_11 rfl ?_
  refine ww_iload_n K dX6_bribe_12 rfl ?_
  refine ww_iload_n K dX6_bribe_13 rfl ?_
  refine ww_iload_n K dX6_bribe_14 rfl ?_
  refine ww_iload K dX6_bribe_15 rfl ?_
  refine ww_cV K dX6_bribe_17 lc_X6_200 hx ⟨_, rfl, rfl⟩ (ct_X6_movedIn0 G l hx ht hc hz (a := a) (b := b) (c := c) (d := dy)) rfl ⟨Nat.le_of_ble_eq_true rfl, Nat.le_of_ble_eq_true rfl⟩ (Nat.le_of_ble_eq_true rfl) ?_
  refine ww_astoreN (ls2 := [some (eR (0)), some (eI (a)), some (eI (b)), some (eI (c)), some (eI (d)), some (eI (f)), some (eI (g)), some (eI (h)), some (eI (dy)), some (eN), none, none, none, none, none]) K dX6_bribe_20 (by decide) rfl ?_
  refine ww_aloadN K dX6_bribe_22 rfl ?_
  refine ww_ifnonnullN K dX6_bribe_24 ?_
  refine ww_iconst (v := (-1)) K dX6_bribe_27 rfl ?_
  exact ww_iret K dX6_bribe_28 hr ⟨rfl, rfl⟩
set_option maxRecDepth 100000 in
set_option maxHeartbeats 4000000 in
theorem ct_X6_lobby0 (G : EG) (l : Launch) {w : EW} {ln fl pl : Int32} {cnt : Nat → Int32} (hx : w[0]? = some (cO 6 [eR (1), eR (42), eR (43), eR (56), eR (60), eR (61), eR (62), eR (63)])) (ht : w[1]? = some (cO 5 [eR (2), eI (ln), eI (fl), eI (pl), eR (3), eR (4), eR (5)])) (hc : w[3]? = some (cI 0 6 cnt)) (hz : ∀ k, k < 6 → cnt k = 0) {a b c d f g h : Int32} : Ct G l yX6_lobby cX6_lobby 14 (some .int) 3 0 0 [eR (0), eI (a), eI (b), eI (c), eI (d), eI (f), eI (g), eI (h)] w (fun r w2 => r = some (eI (-1)) ∧ w2 = w) := by
  refine Ct_of (by decide +kernel) (Nat.le_of_ble_eq_true rfl) ?_
  intro p_ e_ s_ m_ a_ b_ t_ c_ K0 hr hin
  have K : wc_C p_ s_ m_ a_ t_ c_ G RX6 cX6_lobby 14 (w).length := K0
  clear K0
  refine WW_ls (ls2 := [some (eR (0)), some (eI (a)), some (eI (b)), some (eI (c)), some (eI (d)), some (eI (f)), some (eI (g)), some (eI (h)), none, none, none, none, none, none]) rfl ?_
  refine ww_iload K dX6_lobby_0 rfl ?_
  refine ww_iload K dX6_lobby_2 rfl ?_
  refine ww_iload K dX6_lobby_4 rfl ?_
  refine ww_xS K dX6_lobby_6 lc_X6_196 (ct_X6_dayOf G l (a := d) (b := f) (c := g)) rfl ⟨Nat.le_of_ble_eq_true rfl, Nat.le_of_ble_eq_true rfl⟩ (Nat.le_of_ble_eq_true rfl) (fun dy w2 hq hln => ?_)
  subst hq
  refine ww_istore (ls2 := [some (eR (0)), some (eI (a)), some (eI (b)), some (eI (c)), some (eI (d)), some (eI (f)), some (eI (g)), some (eI (h)), some (eI (dy)), none, none, none, none, none]) K dX6_lobby_9 (by decide) rfl ?_
  refine ww_aload_n K dX6_lobby_11 rfl ?_
  refine ww_iload_n K dX6_lobby_12 rfl ?_
  refine ww_iload_n K dX6_lobby_13 rfl ?_
  refine ww_iload_n K dX6_lobby_14 rfl ?_
  refine ww_iload K dX6_lobby_15 rfl ?_
  refine ww_cV K dX6_lobby_17 lc_X6_200 hx ⟨_, rfl, rfl⟩ (ct_X6_movedIn0 G l hx ht hc hz (a := a) (b := b) (c := c) (d := dy)) rfl ⟨Nat.le_of_ble_eq_true rfl, Nat.le_of_ble_eq_true rfl⟩ (Nat.le_of_ble_eq_true rfl) ?_
  refine ww_astoreN (ls2 := [some (eR (0)), some (eI (a)), some (eI (b)), some (eI (c)), some (eI (d)), some (eI (f)), some (eI (g)), some (eI (h)), some (eI (dy)), some (eN), none, none, none, none]) K dX6_lobby_20 (by decide) rfl ?_
  refine ww_aloadN K dX6_lobby_22 rfl ?_
  refine ww_ifnonnullN K dX6_lobby_24 ?_
  refine ww_iconst (v := (-1)) K dX6_lobby_27 rfl ?_
  exact ww_iret K dX6_lobby_28 hr ⟨rfl, rfl⟩
set_option maxRecDepth 100000 in
set_option maxHeartbeats 4000000 in
theorem ct_X6_bargain0 (G : EG) (l : Launch) {w : EW} {ln fl pl : Int32} {cnt : Nat → Int32} (hx : w[0]? = some (cO 6 [eR (1), eR (42), eR (43), eR (56), eR (60), eR (61), eR (62), eR (63)])) (ht : w[1]? = some (cO 5 [eR (2), eI (ln), eI (fl), eI (pl), eR (3), eR (4), eR (5)])) (hc : w[3]? = some (cI 0 6 cnt)) (hz : ∀ k, k < 6 → cnt k = 0) {a b c : Int32} : Ct G l yX6_bargain cX6_bargain 6 (some .int) 3 0 0 [eR (0), eI (a), eI (b), eI (c)] w (fun r w2 => r = some (eI (-2)) ∧ w2 = w) := by
  refine Ct_of (by decide +kernel) (Nat.le_of_ble_eq_true rfl) ?_
  intro p_ e_ s_ m_ a_ b_ t_ c_ K0 hr hin
  have K : wc_C p_ s_ m_ a_ t_ c_ G RX6 cX6_bargain 6 (w).length := K0
  clear K0
  refine WW_ls (ls2 := [some (eR (0)), some (eI (a)), some (eI (b)), some (eI (c)), none, none]) rfl ?_
  refine ww_aload_n K dX6_bargain_0 rfl ?_
  refine ww_iload_n K dX6_bargain_1 rfl ?_
  refine ww_cV K dX6_bargain_2 lc_X6_129 hx ⟨_, rfl, rfl⟩ (ct_X6_republicAt0 G l hx ht hc hz (a := a)) rfl ⟨Nat.le_of_ble_eq_true rfl, Nat.le_of_ble_eq_true rfl⟩ (Nat.le_of_ble_eq_true rfl) ?_
  refine ww_astoreN (ls2 := [some (eR (0)), some (eI (a)), some (eI (b)), some (eI (c)), some (eN), none]) K dX6_bargain_5 (by decide) rfl ?_
  refine ww_aload_n K dX6_bargain_7 rfl ?_
  refine ww_iconst (v := 5) K dX6_bargain_8 rfl ?_
  refine ww_iload_n K dX6_bargain_9 rfl ?_
  refine ww_cV K dX6_bargain_10 lc_X6_182 hx ⟨_, rfl, rfl⟩ (ct_X6_rowsAt0 G l hx ht hc hz (j := 5) (a := b) (wc_vin (by decide))) rfl ⟨Nat.le_of_ble_eq_true rfl, Nat.le_of_ble_eq_true rfl⟩ (Nat.le_of_ble_eq_true rfl) ?_
  refine ww_astoreN (ls2 := [some (eR (0)), some (eI (a)), some (eI (b)), some (eI (c)), some (eN), some (eN)]) K dX6_bargain_13 (by decide) rfl ?_
  refine ww_aloadN K dX6_bargain_15 rfl ?_
  refine ww_ifnullN (tgt := 25) K dX6_bargain_17 rfl ?_
  refine ww_bipush (v := (-2)) K dX6_bargain_25 rfl ?_
  exact ww_iret K dX6_bargain_27 hr ⟨rfl, rfl⟩
set_option maxRecDepth 100000 in
set_option maxHeartbeats 4000000 in
theorem ct_X6_was0 (G : EG) (l : Launch) {w : EW} {ln fl pl : Int32} {cnt : Nat → Int32} (hx : w[0]? = some (cO 6 [eR (1), eR (42), eR (43), eR (56), eR (60), eR (61), eR (62), eR (63)])) (ht : w[1]? = some (cO 5 [eR (2), eI (ln), eI (fl), eI (pl), eR (3), eR (4), eR (5)])) (hc : w[3]? = some (cI 0 6 cnt)) (hz : ∀ k, k < 6 → cnt k = 0) {a b c : Int32} : Ct G l yX6_was cX6_was 4 (some .int) 3 0 0 [eR (0), eI (a), eI (b), eI (c)] w (fun r w2 => r = some (eI (-2)) ∧ w2 = w) := by
  refine Ct_of (by decide +kernel) (Nat.le_of_ble_eq_true rfl) ?_
  intro p_ e_ s_ m_ a_ b_ t_ c_ K0 hr hin
  have K : wc_C p_ s_ m_ a_ t_ c_ G RX6 cX6_was 4 (w).length := K0
  clear K0
  refine WW_ls (ls2 := [some (eR (0)), some (eI (a)), some (eI (b)), some (eI (c))]) rfl ?_
  refine ww_aload_n K dX6_was_0 rfl ?_
  refine ww_iconst (v := 4) K dX6_was_1 rfl ?_
  refine ww_iload_n K dX6_was_2 rfl ?_
  refine ww_cV K dX6_was_3 lc_X6_182 hx ⟨_, rfl, rfl⟩ (ct_X6_rowsAt0 G l hx ht hc hz (j := 4) (a := a) (wc_vin (by decide))) rfl ⟨Nat.le_of_ble_eq_true rfl, Nat.le_of_ble_eq_true rfl⟩ (Nat.le_of_ble_eq_true rfl) ?_
  refine ww_iload_n K dX6_was_6 rfl ?_
  refine ww_iload_n K dX6_was_7 rfl ?_
  refine ww_iconst (v := 4) K dX6_was_8 rfl ?_
  refine ww_cS K dX6_was_9 lc_X6_185 (ct_X6_rowTold0 G l (a := b) (b := c) (c := 4)) rfl ⟨Nat.le_of_ble_eq_true rfl, Nat.le_of_ble_eq_true rfl⟩ (Nat.le_of_ble_eq_true rfl) ?_
  exact ww_iret K dX6_was_12 hr ⟨rfl, rfl⟩
set_option maxRecDepth 100000 in
set_option maxHeartbeats 4000000 in
theorem ct_X6_nature0 (G : EG) (l : Launch) {w : EW} {ln fl pl : Int32} {cnt : Nat → Int32} (hx : w[0]? = some (cO 6 [eR (1), eR (42), eR (43), eR (56), eR (60), eR (61), eR (62), eR (63)])) (ht : w[1]? = some (cO 5 [eR (2), eI (ln), eI (fl), eI (pl), eR (3), eR (4), eR (5)])) (hc : w[3]? = some (cI 0 6 cnt)) (hz : ∀ k, k < 6 → cnt k = 0) {a b c : Int32} : Ct G l yX6_nature cX6_nature 8 (some .int) 3 0 0 [eR (0), eI (a), eI (b), eI (c)] w (fun r w2 => r = some (eI (-2)) ∧ w2 = w) := by
  refine Ct_of (by decide +kernel) (Nat.le_of_ble_eq_true rfl) ?_
  intro p_ e_ s_ m_ a_ b_ t_ c_ K0 hr hin
  have K : wc_C p_ s_ m_ a_ t_ c_ G RX6 cX6_nature 8 (w).length := K0
  clear K0
  refine WW_ls (ls2 := [some (eR (0)), some (eI (a)), some (eI (b)), some (eI (c)), none, none, none, none]) rfl ?_
  refine ww_aload_n K dX6_nature_0 rfl ?_
  refine ww_iload_n K dX6_nature_1 rfl ?_
  refine ww_cV K dX6_nature_2 lc_X6_129 hx ⟨_, rfl, rfl⟩ (ct_X6_republicAt0 G l hx ht hc hz (a := a)) rfl ⟨Nat.le_of_ble_eq_true rfl, Nat.le_of_ble_eq_true rfl⟩ (Nat.le_of_ble_eq_true rfl) ?_
  refine ww_astoreN (ls2 := [some (eR (0)), some (eI (a)), some (eI (b)), some (eI (c)), some (eN), none, none, none]) K dX6_nature_5 (by decide) rfl ?_
  refine ww_aload_n K dX6_nature_7 rfl ?_
  refine ww_iconst (v := 4) K dX6_nature_8 rfl ?_
  refine ww_iload_n K dX6_nature_9 rfl ?_
  refine ww_cV K dX6_nature_10 lc_X6_182 hx ⟨_, rfl, rfl⟩ (ct_X6_rowsAt0 G l hx ht hc hz (j := 4) (a := b) (wc_vin (by decide))) rfl ⟨Nat.le_of_ble_eq_true rfl, Nat.le_of_ble_eq_true rfl⟩ (Nat.le_of_ble_eq_true rfl) ?_
  refine ww_astoreN (ls2 := [some (eR (0)), some (eI (a)), some (eI (b)), some (eI (c)), some (eN), some (eN), none, none]) K dX6_nature_13 (by decide) rfl ?_
  refine ww_aloadN K dX6_nature_15 rfl ?_
  refine ww_ifnullN (tgt := 25) K dX6_nature_17 rfl ?_
  refine ww_bipush (v := (-2)) K dX6_nature_25 rfl ?_
  exact ww_iret K dX6_nature_27 hr ⟨rfl, rfl⟩
set_option maxRecDepth 100000 in
set_option maxHeartbeats 4000000 in
theorem ct_X6_seats0 (G : EG) (l : Launch) {w : EW} {ln fl pl : Int32} {cnt : Nat → Int32} (hx : w[0]? = some (cO 6 [eR (1), eR (42), eR (43), eR (56), eR (60), eR (61), eR (62), eR (63)])) (ht : w[1]? = some (cO 5 [eR (2), eI (ln), eI (fl), eI (pl), eR (3), eR (4), eR (5)])) (hc : w[3]? = some (cI 0 6 cnt)) (hz : ∀ k, k < 6 → cnt k = 0) {a b c : Int32} : Ct G l yX6_seats cX6_seats 7 (some .int) 3 0 0 [eR (0), eI (a), eI (b), eI (c)] w (fun r w2 => r = some (eI (-4)) ∧ w2 = w) := by
  refine Ct_of (by decide +kernel) (Nat.le_of_ble_eq_true rfl) ?_
  intro p_ e_ s_ m_ a_ b_ t_ c_ K0 hr hin
  have K : wc_C p_ s_ m_ a_ t_ c_ G RX6 cX6_seats 7 (w).length := K0
  clear K0
  refine WW_ls (ls2 := [some (eR (0)), some (eI (a)), some (eI (b)), some (eI (c)), none, none, none]) rfl ?_
  refine ww_aload_n K dX6_seats_0 rfl ?_
  refine ww_iload_n K dX6_seats_1 rfl ?_
  refine ww_cV K dX6_seats_2 lc_X6_129 hx ⟨_, rfl, rfl⟩ (ct_X6_republicAt0 G l hx ht hc hz (a := a)) rfl ⟨Nat.le_of_ble_eq_true rfl, Nat.le_of_ble_eq_true rfl⟩ (Nat.le_of_ble_eq_true rfl) ?_
  refine ww_astoreN (ls2 := [some (eR (0)), some (eI (a)), some (eI (b)), some (eI (c)), some (eN), none, none]) K dX6_seats_5 (by decide) rfl ?_
  refine ww_aload_n K dX6_seats_7 rfl ?_
  refine ww_iconst (v := 4) K dX6_seats_8 rfl ?_
  refine ww_iload_n K dX6_seats_9 rfl ?_
  refine ww_cV K dX6_seats_10 lc_X6_182 hx ⟨_, rfl, rfl⟩ (ct_X6_rowsAt0 G l hx ht hc hz (j := 4) (a := b) (wc_vin (by decide))) rfl ⟨Nat.le_of_ble_eq_true rfl, Nat.le_of_ble_eq_true rfl⟩ (Nat.le_of_ble_eq_true rfl) ?_
  refine ww_astoreN (ls2 := [some (eR (0)), some (eI (a)), some (eI (b)), some (eI (c)), some (eN), some (eN), none]) K dX6_seats_13 (by decide) rfl ?_
  refine ww_aloadN K dX6_seats_15 rfl ?_
  refine ww_ifnullN (tgt := 25) K dX6_seats_17 rfl ?_
  refine ww_bipush (v := (-4)) K dX6_seats_25 rfl ?_
  exact ww_iret K dX6_seats_27 hr ⟨rfl, rfl⟩
set_option maxRecDepth 100000 in
set_option maxHeartbeats 4000000 in
theorem ct_X6_reshuffle0 (G : EG) (l : Launch) {w : EW} {ln fl pl : Int32} {cnt : Nat → Int32} (hx : w[0]? = some (cO 6 [eR (1), eR (42), eR (43), eR (56), eR (60), eR (61), eR (62), eR (63)])) (ht : w[1]? = some (cO 5 [eR (2), eI (ln), eI (fl), eI (pl), eR (3), eR (4), eR (5)])) (hc : w[3]? = some (cI 0 6 cnt)) (hz : ∀ k, k < 6 → cnt k = 0) {a b : Int32} : Ct G l yX6_reshuffle cX6_reshuffle 8 (some .int) 3 0 0 [eR (0), eI (a), eI (b)] w (fun r w2 => r = some (eI (-1)) ∧ w2 = w) := by
  refine Ct_of (by decide +kernel) (Nat.le_of_ble_eq_true rfl) ?_
  intro p_ e_ s_ m_ a_ b_ t_ c_ K0 hr hin
  have K : wc_C p_ s_ m_ a_ t_ c_ G RX6 cX6_reshuffle 8 (w).length := K0
  clear K0
  refine WW_ls (ls2 := [some (eR (0)), some (eI (a)), some (eI (b)), none, none, none, none, none]) rfl ?_
  refine ww_aload_n K dX6_reshuffle_0 rfl ?_
  refine ww_iload_n K dX6_reshuffle_1 rfl ?_
  refine ww_cV K dX6_reshuffle_2 lc_X6_129 hx ⟨_, rfl, rfl⟩ (ct_X6_republicAt0 G l hx ht hc hz (a := a)) rfl ⟨Nat.le_of_ble_eq_true rfl, Nat.le_of_ble_eq_true rfl⟩ (Nat.le_of_ble_eq_true rfl) ?_
  refine ww_astore_nN (ls2 := [some (eR (0)), some (eI (a)), some (eI (b)), some (eN), none, none, none, none]) K dX6_reshuffle_5 (by decide) rfl ?_
  refine ww_aload_nN K dX6_reshuffle_6 rfl ?_
  refine ww_ifnonnullN K dX6_reshuffle_7 ?_
  refine ww_iconst (v := (-1)) K dX6_reshuffle_10 rfl ?_
  exact ww_iret K dX6_reshuffle_11 hr ⟨rfl, rfl⟩
set_option maxRecDepth 100000 in
set_option maxHeartbeats 4000000 in
theorem ct_X6_leak0 (G : EG) (l : Launch) {w : EW} {ln fl pl : Int32} {cnt : Nat → Int32} (hx : w[0]? = some (cO 6 [eR (1), eR (42), eR (43), eR (56), eR (60), eR (61), eR (62), eR (63)])) (ht : w[1]? = some (cO 5 [eR (2), eI (ln), eI (fl), eI (pl), eR (3), eR (4), eR (5)])) (hc : w[3]? = some (cI 0 6 cnt)) (hz : ∀ k, k < 6 → cnt k = 0) {a b c : Int32} : Ct G l yX6_leak cX6_leak 4 (some .int) 3 0 0 [eR (0), eI (a), eI (b), eI (c)] w (fun r w2 => r = some (eI (-2)) ∧ w2 = w) := by
  refine Ct_of (by decide +kernel) (Nat.le_of_ble_eq_true rfl) ?_
  intro p_ e_ s_ m_ a_ b_ t_ c_ K0 hr hin
  have K : wc_C p_ s_ m_ a_ t_ c_ G RX6 cX6_leak 4 (w).length := K0
  clear K0
  refine WW_ls (ls2 := [some (eR (0)), some (eI (a)), some (eI (b)), some (eI (c))]) rfl ?_
  refine ww_aload_n K dX6_leak_0 rfl ?_
  refine ww_iconst (v := 3) K dX6_leak_1 rfl ?_
  refine ww_iload_n K dX6_leak_2 rfl ?_
  refine ww_cV K dX6_leak_3 lc_X6_182 hx ⟨_, rfl, rfl⟩ (ct_X6_rowsAt0 G l hx ht hc hz (j := 3) (a := a) (wc_vin (by decide))) rfl ⟨Nat.le_of_ble_eq_true rfl, Nat.le_of_ble_eq_true rfl⟩ (Nat.le_of_ble_eq_true rfl) ?_
  refine ww_iload_n K dX6_leak_6 rfl ?_
  refine ww_iload_n K dX6_leak_7 rfl ?_
  refine ww_iconst (v := 2) K dX6_leak_8 rfl ?_
  refine ww_cS K dX6_leak_9 lc_X6_185 (ct_X6_rowTold0 G l (a := b) (b := c) (c := 2)) rfl ⟨Nat.le_of_ble_eq_true rfl, Nat.le_of_ble_eq_true rfl⟩ (Nat.le_of_ble_eq_true rfl) ?_
  exact ww_iret K dX6_leak_12 hr ⟨rfl, rfl⟩
set_option maxRecDepth 100000 in
set_option maxHeartbeats 4000000 in
theorem ct_X6_fits0 (G : EG) (l : Launch) {w : EW} {ln fl pl : Int32} {cnt : Nat → Int32} (hx : w[0]? = some (cO 6 [eR (1), eR (42), eR (43), eR (56), eR (60), eR (61), eR (62), eR (63)])) (ht : w[1]? = some (cO 5 [eR (2), eI (ln), eI (fl), eI (pl), eR (3), eR (4), eR (5)])) (hc : w[3]? = some (cI 0 6 cnt)) (hz : ∀ k, k < 6 → cnt k = 0) {a b c d f : Int32} : Ct G l yX6_fits cX6_fits 8 (some .int) 3 0 0 [eR (0), eI (a), eI (b), eI (c), eI (d), eI (f)] w (fun r w2 => r = some (eI (-2)) ∧ w2 = w) := by
  refine Ct_of (by decide +kernel) (Nat.le_of_ble_eq_true rfl) ?_
  intro p_ e_ s_ m_ a_ b_ t_ c_ K0 hr hin
  have K : wc_C p_ s_ m_ a_ t_ c_ G RX6 cX6_fits 8 (w).length := K0
  clear K0
  refine WW_ls (ls2 := [some (eR (0)), some (eI (a)), some (eI (b)), some (eI (c)), some (eI (d)), some (eI (f)), none, none]) rfl ?_
  refine ww_aload_n K dX6_fits_0 rfl ?_
  refine ww_iload_n K dX6_fits_1 rfl ?_
  refine ww_iload_n K dX6_fits_2 rfl ?_
  refine ww_iload K dX6_fits_3 rfl ?_
  refine ww_iconst (v := 0) K dX6_fits_5 rfl ?_
  refine ww_cV K dX6_fits_6 lc_X6_200 hx ⟨_, rfl, rfl⟩ (ct_X6_movedIn0 G l hx ht hc hz (a := a) (b := c) (c := d) (d := 0)) rfl ⟨Nat.le_of_ble_eq_true rfl, Nat.le_of_ble_eq_true rfl⟩ (Nat.le_of_ble_eq_true rfl) ?_
  refine ww_astoreN (ls2 := [some (eR (0)), some (eI (a)), some (eI (b)), some (eI (c)), some (eI (d)), some (eI (f)), some (eN), none]) K dX6_fits_9 (by decide) rfl ?_
  refine ww_aload_n K dX6_fits_11 rfl ?_
  refine ww_iconst (v := 3) K dX6_fits_12 rfl ?_
  refine ww_iload_n K dX6_fits_13 rfl ?_
  refine ww_cV K dX6_fits_14 lc_X6_182 hx ⟨_, rfl, rfl⟩ (ct_X6_rowsAt0 G l hx ht hc hz (j := 3) (a := b) (wc_vin (by decide))) rfl ⟨Nat.le_of_ble_eq_true rfl, Nat.le_of_ble_eq_true rfl⟩ (Nat.le_of_ble_eq_true rfl) ?_
  refine ww_astoreN (ls2 := [some (eR (0)), some (eI (a)), some (eI (b)), some (eI (c)), some (eI (d)), some (eI (f)), some (eN), some (eN)]) K dX6_fits_17 (by decide) rfl ?_
  refine ww_aloadN K dX6_fits_19 rfl ?_
  refine ww_ifnullN (tgt := 39) K dX6_fits_21 rfl ?_
  refine ww_bipush (v := (-2)) K dX6_fits_39 rfl ?_
  exact ww_iret K dX6_fits_41 hr ⟨rfl, rfl⟩
set_option maxRecDepth 100000 in
set_option maxHeartbeats 4000000 in
theorem ct_X6_drawn0 (G : EG) (l : Launch) {w : EW} {ln fl pl : Int32} {cnt : Nat → Int32} (hx : w[0]? = some (cO 6 [eR (1), eR (42), eR (43), eR (56), eR (60), eR (61), eR (62), eR (63)])) (ht : w[1]? = some (cO 5 [eR (2), eI (ln), eI (fl), eI (pl), eR (3), eR (4), eR (5)])) (hc : w[3]? = some (cI 0 6 cnt)) (hz : ∀ k, k < 6 → cnt k = 0) {a b c d : Int32} : Ct G l yX6_drawn cX6_drawn 6 (some .int) 3 0 0 [eR (0), eI (a), eI (b), eI (c), eI (d)] w (fun r w2 => r = some (eI (-2)) ∧ w2 = w) := by
  refine Ct_of (by decide +kernel) (Nat.le_of_ble_eq_true rfl) ?_
  intro p_ e_ s_ m_ a_ b_ t_ c_ K0 hr hin
  have K : wc_C p_ s_ m_ a_ t_ c_ G RX6 cX6_drawn 6 (w).length := K0
  clear K0
  refine WW_ls (ls2 := [some (eR (0)), some (eI (a)), some (eI (b)), some (eI (c)), some (eI (d)), none]) rfl ?_
  refine ww_aload_n K dX6_drawn_0 rfl ?_
  refine ww_iload_n K dX6_drawn_1 rfl ?_
  refine ww_cV K dX6_drawn_2 lc_X6_129 hx ⟨_, rfl, rfl⟩ (ct_X6_republicAt0 G l hx ht hc hz (a := a)) rfl ⟨Nat.le_of_ble_eq_true rfl, Nat.le_of_ble_eq_true rfl⟩ (Nat.le_of_ble_eq_true rfl) ?_
  refine ww_astoreN (ls2 := [some (eR (0)), some (eI (a)), some (eI (b)), some (eI (c)), some (eI (d)), some (eN)]) K dX6_drawn_5 (by decide) rfl ?_
  refine ww_aloadN K dX6_drawn_7 rfl ?_
  refine ww_ifnullN (tgt := 22) K dX6_drawn_9 rfl ?_
  refine ww_bipush (v := (-2)) K dX6_drawn_22 rfl ?_
  exact ww_iret K dX6_drawn_24 hr ⟨rfl, rfl⟩
set_option maxRecDepth 100000 in
set_option maxHeartbeats 4000000 in
theorem ct_X7_isOf0 (G : EG) (l : Launch) {w : EW} {A : Nat → Int32} (hm : w[64]? = some (cO 7 [eR (65), eR (66), eI (0), eI (0), eI (0), eI (0), eI (0), eI (0), eI (0), eI (0), eR (67), eI (0), eI (0), eI (0), eI (0), eI (0), eI (0), eI (0), eI (0), eI (0), eI (0), eI (0), eI (0), eI (0), eI (0), eI (0), eI (0), eR (68), eR (69), eI (0), eI (0), eR (70), eR (71), eI (0), eI (0)])) (ha : w[65]? = some (cI 0 5768 A)) (hz : ∀ k, k < 6 → A k = 0) {j a : Int32} (hj : vp_in j 6) : Ct G l yX7_isOf cX7_isOf 3 (some .boolean) 1 0 0 [eR (64), eI (j), eI (a)] w (fun r w2 => r = some (eI 0) ∧ w2 = w) := by
  refine Ct_of (by decide +kernel) (Nat.le_of_ble_eq_true rfl) ?_
  intro p_ e_ s_ m_ a_ b_ t_ c_ K0 hr hin
  have K : wc_C p_ s_ m_ a_ t_ c_ G RX7 cX7_isOf 3 (w).length := K0
  clear K0
  refine WW_ls (ls2 := [some (eR (64)), some (eI (j)), some (eI (a))]) rfl ?_
  refine ww_iload_n K dX7_isOf_0 rfl ?_
  refine ww_iconst (v := 0) K dX7_isOf_1 rfl ?_
  refine ww_aload_n K dX7_isOf_2 rfl ?_
  refine ww_get K dX7_isOf_3 lf_X7_7 hm rfl ?_
  refine ww_iload_n K dX7_isOf_6 rfl ?_
  refine ww_iald K dX7_isOf_7 ha (wc_in_le hj (by decide)) ?_
  rw [show A j.toNatClampNeg = 0 from hz _ (wc_cl_lt hj)]
  refine ww_iconst (v := 1) K dX7_isOf_8 rfl ?_
  refine ww_isub K dX7_isOf_9 ?_
  rw [show ((0 : Int32) - 1) = (-1) from rfl]
  refine ww_cS K dX7_isOf_10 lc_X7_93 (ct_X7_isIn G l (a := a) (b := 0) (c := (-1))) rfl ⟨Nat.le_of_ble_eq_true rfl, Nat.le_of_ble_eq_true rfl⟩ (Nat.le_of_ble_eq_true rfl) ?_
  rw [wc_none]
  exact ww_zret K rfl dX7_isOf_13 hr ⟨rfl, rfl⟩
set_option maxRecDepth 100000 in
set_option maxHeartbeats 4000000 in
theorem ct_X7_isRepublic0 (G : EG) (l : Launch) {w : EW} {A : Nat → Int32} (hm : w[64]? = some (cO 7 [eR (65), eR (66), eI (0), eI (0), eI (0), eI (0), eI (0), eI (0), eI (0), eI (0), eR (67), eI (0), eI (0), eI (0), eI (0), eI (0), eI (0), eI (0), eI (0), eI (0), eI (0), eI (0), eI (0), eI (0), eI (0), eI (0), eI (0), eR (68), eR (69), eI (0), eI (0), eR (70), eR (71), eI (0), eI (0)])) (ha : w[65]? = some (cI 0 5768 A)) (hz : ∀ k, k < 6 → A k = 0) {a : Int32} : Ct G l yX7_isRepublic cX7_isRepublic 2 (some .boolean) 2 0 0 [eR (64), eI (a)] w (fun r w2 => r = some (eI 0) ∧ w2 = w) := by
  refine Ct_of (by decide +kernel) (Nat.le_of_ble_eq_true rfl) ?_
  intro p_ e_ s_ m_ a_ b_ t_ c_ K0 hr hin
  have K : wc_C p_ s_ m_ a_ t_ c_ G RX7 cX7_isRepublic 2 (w).length := K0
  clear K0
  refine WW_ls (ls2 := [some (eR (64)), some (eI (a))]) rfl ?_
  refine ww_aload_n K dX7_isRepublic_0 rfl ?_
  refine ww_iconst (v := 0) K dX7_isRepublic_1 rfl ?_
  refine ww_iload_n K dX7_isRepublic_2 rfl ?_
  refine ww_cV K dX7_isRepublic_3 lc_X7_144 hm ⟨_, rfl, rfl⟩ (ct_X7_isOf0 G l hm ha hz (j := 0) (a := a) (wc_vin (by decide))) rfl ⟨Nat.le_of_ble_eq_true rfl, Nat.le_of_ble_eq_true rfl⟩ (Nat.le_of_ble_eq_true rfl) ?_
  refine ww_if_ne (tgt := 11) K dX7_isRepublic_6 rfl (fun cc_ => absurd cc_ (by decide)) (fun _ => ?_)
  refine ww_iconst (v := 0) K dX7_isRepublic_9 rfl ?_
  exact ww_zret K rfl dX7_isRepublic_10 hr ⟨rfl, rfl⟩
set_option maxRecDepth 100000 in
set_option maxHeartbeats 4000000 in
theorem ct_X7_areOrders0 (G : EG) (l : Launch) {w : EW} {A : Nat → Int32} (hm : w[64]? = some (cO 7 [eR (65), eR (66), eI (0), eI (0), eI (0), eI (0), eI (0), eI (0), eI (0), eI (0), eR (67), eI (0), eI (0), eI (0), eI (0), eI (0), eI (0), eI (0), eI (0), eI (0), eI (0), eI (0), eI (0), eI (0), eI (0), eI (0), eI (0), eR (68), eR (69), eI (0), eI (0), eR (70), eR (71), eI (0), eI (0)])) (ha : w[65]? = some (cI 0 5768 A)) (hz : ∀ k, k < 6 → A k = 0) {a : Int32} : Ct G l yX7_areOrders cX7_areOrders 2 (some .boolean) 2 0 0 [eR (64), eI (a)] w (fun r w2 => r = some (eI 0) ∧ w2 = w) := by
  refine Ct_of (by decide +kernel) (Nat.le_of_ble_eq_true rfl) ?_
  intro p_ e_ s_ m_ a_ b_ t_ c_ K0 hr hin
  have K : wc_C p_ s_ m_ a_ t_ c_ G RX7 cX7_areOrders 2 (w).length := K0
  clear K0
  refine WW_ls (ls2 := [some (eR (64)), some (eI (a))]) rfl ?_
  refine ww_aload_n K dX7_areOrders_0 rfl ?_
  refine ww_iconst (v := 1) K dX7_areOrders_1 rfl ?_
  refine ww_iload_n K dX7_areOrders_2 rfl ?_
  refine ww_cV K dX7_areOrders_3 lc_X7_144 hm ⟨_, rfl, rfl⟩ (ct_X7_isOf0 G l hm ha hz (j := 1) (a := a) (wc_vin (by decide))) rfl ⟨Nat.le_of_ble_eq_true rfl, Nat.le_of_ble_eq_true rfl⟩ (Nat.le_of_ble_eq_true rfl) ?_
  refine ww_if_ne (tgt := 11) K dX7_areOrders_6 rfl (fun cc_ => absurd cc_ (by decide)) (fun _ => ?_)
  refine ww_iconst (v := 0) K dX7_areOrders_9 rfl ?_
  exact ww_zret K rfl dX7_areOrders_10 hr ⟨rfl, rfl⟩
set_option maxRecDepth 100000 in
set_option maxHeartbeats 4000000 in
theorem ct_X7_isSummer0 (G : EG) (l : Launch) {w : EW} {A : Nat → Int32} (hm : w[64]? = some (cO 7 [eR (65), eR (66), eI (0), eI (0), eI (0), eI (0), eI (0), eI (0), eI (0), eI (0), eR (67), eI (0), eI (0), eI (0), eI (0), eI (0), eI (0), eI (0), eI (0), eI (0), eI (0), eI (0), eI (0), eI (0), eI (0), eI (0), eI (0), eR (68), eR (69), eI (0), eI (0), eR (70), eR (71), eI (0), eI (0)])) (ha : w[65]? = some (cI 0 5768 A)) (hz : ∀ k, k < 6 → A k = 0) {a : Int32} : Ct G l yX7_isSummer cX7_isSummer 2 (some .boolean) 2 0 0 [eR (64), eI (a)] w (fun r w2 => r = some (eI 0) ∧ w2 = w) := by
  refine Ct_of (by decide +kernel) (Nat.le_of_ble_eq_true rfl) ?_
  intro p_ e_ s_ m_ a_ b_ t_ c_ K0 hr hin
  have K : wc_C p_ s_ m_ a_ t_ c_ G RX7 cX7_isSummer 2 (w).length := K0
  clear K0
  refine WW_ls (ls2 := [some (eR (64)), some (eI (a))]) rfl ?_
  refine ww_aload_n K dX7_isSummer_0 rfl ?_
  refine ww_iconst (v := 4) K dX7_isSummer_1 rfl ?_
  refine ww_iload_n K dX7_isSummer_2 rfl ?_
  refine ww_cV K dX7_isSummer_3 lc_X7_144 hm ⟨_, rfl, rfl⟩ (ct_X7_isOf0 G l hm ha hz (j := 4) (a := a) (wc_vin (by decide))) rfl ⟨Nat.le_of_ble_eq_true rfl, Nat.le_of_ble_eq_true rfl⟩ (Nat.le_of_ble_eq_true rfl) ?_
  refine ww_if_ne (tgt := 11) K dX7_isSummer_6 rfl (fun cc_ => absurd cc_ (by decide)) (fun _ => ?_)
  refine ww_iconst (v := 0) K dX7_isSummer_9 rfl ?_
  exact ww_zret K rfl dX7_isSummer_10 hr ⟨rfl, rfl⟩
set_option maxRecDepth 100000 in
set_option maxHeartbeats 4000000 in
theorem ct_X7_areTold0 (G : EG) (l : Launch) {w : EW} {A : Nat → Int32} (hm : w[64]? = some (cO 7 [eR (65), eR (66), eI (0), eI (0), eI (0), eI (0), eI (0), eI (0), eI (0), eI (0), eR (67), eI (0), eI (0), eI (0), eI (0), eI (0), eI (0), eI (0), eI (0), eI (0), eI (0), eI (0), eI (0), eI (0), eI (0), eI (0), eI (0), eR (68), eR (69), eI (0), eI (0), eR (70), eR (71), eI (0), eI (0)])) (ha : w[65]? = some (cI 0 5768 A)) (hz : ∀ k, k < 6 → A k = 0) {a b c : Int32} : Ct G l yX7_areTold cX7_areTold 4 (some .boolean) 3 0 0 [eR (64), eI (a), eI (b), eI (c)] w (fun r w2 => r = some (eI 0) ∧ w2 = w) := by
  refine Ct_of (by decide +kernel) (Nat.le_of_ble_eq_true rfl) ?_
  intro p_ e_ s_ m_ a_ b_ t_ c_ K0 hr hin
  have K : wc_C p_ s_ m_ a_ t_ c_ G RX7 cX7_areTold 4 (w).length := K0
  clear K0
  refine WW_ls (ls2 := [some (eR (64)), some (eI (a)), some (eI (b)), some (eI (c))]) rfl ?_
  refine ww_aload_n K dX7_areTold_0 rfl ?_
  refine ww_iload_n K dX7_areTold_1 rfl ?_
  refine ww_cV K dX7_areTold_2 lc_X7_190 hm ⟨_, rfl, rfl⟩ (ct_X7_isRepublic0 G l hm ha hz (a := a)) rfl ⟨Nat.le_of_ble_eq_true rfl, Nat.le_of_ble_eq_true rfl⟩ (Nat.le_of_ble_eq_true rfl) ?_
  refine ww_if_eq (tgt := 25) K dX7_areTold_5 rfl (fun _ => ?_) (fun cc_ => absurd cc_ (by decide))
  refine ww_iconst (v := 0) K dX7_areTold_25 rfl ?_
  exact ww_zret K rfl dX7_areTold_26 hr ⟨rfl, rfl⟩
set_option maxRecDepth 100000 in
set_option maxHeartbeats 4000000 in
theorem ct_X7_isMotion0 (G : EG) (l : Launch) {w : EW} {A : Nat → Int32} (hm : w[64]? = some (cO 7 [eR (65), eR (66), eI (0), eI (0), eI (0), eI (0), eI (0), eI (0), eI (0), eI (0), eR (67), eI (0), eI (0), eI (0), eI (0), eI (0), eI (0), eI (0), eI (0), eI (0), eI (0), eI (0), eI (0), eI (0), eI (0), eI (0), eI (0), eR (68), eR (69), eI (0), eI (0), eR (70), eR (71), eI (0), eI (0)])) (ha : w[65]? = some (cI 0 5768 A)) (hz : ∀ k, k < 6 → A k = 0) {a b c d f g : Int32} : Ct G l yX7_isMotion cX7_isMotion 7 (some .boolean) 3 0 0 [eR (64), eI (a), eI (b), eI (c), eI (d), eI (f), eI (g)] w (fun r w2 => r = some (eI 0) ∧ w2 = w) := by
  refine Ct_of (by decide +kernel) (Nat.le_of_ble_eq_true rfl) ?_
  intro p_ e_ s_ m_ a_ b_ t_ c_ K0 hr hin
  have K : wc_C p_ s_ m_ a_ t_ c_ G RX7 cX7_isMotion 7 (w).length := K0
  clear K0
  refine WW_ls (ls2 := [some (eR (64)), some (eI (a)), some (eI (b)), some (eI (c)), some (eI (d)), some (eI (f)), some (eI (g))]) rfl ?_
  refine ww_aload_n K dX7_isMotion_0 rfl ?_
  refine ww_iload_n K dX7_isMotion_1 rfl ?_
  refine ww_cV K dX7_isMotion_2 lc_X7_190 hm ⟨_, rfl, rfl⟩ (ct_X7_isRepublic0 G l hm ha hz (a := a)) rfl ⟨Nat.le_of_ble_eq_true rfl, Nat.le_of_ble_eq_true rfl⟩ (Nat.le_of_ble_eq_true rfl) ?_
  refine ww_if_eq (tgt := 37) K dX7_isMotion_5 rfl (fun _ => ?_) (fun cc_ => absurd cc_ (by decide))
  refine ww_iconst (v := 0) K dX7_isMotion_37 rfl ?_
  exact ww_zret K rfl dX7_isMotion_38 hr ⟨rfl, rfl⟩
set_option maxRecDepth 100000 in
set_option maxHeartbeats 4000000 in
theorem ct_X7_republic0 (G : EG) (l : Launch) {w : EW} {A : Nat → Int32} (hm : w[64]? = some (cO 7 [eR (65), eR (66), eI (0), eI (0), eI (0), eI (0), eI (0), eI (0), eI (0), eI (0), eR (67), eI (0), eI (0), eI (0), eI (0), eI (0), eI (0), eI (0), eI (0), eI (0), eI (0), eI (0), eI (0), eI (0), eI (0), eI (0), eI (0), eR (68), eR (69), eI (0), eI (0), eR (70), eR (71), eI (0), eI (0)])) (ha : w[65]? = some (cI 0 5768 A)) (hz : ∀ k, k < 6 → A k = 0) {a b : Int32} : Ct G l yX7_republic cX7_republic 3 (some .int) 4 0 0 [eR (64), eI (a), eI (b)] w (fun r w2 => r = some (eI (-1)) ∧ w2 = w) := by
  refine Ct_of (by decide +kernel) (Nat.le_of_ble_eq_true rfl) ?_
  intro p_ e_ s_ m_ a_ b_ t_ c_ K0 hr hin
  have K : wc_C p_ s_ m_ a_ t_ c_ G RX7 cX7_republic 3 (w).length := K0
  clear K0
  refine WW_ls (ls2 := [some (eR (64)), some (eI (a)), some (eI (b))]) rfl ?_
  refine ww_aload_n K dX7_republic_0 rfl ?_
  refine ww_iload_n K dX7_republic_1 rfl ?_
  refine ww_cV K dX7_republic_2 lc_X7_190 hm ⟨_, rfl, rfl⟩ (ct_X7_isRepublic0 G l hm ha hz (a := a)) rfl ⟨Nat.le_of_ble_eq_true rfl, Nat.le_of_ble_eq_true rfl⟩ (Nat.le_of_ble_eq_true rfl) ?_
  refine ww_if_ne (tgt := 10) K dX7_republic_5 rfl (fun cc_ => absurd cc_ (by decide)) (fun _ => ?_)
  refine ww_iconst (v := (-1)) K dX7_republic_8 rfl ?_
  exact ww_iret K dX7_republic_9 hr ⟨rfl, rfl⟩
set_option maxRecDepth 100000 in
set_option maxHeartbeats 4000000 in
theorem ct_X7_minister0 (G : EG) (l : Launch) {w : EW} {A : Nat → Int32} (hm : w[64]? = some (cO 7 [eR (65), eR (66), eI (0), eI (0), eI (0), eI (0), eI (0), eI (0), eI (0), eI (0), eR (67), eI (0), eI (0), eI (0), eI (0), eI (0), eI (0), eI (0), eI (0), eI (0), eI (0), eI (0), eI (0), eI (0), eI (0), eI (0), eI (0), eR (68), eR (69), eI (0), eI (0), eR (70), eR (71), eI (0), eI (0)])) (ha : w[65]? = some (cI 0 5768 A)) (hz : ∀ k, k < 6 → A k = 0) {a b c : Int32} : Ct G l yX7_minister cX7_minister 4 (some .int) 4 0 0 [eR (64), eI (a), eI (b), eI (c)] w (fun r w2 => r = some (eI (-1)) ∧ w2 = w) := by
  refine Ct_of (by decide +kernel) (Nat.le_of_ble_eq_true rfl) ?_
  intro p_ e_ s_ m_ a_ b_ t_ c_ K0 hr hin
  have K : wc_C p_ s_ m_ a_ t_ c_ G RX7 cX7_minister 4 (w).length := K0
  clear K0
  refine WW_ls (ls2 := [some (eR (64)), some (eI (a)), some (eI (b)), some (eI (c))]) rfl ?_
  refine ww_aload_n K dX7_minister_0 rfl ?_
  refine ww_iload_n K dX7_minister_1 rfl ?_
  refine ww_cV K dX7_minister_2 lc_X7_190 hm ⟨_, rfl, rfl⟩ (ct_X7_isRepublic0 G l hm ha hz (a := a)) rfl ⟨Nat.le_of_ble_eq_true rfl, Nat.le_of_ble_eq_true rfl⟩ (Nat.le_of_ble_eq_true rfl) ?_
  refine ww_if_eq (tgt := 16) K dX7_minister_5 rfl (fun _ => ?_) (fun cc_ => absurd cc_ (by decide))
  refine ww_iconst (v := (-1)) K dX7_minister_16 rfl ?_
  exact ww_iret K dX7_minister_17 hr ⟨rfl, rfl⟩
set_option maxRecDepth 100000 in
set_option maxHeartbeats 4000000 in
theorem ct_X7_off0 (G : EG) (l : Launch) {w : EW} {A : Nat → Int32} (hm : w[64]? = some (cO 7 [eR (65), eR (66), eI (0), eI (0), eI (0), eI (0), eI (0), eI (0), eI (0), eI (0), eR (67), eI (0), eI (0), eI (0), eI (0), eI (0), eI (0), eI (0), eI (0), eI (0), eI (0), eI (0), eI (0), eI (0), eI (0), eI (0), eI (0), eR (68), eR (69), eI (0), eI (0), eR (70), eR (71), eI (0), eI (0)])) (ha : w[65]? = some (cI 0 5768 A)) (hz : ∀ k, k < 6 → A k = 0) {a b c d f g : Int32} : Ct G l yX7_off cX7_off 7 (some .int) 4 0 0 [eR (64), eI (a), eI (b), eI (c), eI (d), eI (f), eI (g)] w (fun r w2 => r = some (eI (-1)) ∧ w2 = w) := by
  refine Ct_of (by decide +kernel) (Nat.le_of_ble_eq_true rfl) ?_
  intro p_ e_ s_ m_ a_ b_ t_ c_ K0 hr hin
  have K : wc_C p_ s_ m_ a_ t_ c_ G RX7 cX7_off 7 (w).length := K0
  clear K0
  refine WW_ls (ls2 := [some (eR (64)), some (eI (a)), some (eI (b)), some (eI (c)), some (eI (d)), some (eI (f)), some (eI (g))]) rfl ?_
  refine ww_aload_n K dX7_off_0 rfl ?_
  refine ww_iload_n K dX7_off_1 rfl ?_
  refine ww_iload_n K dX7_off_2 rfl ?_
  refine ww_iload_n K dX7_off_3 rfl ?_
  refine ww_iload K dX7_off_4 rfl ?_
  refine ww_iload K dX7_off_6 rfl ?_
  refine ww_iload K dX7_off_8 rfl ?_
  refine ww_cV K dX7_off_10 lc_X7_241 hm ⟨_, rfl, rfl⟩ (ct_X7_isMotion0 G l hm ha hz (a := a) (b := b) (c := c) (d := d) (f := f) (g := g)) rfl ⟨Nat.le_of_ble_eq_true rfl, Nat.le_of_ble_eq_true rfl⟩ (Nat.le_of_ble_eq_true rfl) ?_
  refine ww_if_eq (tgt := 24) K dX7_off_13 rfl (fun _ => ?_) (fun cc_ => absurd cc_ (by decide))
  refine ww_iconst (v := (-1)) K dX7_off_24 rfl ?_
  exact ww_iret K dX7_off_25 hr ⟨rfl, rfl⟩
set_option maxRecDepth 100000 in
set_option maxHeartbeats 4000000 in
theorem ct_X7_vote0 (G : EG) (l : Launch) {w : EW} {A : Nat → Int32} (hm : w[64]? = some (cO 7 [eR (65), eR (66), eI (0), eI (0), eI (0), eI (0), eI (0), eI (0), eI (0), eI (0), eR (67), eI (0), eI (0), eI (0), eI (0), eI (0), eI (0), eI (0), eI (0), eI (0), eI (0), eI (0), eI (0), eI (0), eI (0), eI (0), eI (0), eR (68), eR (69), eI (0), eI (0), eR (70), eR (71), eI (0), eI (0)])) (ha : w[65]? = some (cI 0 5768 A)) (hz : ∀ k, k < 6 → A k = 0) {a b c d f g h : Int32} : Ct G l yX7_vote cX7_vote 8 (some .int) 4 0 0 [eR (64), eI (a), eI (b), eI (c), eI (d), eI (f), eI (g), eI (h)] w (fun r w2 => r = some (eI (-1)) ∧ w2 = w) := by
  refine Ct_of (by decide +kernel) (Nat.le_of_ble_eq_true rfl) ?_
  intro p_ e_ s_ m_ a_ b_ t_ c_ K0 hr hin
  have K : wc_C p_ s_ m_ a_ t_ c_ G RX7 cX7_vote 8 (w).length := K0
  clear K0
  refine WW_ls (ls2 := [some (eR (64)), some (eI (a)), some (eI (b)), some (eI (c)), some (eI (d)), some (eI (f)), some (eI (g)), some (eI (h))]) rfl ?_
  refine ww_aload_n K dX7_vote_0 rfl ?_
  refine ww_iload_n K dX7_vote_1 rfl ?_
  refine ww_iload_n K dX7_vote_2 rfl ?_
  refine ww_iload_n K dX7_vote_3 rfl ?_
  refine ww_iload K dX7_vote_4 rfl ?_
  refine ww_iload K dX7_vote_6 rfl ?_
  refine ww_iload K dX7_vote_8 rfl ?_
  refine ww_cV K dX7_vote_10 lc_X7_241 hm ⟨_, rfl, rfl⟩ (ct_X7_isMotion0 G l hm ha hz (a := a) (b := b) (c := c) (d := d) (f := f) (g := g)) rfl ⟨Nat.le_of_ble_eq_true rfl, Nat.le_of_ble_eq_true rfl⟩ (Nat.le_of_ble_eq_true rfl) ?_
  refine ww_if_ne (tgt := 18) K dX7_vote_13 rfl (fun cc_ => absurd cc_ (by decide)) (fun _ => ?_)
  refine ww_iconst (v := (-1)) K dX7_vote_16 rfl ?_
  exact ww_iret K dX7_vote_17 hr ⟨rfl, rfl⟩
set_option maxRecDepth 100000 in
set_option maxHeartbeats 4000000 in
theorem ct_X7_order0 (G : EG) (l : Launch) {w : EW} {A : Nat → Int32} (hm : w[64]? = some (cO 7 [eR (65), eR (66), eI (0), eI (0), eI (0), eI (0), eI (0), eI (0), eI (0), eI (0), eR (67), eI (0), eI (0), eI (0), eI (0), eI (0), eI (0), eI (0), eI (0), eI (0), eI (0), eI (0), eI (0), eI (0), eI (0), eI (0), eI (0), eR (68), eR (69), eI (0), eI (0), eR (70), eR (71), eI (0), eI (0)])) (ha : w[65]? = some (cI 0 5768 A)) (hz : ∀ k, k < 6 → A k = 0) {a b c : Int32} : Ct G l yX7_order cX7_order 4 (some .int) 4 0 0 [eR (64), eI (a), eI (b), eI (c)] w (fun r w2 => r = some (eI (-2)) ∧ w2 = w) := by
  refine Ct_of (by decide +kernel) (Nat.le_of_ble_eq_true rfl) ?_
  intro p_ e_ s_ m_ a_ b_ t_ c_ K0 hr hin
  have K : wc_C p_ s_ m_ a_ t_ c_ G RX7 cX7_order 4 (w).length := K0
  clear K0
  refine WW_ls (ls2 := [some (eR (64)), some (eI (a)), some (eI (b)), some (eI (c))]) rfl ?_
  refine ww_aload_n K dX7_order_0 rfl ?_
  refine ww_iload_n K dX7_order_1 rfl ?_
  refine ww_cV K dX7_order_2 lc_X7_254 hm ⟨_, rfl, rfl⟩ (ct_X7_areOrders0 G l hm ha hz (a := a)) rfl ⟨Nat.le_of_ble_eq_true rfl, Nat.le_of_ble_eq_true rfl⟩ (Nat.le_of_ble_eq_true rfl) ?_
  refine ww_if_ne (tgt := 11) K dX7_order_5 rfl (fun cc_ => absurd cc_ (by decide)) (fun _ => ?_)
  refine ww_bipush (v := (-2)) K dX7_order_8 rfl ?_
  exact ww_iret K dX7_order_10 hr ⟨rfl, rfl⟩
set_option maxRecDepth 100000 in
set_option maxHeartbeats 4000000 in
theorem ct_X7_broken0 (G : EG) (l : Launch) {w : EW} {A : Nat → Int32} (hm : w[64]? = some (cO 7 [eR (65), eR (66), eI (0), eI (0), eI (0), eI (0), eI (0), eI (0), eI (0), eI (0), eR (67), eI (0), eI (0), eI (0), eI (0), eI (0), eI (0), eI (0), eI (0), eI (0), eI (0), eI (0), eI (0), eI (0), eI (0), eI (0), eI (0), eR (68), eR (69), eI (0), eI (0), eR (70), eR (71), eI (0), eI (0)])) (ha : w[65]? = some (cI 0 5768 A)) (hz : ∀ k, k < 6 → A k = 0) {a b c d f g : Int32} : Ct G l yX7_broken cX7_broken 7 (some .int) 4 0 0 [eR (64), eI (a), eI (b), eI (c), eI (d), eI (f), eI (g)] w (fun r w2 => r = some (eI (-1)) ∧ w2 = w) := by
  refine Ct_of (by decide +kernel) (Nat.le_of_ble_eq_true rfl) ?_
  intro p_ e_ s_ m_ a_ b_ t_ c_ K0 hr hin
  have K : wc_C p_ s_ m_ a_ t_ c_ G RX7 cX7_broken 7 (w).length := K0
  clear K0
  refine WW_ls (ls2 := [some (eR (64)), some (eI (a)), some (eI (b)), some (eI (c)), some (eI (d)), some (eI (f)), some (eI (g))]) rfl ?_
  refine ww_aload_n K dX7_broken_0 rfl ?_
  refine ww_iload_n K dX7_broken_1 rfl ?_
  refine ww_cV K dX7_broken_2 lc_X7_254 hm ⟨_, rfl, rfl⟩ (ct_X7_areOrders0 G l hm ha hz (a := a)) rfl ⟨Nat.le_of_ble_eq_true rfl, Nat.le_of_ble_eq_true rfl⟩ (Nat.le_of_ble_eq_true rfl) ?_
  refine ww_if_eq (tgt := 40) K dX7_broken_5 rfl (fun _ => ?_) (fun cc_ => absurd cc_ (by decide))
  refine ww_iconst (v := (-1)) K dX7_broken_40 rfl ?_
  exact ww_iret K dX7_broken_41 hr ⟨rfl, rfl⟩
set_option maxRecDepth 100000 in
set_option maxHeartbeats 4000000 in
theorem ct_X7_deed0 (G : EG) (l : Launch) {w : EW} {A : Nat → Int32} (hm : w[64]? = some (cO 7 [eR (65), eR (66), eI (0), eI (0), eI (0), eI (0), eI (0), eI (0), eI (0), eI (0), eR (67), eI (0), eI (0), eI (0), eI (0), eI (0), eI (0), eI (0), eI (0), eI (0), eI (0), eI (0), eI (0), eI (0), eI (0), eI (0), eI (0), eR (68), eR (69), eI (0), eI (0), eR (70), eR (71), eI (0), eI (0)])) (ha : w[65]? = some (cI 0 5768 A)) (hz : ∀ k, k < 6 → A k = 0) {a b c : Int32} : Ct G l yX7_deed cX7_deed 4 (some .int) 4 0 0 [eR (64), eI (a), eI (b), eI (c)] w (fun r w2 => r = some (eI (-2)) ∧ w2 = w) := by
  refine Ct_of (by decide +kernel) (Nat.le_of_ble_eq_true rfl) ?_
  intro p_ e_ s_ m_ a_ b_ t_ c_ K0 hr hin
  have K : wc_C p_ s_ m_ a_ t_ c_ G RX7 cX7_deed 4 (w).length := K0
  clear K0
  refine WW_ls (ls2 := [some (eR (64)), some (eI (a)), some (eI (b)), some (eI (c))]) rfl ?_
  refine ww_aload_n K dX7_deed_0 rfl ?_
  refine ww_iconst (v := 2) K dX7_deed_1 rfl ?_
  refine ww_iload_n K dX7_deed_2 rfl ?_
  refine ww_cV K dX7_deed_3 lc_X7_144 hm ⟨_, rfl, rfl⟩ (ct_X7_isOf0 G l hm ha hz (j := 2) (a := a) (wc_vin (by decide))) rfl ⟨Nat.le_of_ble_eq_true rfl, Nat.le_of_ble_eq_true rfl⟩ (Nat.le_of_ble_eq_true rfl) ?_
  refine ww_if_ne (tgt := 12) K dX7_deed_6 rfl (fun cc_ => absurd cc_ (by decide)) (fun _ => ?_)
  refine ww_bipush (v := (-2)) K dX7_deed_9 rfl ?_
  exact ww_iret K dX7_deed_11 hr ⟨rfl, rfl⟩
set_option maxRecDepth 100000 in
set_option maxHeartbeats 4000000 in
theorem ct_X7_stop0 (G : EG) (l : Launch) {w : EW} {A : Nat → Int32} (hm : w[64]? = some (cO 7 [eR (65), eR (66), eI (0), eI (0), eI (0), eI (0), eI (0), eI (0), eI (0), eI (0), eR (67), eI (0), eI (0), eI (0), eI (0), eI (0), eI (0), eI (0), eI (0), eI (0), eI (0), eI (0), eI (0), eI (0), eI (0), eI (0), eI (0), eR (68), eR (69), eI (0), eI (0), eR (70), eR (71), eI (0), eI (0)])) (ha : w[65]? = some (cI 0 5768 A)) (hz : ∀ k, k < 6 → A k = 0) {a b c : Int32} : Ct G l yX7_stop cX7_stop 4 (some .int) 4 0 0 [eR (64), eI (a), eI (b), eI (c)] w (fun r w2 => r = some (eI (-1)) ∧ w2 = w) := by
  refine Ct_of (by decide +kernel) (Nat.le_of_ble_eq_true rfl) ?_
  intro p_ e_ s_ m_ a_ b_ t_ c_ K0 hr hin
  have K : wc_C p_ s_ m_ a_ t_ c_ G RX7 cX7_stop 4 (w).length := K0
  clear K0
  refine WW_ls (ls2 := [some (eR (64)), some (eI (a)), some (eI (b)), some (eI (c))]) rfl ?_
  refine ww_aload_n K dX7_stop_0 rfl ?_
  refine ww_iload_n K dX7_stop_1 rfl ?_
  refine ww_iload_n K dX7_stop_2 rfl ?_
  refine ww_iload_n K dX7_stop_3 rfl ?_
  refine ww_cV K dX7_stop_4 lc_X7_330 hm ⟨_, rfl, rfl⟩ (ct_X7_areTold0 G l hm ha hz (a := a) (b := b) (c := c)) rfl ⟨Nat.le_of_ble_eq_true rfl, Nat.le_of_ble_eq_true rfl⟩ (Nat.le_of_ble_eq_true rfl) ?_
  refine ww_if_ne (tgt := 12) K dX7_stop_7 rfl (fun cc_ => absurd cc_ (by decide)) (fun _ => ?_)
  refine ww_iconst (v := (-1)) K dX7_stop_10 rfl ?_
  exact ww_iret K dX7_stop_11 hr ⟨rfl, rfl⟩
set_option maxRecDepth 100000 in
set_option maxHeartbeats 4000000 in
theorem ct_X7_state0 (G : EG) (l : Launch) {w : EW} {A : Nat → Int32} (hm : w[64]? = some (cO 7 [eR (65), eR (66), eI (0), eI (0), eI (0), eI (0), eI (0), eI (0), eI (0), eI (0), eR (67), eI (0), eI (0), eI (0), eI (0), eI (0), eI (0), eI (0), eI (0), eI (0), eI (0), eI (0), eI (0), eI (0), eI (0), eI (0), eI (0), eR (68), eR (69), eI (0), eI (0), eR (70), eR (71), eI (0), eI (0)])) (ha : w[65]? = some (cI 0 5768 A)) (hz : ∀ k, k < 6 → A k = 0) {a b c d f : Int32} : Ct G l yX7_state cX7_state 6 (some .int) 4 0 0 [eR (64), eI (a), eI (b), eI (c), eI (d), eI (f)] w (fun r w2 => r = some (eI (-2)) ∧ w2 = w) := by
  refine Ct_of (by decide +kernel) (Nat.le_of_ble_eq_true rfl) ?_
  intro p_ e_ s_ m_ a_ b_ t_ c_ K0 hr hin
  have K : wc_C p_ s_ m_ a_ t_ c_ G RX7 cX7_state 6 (w).length := K0
  clear K0
  refine WW_ls (ls2 := [some (eR (64)), some (eI (a)), some (eI (b)), some (eI (c)), some (eI (d)), some (eI (f))]) rfl ?_
  refine ww_aload_n K dX7_state_0 rfl ?_
  refine ww_iload_n K dX7_state_1 rfl ?_
  refine ww_iload_n K dX7_state_2 rfl ?_
  refine ww_iload_n K dX7_state_3 rfl ?_
  refine ww_cV K dX7_state_4 lc_X7_330 hm ⟨_, rfl, rfl⟩ (ct_X7_areTold0 G l hm ha hz (a := a) (b := b) (c := c)) rfl ⟨Nat.le_of_ble_eq_true rfl, Nat.le_of_ble_eq_true rfl⟩ (Nat.le_of_ble_eq_true rfl) ?_
  refine ww_if_eq (tgt := 15) K dX7_state_7 rfl (fun _ => ?_) (fun cc_ => absurd cc_ (by decide))
  refine ww_bipush (v := (-2)) K dX7_state_15 rfl ?_
  exact ww_iret K dX7_state_17 hr ⟨rfl, rfl⟩
set_option maxRecDepth 100000 in
set_option maxHeartbeats 4000000 in
theorem ct_X7_agreed0 (G : EG) (l : Launch) {w : EW} {A : Nat → Int32} (hm : w[64]? = some (cO 7 [eR (65), eR (66), eI (0), eI (0), eI (0), eI (0), eI (0), eI (0), eI (0), eI (0), eR (67), eI (0), eI (0), eI (0), eI (0), eI (0), eI (0), eI (0), eI (0), eI (0), eI (0), eI (0), eI (0), eI (0), eI (0), eI (0), eI (0), eR (68), eR (69), eI (0), eI (0), eR (70), eR (71), eI (0), eI (0)])) (ha : w[65]? = some (cI 0 5768 A)) (hz : ∀ k, k < 6 → A k = 0) {a b c d f : Int32} : Ct G l yX7_agreed cX7_agreed 9 (some .int) 4 0 0 [eR (64), eI (a), eI (b), eI (c), eI (d), eI (f)] w (fun r w2 => r = some (eI (-2)) ∧ w2 = w) := by
  refine Ct_of (by decide +kernel) (Nat.le_of_ble_eq_true rfl) ?_
  intro p_ e_ s_ m_ a_ b_ t_ c_ K0 hr hin
  have K : wc_C p_ s_ m_ a_ t_ c_ G RX7 cX7_agreed 9 (w).length := K0
  clear K0
  refine WW_ls (ls2 := [some (eR (64)), some (eI (a)), some (eI (b)), some (eI (c)), some (eI (d)), some (eI (f)), none, none, none]) rfl ?_
  refine ww_aload_n K dX7_agreed_0 rfl ?_
  refine ww_iload_n K dX7_agreed_1 rfl ?_
  refine ww_iload_n K dX7_agreed_2 rfl ?_
  refine ww_iload K dX7_agreed_3 rfl ?_
  refine ww_iconst (v := 0) K dX7_agreed_5 rfl ?_
  refine ww_iconst (v := 0) K dX7_agreed_6 rfl ?_
  refine ww_iconst (v := 0) K dX7_agreed_7 rfl ?_
  refine ww_cV K dX7_agreed_8 lc_X7_241 hm ⟨_, rfl, rfl⟩ (ct_X7_isMotion0 G l hm ha hz (a := a) (b := c) (c := d) (d := 0) (f := 0) (g := 0)) rfl ⟨Nat.le_of_ble_eq_true rfl, Nat.le_of_ble_eq_true rfl⟩ (Nat.le_of_ble_eq_true rfl) ?_
  refine ww_if_eq (tgt := 37) K dX7_agreed_11 rfl (fun _ => ?_) (fun cc_ => absurd cc_ (by decide))
  refine ww_bipush (v := (-2)) K dX7_agreed_37 rfl ?_
  exact ww_iret K dX7_agreed_39 hr ⟨rfl, rfl⟩
set_option maxRecDepth 100000 in
set_option maxHeartbeats 4000000 in
theorem ct_X7_power0 (G : EG) (l : Launch) {w : EW} {A : Nat → Int32} (hm : w[64]? = some (cO 7 [eR (65), eR (66), eI (0), eI (0), eI (0), eI (0), eI (0), eI (0), eI (0), eI (0), eR (67), eI (0), eI (0), eI (0), eI (0), eI (0), eI (0), eI (0), eI (0), eI (0), eI (0), eI (0), eI (0), eI (0), eI (0), eI (0), eI (0), eR (68), eR (69), eI (0), eI (0), eR (70), eR (71), eI (0), eI (0)])) (ha : w[65]? = some (cI 0 5768 A)) (hz : ∀ k, k < 6 → A k = 0) {a b c : Int32} : Ct G l yX7_power cX7_power 7 (some .int) 4 0 0 [eR (64), eI (a), eI (b), eI (c)] w (fun r w2 => r = some (eI (-1)) ∧ w2 = w) := by
  refine Ct_of (by decide +kernel) (Nat.le_of_ble_eq_true rfl) ?_
  intro p_ e_ s_ m_ a_ b_ t_ c_ K0 hr hin
  have K : wc_C p_ s_ m_ a_ t_ c_ G RX7 cX7_power 7 (w).length := K0
  clear K0
  refine WW_ls (ls2 := [some (eR (64)), some (eI (a)), some (eI (b)), some (eI (c)), none, none, none]) rfl ?_
  refine ww_aload_n K dX7_power_0 rfl ?_
  refine ww_iload_n K dX7_power_1 rfl ?_
  refine ww_cV K dX7_power_2 lc_X7_190 hm ⟨_, rfl, rfl⟩ (ct_X7_isRepublic0 G l hm ha hz (a := a)) rfl ⟨Nat.le_of_ble_eq_true rfl, Nat.le_of_ble_eq_true rfl⟩ (Nat.le_of_ble_eq_true rfl) ?_
  refine ww_if_eq (tgt := 16) K dX7_power_5 rfl (fun _ => ?_) (fun cc_ => absurd cc_ (by decide))
  refine ww_iconst (v := (-1)) K dX7_power_16 rfl ?_
  exact ww_iret K dX7_power_17 hr ⟨rfl, rfl⟩
set_option maxRecDepth 100000 in
set_option maxHeartbeats 4000000 in
theorem ct_X7_coalition0 (G : EG) (l : Launch) {w : EW} {A : Nat → Int32} (hm : w[64]? = some (cO 7 [eR (65), eR (66), eI (0), eI (0), eI (0), eI (0), eI (0), eI (0), eI (0), eI (0), eR (67), eI (0), eI (0), eI (0), eI (0), eI (0), eI (0), eI (0), eI (0), eI (0), eI (0), eI (0), eI (0), eI (0), eI (0), eI (0), eI (0), eR (68), eR (69), eI (0), eI (0), eR (70), eR (71), eI (0), eI (0)])) (ha : w[65]? = some (cI 0 5768 A)) (hz : ∀ k, k < 6 → A k = 0) {a b : Int32} : Ct G l yX7_coalition cX7_coalition 5 (some .int) 4 0 0 [eR (64), eI (a), eI (b)] w (fun r w2 => r = some (eI (-3)) ∧ w2 = w) := by
  refine Ct_of (by decide +kernel) (Nat.le_of_ble_eq_true rfl) ?_
  intro p_ e_ s_ m_ a_ b_ t_ c_ K0 hr hin
  have K : wc_C p_ s_ m_ a_ t_ c_ G RX7 cX7_coalition 5 (w).length := K0
  clear K0
  refine WW_ls (ls2 := [some (eR (64)), some (eI (a)), some (eI (b)), none, none]) rfl ?_
  refine ww_aload_n K dX7_coalition_0 rfl ?_
  refine ww_iload_n K dX7_coalition_1 rfl ?_
  refine ww_cV K dX7_coalition_2 lc_X7_190 hm ⟨_, rfl, rfl⟩ (ct_X7_isRepublic0 G l hm ha hz (a := a)) rfl ⟨Nat.le_of_ble_eq_true rfl, Nat.le_of_ble_eq_true rfl⟩ (Nat.le_of_ble_eq_true rfl) ?_
  refine ww_if_eq (tgt := 14) K dX7_coalition_5 rfl (fun _ => ?_) (fun cc_ => absurd cc_ (by decide))
  refine ww_bipush (v := (-3)) K dX7_coalition_14 rfl ?_
  exact ww_iret K dX7_coalition_16 hr ⟨rfl, rfl⟩
set_option maxRecDepth 100000 in
set_option maxHeartbeats 4000000 in
theorem ct_X7_bribe0 (G : EG) (l : Launch) {w : EW} {A : Nat → Int32} (hm : w[64]? = some (cO 7 [eR (65), eR (66), eI (0), eI (0), eI (0), eI (0), eI (0), eI (0), eI (0), eI (0), eR (67), eI (0), eI (0), eI (0), eI (0), eI (0), eI (0), eI (0), eI (0), eI (0), eI (0), eI (0), eI (0), eI (0), eI (0), eI (0), eI (0), eR (68), eR (69), eI (0), eI (0), eR (70), eR (71), eI (0), eI (0)])) (ha : w[65]? = some (cI 0 5768 A)) (hz : ∀ k, k < 6 → A k = 0) {a b c d f g h : Int32} : Ct G l yX7_bribe cX7_bribe 13 (some .int) 4 0 0 [eR (64), eI (a), eI (b), eI (c), eI (d), eI (f), eI (g), eI (h)] w (fun r w2 => r = some (eI (-1)) ∧ w2 = w) := by
  refine Ct_of (by decide +kernel) (Nat.le_of_ble_eq_true rfl) ?_
  intro p_ e_ s_ m_ a_ b_ t_ c_ K0 hr hin
  have K : wc_C p_ s_ m_ a_ t_ c_ G RX7 cX7_bribe 13 (w).length := K0
  clear K0
  refine WW_ls (ls2 := [some (eR (64)), some (eI (a)), some (eI (b)), some (eI (c)), some (eI (d)), some (eI (f)), some (eI (g)), some (eI (h)), none, none, none, none, none]) rfl ?_
  refine ww_aload_n K dX7_bribe_0 rfl ?_
  refine ww_iload_n K dX7_bribe_1 rfl ?_
  refine ww_iload_n K dX7_bribe_2 rfl ?_
  refine ww_iload_n K dX7_bribe_3 rfl ?_
  refine ww_iload K dX7_bribe_4 rfl ?_
  refine ww_iload K dX7_bribe_6 rfl ?_
  refine ww_iload K dX7_bribe_8 rfl ?_
  refine ww_cV K dX7_bribe_10 lc_X7_241 hm ⟨_, rfl, rfl⟩ (ct_X7_isMotion0 G l hm ha hz (a := a) (b := b) (c := c) (d := d) (f := f) (g := g)) rfl ⟨Nat.le_of_ble_eq_true rfl, Nat.le_of_ble_eq_true rfl⟩ (Nat.le_of_ble_eq_true rfl) ?_
  refine ww_if_ne (tgt := 18) K dX7_bribe_13 rfl (fun cc_ => absurd cc_ (by decide)) (fun _ => ?_)
  refine ww_iconst (v := (-1)) K dX7_bribe_16 rfl ?_
  exact ww_iret K dX7_bribe_17 hr ⟨rfl, rfl⟩
set_option maxRecDepth 100000 in
set_option maxHeartbeats 4000000 in
theorem ct_X7_lobby0 (G : EG) (l : Launch) {w : EW} {A : Nat → Int32} (hm : w[64]? = some (cO 7 [eR (65), eR (66), eI (0), eI (0), eI (0), eI (0), eI (0), eI (0), eI (0), eI (0), eR (67), eI (0), eI (0), eI (0), eI (0), eI (0), eI (0), eI (0), eI (0), eI (0), eI (0), eI (0), eI (0), eI (0), eI (0), eI (0), eI (0), eR (68), eR (69), eI (0), eI (0), eR (70), eR (71), eI (0), eI (0)])) (ha : w[65]? = some (cI 0 5768 A)) (hz : ∀ k, k < 6 → A k = 0) {a b c d f g h : Int32} : Ct G l yX7_lobby cX7_lobby 11 (some .int) 4 0 0 [eR (64), eI (a), eI (b), eI (c), eI (d), eI (f), eI (g), eI (h)] w (fun r w2 => r = some (eI (-1)) ∧ w2 = w) := by
  refine Ct_of (by decide +kernel) (Nat.le_of_ble_eq_true rfl) ?_
  intro p_ e_ s_ m_ a_ b_ t_ c_ K0 hr hin
  have K : wc_C p_ s_ m_ a_ t_ c_ G RX7 cX7_lobby 11 (w).length := K0
  clear K0
  refine WW_ls (ls2 := [some (eR (64)), some (eI (a)), some (eI (b)), some (eI (c)), some (eI (d)), some (eI (f)), some (eI (g)), some (eI (h)), none, none, none]) rfl ?_
  refine ww_aload_n K dX7_lobby_0 rfl ?_
  refine ww_iload_n K dX7_lobby_1 rfl ?_
  refine ww_iload_n K dX7_lobby_2 rfl ?_
  refine ww_iload_n K dX7_lobby_3 rfl ?_
  refine ww_iload K dX7_lobby_4 rfl ?_
  refine ww_iload K dX7_lobby_6 rfl ?_
  refine ww_iload K dX7_lobby_8 rfl ?_
  refine ww_cV K dX7_lobby_10 lc_X7_241 hm ⟨_, rfl, rfl⟩ (ct_X7_isMotion0 G l hm ha hz (a := a) (b := b) (c := c) (d := d) (f := f) (g := g)) rfl ⟨Nat.le_of_ble_eq_true rfl, Nat.le_of_ble_eq_true rfl⟩ (Nat.le_of_ble_eq_true rfl) ?_
  refine ww_if_eq (tgt := 22) K dX7_lobby_13 rfl (fun _ => ?_) (fun cc_ => absurd cc_ (by decide))
  refine ww_iconst (v := (-1)) K dX7_lobby_22 rfl ?_
  exact ww_iret K dX7_lobby_23 hr ⟨rfl, rfl⟩
set_option maxRecDepth 100000 in
set_option maxHeartbeats 4000000 in
theorem ct_X7_bargain0 (G : EG) (l : Launch) {w : EW} {A : Nat → Int32} (hm : w[64]? = some (cO 7 [eR (65), eR (66), eI (0), eI (0), eI (0), eI (0), eI (0), eI (0), eI (0), eI (0), eR (67), eI (0), eI (0), eI (0), eI (0), eI (0), eI (0), eI (0), eI (0), eI (0), eI (0), eI (0), eI (0), eI (0), eI (0), eI (0), eI (0), eR (68), eR (69), eI (0), eI (0), eR (70), eR (71), eI (0), eI (0)])) (ha : w[65]? = some (cI 0 5768 A)) (hz : ∀ k, k < 6 → A k = 0) {a b c : Int32} : Ct G l yX7_bargain cX7_bargain 10 (some .int) 4 0 0 [eR (64), eI (a), eI (b), eI (c)] w (fun r w2 => r = some (eI (-2)) ∧ w2 = w) := by
  refine Ct_of (by decide +kernel) (Nat.le_of_ble_eq_true rfl) ?_
  intro p_ e_ s_ m_ a_ b_ t_ c_ K0 hr hin
  have K : wc_C p_ s_ m_ a_ t_ c_ G RX7 cX7_bargain 10 (w).length := K0
  clear K0
  refine WW_ls (ls2 := [some (eR (64)), some (eI (a)), some (eI (b)), some (eI (c)), none, none, none, none, none, none]) rfl ?_
  refine ww_aload_n K dX7_bargain_0 rfl ?_
  refine ww_iconst (v := 5) K dX7_bargain_1 rfl ?_
  refine ww_iload_n K dX7_bargain_2 rfl ?_
  refine ww_cV K dX7_bargain_3 lc_X7_144 hm ⟨_, rfl, rfl⟩ (ct_X7_isOf0 G l hm ha hz (j := 5) (a := b) (wc_vin (by decide))) rfl ⟨Nat.le_of_ble_eq_true rfl, Nat.le_of_ble_eq_true rfl⟩ (Nat.le_of_ble_eq_true rfl) ?_
  refine ww_if_eq (tgt := 17) K dX7_bargain_6 rfl (fun _ => ?_) (fun cc_ => absurd cc_ (by decide))
  refine ww_bipush (v := (-2)) K dX7_bargain_17 rfl ?_
  exact ww_iret K dX7_bargain_19 hr ⟨rfl, rfl⟩
set_option maxRecDepth 100000 in
set_option maxHeartbeats 4000000 in
theorem ct_X7_was0 (G : EG) (l : Launch) {w : EW} {A : Nat → Int32} (hm : w[64]? = some (cO 7 [eR (65), eR (66), eI (0), eI (0), eI (0), eI (0), eI (0), eI (0), eI (0), eI (0), eR (67), eI (0), eI (0), eI (0), eI (0), eI (0), eI (0), eI (0), eI (0), eI (0), eI (0), eI (0), eI (0), eI (0), eI (0), eI (0), eI (0), eR (68), eR (69), eI (0), eI (0), eR (70), eR (71), eI (0), eI (0)])) (ha : w[65]? = some (cI 0 5768 A)) (hz : ∀ k, k < 6 → A k = 0) {a b c : Int32} : Ct G l yX7_was cX7_was 4 (some .int) 4 0 0 [eR (64), eI (a), eI (b), eI (c)] w (fun r w2 => r = some (eI (-2)) ∧ w2 = w) := by
  refine Ct_of (by decide +kernel) (Nat.le_of_ble_eq_true rfl) ?_
  intro p_ e_ s_ m_ a_ b_ t_ c_ K0 hr hin
  have K : wc_C p_ s_ m_ a_ t_ c_ G RX7 cX7_was 4 (w).length := K0
  clear K0
  refine WW_ls (ls2 := [some (eR (64)), some (eI (a)), some (eI (b)), some (eI (c))]) rfl ?_
  refine ww_aload_n K dX7_was_0 rfl ?_
  refine ww_iload_n K dX7_was_1 rfl ?_
  refine ww_cV K dX7_was_2 lc_X7_387 hm ⟨_, rfl, rfl⟩ (ct_X7_isSummer0 G l hm ha hz (a := a)) rfl ⟨Nat.le_of_ble_eq_true rfl, Nat.le_of_ble_eq_true rfl⟩ (Nat.le_of_ble_eq_true rfl) ?_
  refine ww_if_ne (tgt := 11) K dX7_was_5 rfl (fun cc_ => absurd cc_ (by decide)) (fun _ => ?_)
  refine ww_bipush (v := (-2)) K dX7_was_8 rfl ?_
  exact ww_iret K dX7_was_10 hr ⟨rfl, rfl⟩
set_option maxRecDepth 100000 in
set_option maxHeartbeats 4000000 in
theorem ct_X7_nature0 (G : EG) (l : Launch) {w : EW} {A : Nat → Int32} (hm : w[64]? = some (cO 7 [eR (65), eR (66), eI (0), eI (0), eI (0), eI (0), eI (0), eI (0), eI (0), eI (0), eR (67), eI (0), eI (0), eI (0), eI (0), eI (0), eI (0), eI (0), eI (0), eI (0), eI (0), eI (0), eI (0), eI (0), eI (0), eI (0), eI (0), eR (68), eR (69), eI (0), eI (0), eR (70), eR (71), eI (0), eI (0)])) (ha : w[65]? = some (cI 0 5768 A)) (hz : ∀ k, k < 6 → A k = 0) {a b c : Int32} : Ct G l yX7_nature cX7_nature 5 (some .int) 4 0 0 [eR (64), eI (a), eI (b), eI (c)] w (fun r w2 => r = some (eI (-2)) ∧ w2 = w) := by
  refine Ct_of (by decide +kernel) (Nat.le_of_ble_eq_true rfl) ?_
  intro p_ e_ s_ m_ a_ b_ t_ c_ K0 hr hin
  have K : wc_C p_ s_ m_ a_ t_ c_ G RX7 cX7_nature 5 (w).length := K0
  clear K0
  refine WW_ls (ls2 := [some (eR (64)), some (eI (a)), some (eI (b)), some (eI (c)), none]) rfl ?_
  refine ww_aload_n K dX7_nature_0 rfl ?_
  refine ww_iload_n K dX7_nature_1 rfl ?_
  refine ww_cV K dX7_nature_2 lc_X7_190 hm ⟨_, rfl, rfl⟩ (ct_X7_isRepublic0 G l hm ha hz (a := a)) rfl ⟨Nat.le_of_ble_eq_true rfl, Nat.le_of_ble_eq_true rfl⟩ (Nat.le_of_ble_eq_true rfl) ?_
  refine ww_if_eq (tgt := 16) K dX7_nature_5 rfl (fun _ => ?_) (fun cc_ => absurd cc_ (by decide))
  refine ww_bipush (v := (-2)) K dX7_nature_16 rfl ?_
  exact ww_iret K dX7_nature_18 hr ⟨rfl, rfl⟩
set_option maxRecDepth 100000 in
set_option maxHeartbeats 4000000 in
theorem ct_X7_seats0 (G : EG) (l : Launch) {w : EW} {A : Nat → Int32} (hm : w[64]? = some (cO 7 [eR (65), eR (66), eI (0), eI (0), eI (0), eI (0), eI (0), eI (0), eI (0), eI (0), eR (67), eI (0), eI (0), eI (0), eI (0), eI (0), eI (0), eI (0), eI (0), eI (0), eI (0), eI (0), eI (0), eI (0), eI (0), eI (0), eI (0), eR (68), eR (69), eI (0), eI (0), eR (70), eR (71), eI (0), eI (0)])) (ha : w[65]? = some (cI 0 5768 A)) (hz : ∀ k, k < 6 → A k = 0) {a b c : Int32} : Ct G l yX7_seats cX7_seats 6 (some .int) 4 0 0 [eR (64), eI (a), eI (b), eI (c)] w (fun r w2 => r = some (eI (-4)) ∧ w2 = w) := by
  refine Ct_of (by decide +kernel) (Nat.le_of_ble_eq_true rfl) ?_
  intro p_ e_ s_ m_ a_ b_ t_ c_ K0 hr hin
  have K : wc_C p_ s_ m_ a_ t_ c_ G RX7 cX7_seats 6 (w).length := K0
  clear K0
  refine WW_ls (ls2 := [some (eR (64)), some (eI (a)), some (eI (b)), some (eI (c)), none, none]) rfl ?_
  refine ww_aload_n K dX7_seats_0 rfl ?_
  refine ww_iload_n K dX7_seats_1 rfl ?_
  refine ww_cV K dX7_seats_2 lc_X7_190 hm ⟨_, rfl, rfl⟩ (ct_X7_isRepublic0 G l hm ha hz (a := a)) rfl ⟨Nat.le_of_ble_eq_true rfl, Nat.le_of_ble_eq_true rfl⟩ (Nat.le_of_ble_eq_true rfl) ?_
  refine ww_if_eq (tgt := 22) K dX7_seats_5 rfl (fun _ => ?_) (fun cc_ => absurd cc_ (by decide))
  refine ww_bipush (v := (-4)) K dX7_seats_22 rfl ?_
  exact ww_iret K dX7_seats_24 hr ⟨rfl, rfl⟩
set_option maxRecDepth 100000 in
set_option maxHeartbeats 4000000 in
theorem ct_X7_reshuffle0 (G : EG) (l : Launch) {w : EW} {A : Nat → Int32} (hm : w[64]? = some (cO 7 [eR (65), eR (66), eI (0), eI (0), eI (0), eI (0), eI (0), eI (0), eI (0), eI (0), eR (67), eI (0), eI (0), eI (0), eI (0), eI (0), eI (0), eI (0), eI (0), eI (0), eI (0), eI (0), eI (0), eI (0), eI (0), eI (0), eI (0), eR (68), eR (69), eI (0), eI (0), eR (70), eR (71), eI (0), eI (0)])) (ha : w[65]? = some (cI 0 5768 A)) (hz : ∀ k, k < 6 → A k = 0) {a b : Int32} : Ct G l yX7_reshuffle cX7_reshuffle 7 (some .int) 4 0 0 [eR (64), eI (a), eI (b)] w (fun r w2 => r = some (eI (-1)) ∧ w2 = w) := by
  refine Ct_of (by decide +kernel) (Nat.le_of_ble_eq_true rfl) ?_
  intro p_ e_ s_ m_ a_ b_ t_ c_ K0 hr hin
  have K : wc_C p_ s_ m_ a_ t_ c_ G RX7 cX7_reshuffle 7 (w).length := K0
  clear K0
  refine WW_ls (ls2 := [some (eR (64)), some (eI (a)), some (eI (b)), none, none, none, none]) rfl ?_
  refine ww_aload_n K dX7_reshuffle_0 rfl ?_
  refine ww_iload_n K dX7_reshuffle_1 rfl ?_
  refine ww_cV K dX7_reshuffle_2 lc_X7_190 hm ⟨_, rfl, rfl⟩ (ct_X7_isRepublic0 G l hm ha hz (a := a)) rfl ⟨Nat.le_of_ble_eq_true rfl, Nat.le_of_ble_eq_true rfl⟩ (Nat.le_of_ble_eq_true rfl) ?_
  refine ww_if_ne (tgt := 10) K dX7_reshuffle_5 rfl (fun cc_ => absurd cc_ (by decide)) (fun _ => ?_)
  refine ww_iconst (v := (-1)) K dX7_reshuffle_8 rfl ?_
  exact ww_iret K dX7_reshuffle_9 hr ⟨rfl, rfl⟩
set_option maxRecDepth 100000 in
set_option maxHeartbeats 4000000 in
theorem ct_X7_leak0 (G : EG) (l : Launch) {w : EW} {A : Nat → Int32} (hm : w[64]? = some (cO 7 [eR (65), eR (66), eI (0), eI (0), eI (0), eI (0), eI (0), eI (0), eI (0), eI (0), eR (67), eI (0), eI (0), eI (0), eI (0), eI (0), eI (0), eI (0), eI (0), eI (0), eI (0), eI (0), eI (0), eI (0), eI (0), eI (0), eI (0), eR (68), eR (69), eI (0), eI (0), eR (70), eR (71), eI (0), eI (0)])) (ha : w[65]? = some (cI 0 5768 A)) (hz : ∀ k, k < 6 → A k = 0) {a b c : Int32} : Ct G l yX7_leak cX7_leak 4 (some .int) 4 0 0 [eR (64), eI (a), eI (b), eI (c)] w (fun r w2 => r = some (eI (-2)) ∧ w2 = w) := by
  refine Ct_of (by decide +kernel) (Nat.le_of_ble_eq_true rfl) ?_
  intro p_ e_ s_ m_ a_ b_ t_ c_ K0 hr hin
  have K : wc_C p_ s_ m_ a_ t_ c_ G RX7 cX7_leak 4 (w).length := K0
  clear K0
  refine WW_ls (ls2 := [some (eR (64)), some (eI (a)), some (eI (b)), some (eI (c))]) rfl ?_
  refine ww_aload_n K dX7_leak_0 rfl ?_
  refine ww_iconst (v := 3) K dX7_leak_1 rfl ?_
  refine ww_iload_n K dX7_leak_2 rfl ?_
  refine ww_cV K dX7_leak_3 lc_X7_144 hm ⟨_, rfl, rfl⟩ (ct_X7_isOf0 G l hm ha hz (j := 3) (a := a) (wc_vin (by decide))) rfl ⟨Nat.le_of_ble_eq_true rfl, Nat.le_of_ble_eq_true rfl⟩ (Nat.le_of_ble_eq_true rfl) ?_
  refine ww_if_ne (tgt := 12) K dX7_leak_6 rfl (fun cc_ => absurd cc_ (by decide)) (fun _ => ?_)
  refine ww_bipush (v := (-2)) K dX7_leak_9 rfl ?_
  exact ww_iret K dX7_leak_11 hr ⟨rfl, rfl⟩
set_option maxRecDepth 100000 in
set_option maxHeartbeats 4000000 in
theorem ct_X7_fits0 (G : EG) (l : Launch) {w : EW} {A : Nat → Int32} (hm : w[64]? = some (cO 7 [eR (65), eR (66), eI (0), eI (0), eI (0), eI (0), eI (0), eI (0), eI (0), eI (0), eR (67), eI (0), eI (0), eI (0), eI (0), eI (0), eI (0), eI (0), eI (0), eI (0), eI (0), eI (0), eI (0), eI (0), eI (0), eI (0), eI (0), eR (68), eR (69), eI (0), eI (0), eR (70), eR (71), eI (0), eI (0)])) (ha : w[65]? = some (cI 0 5768 A)) (hz : ∀ k, k < 6 → A k = 0) {a b c d f : Int32} : Ct G l yX7_fits cX7_fits 9 (some .int) 4 0 0 [eR (64), eI (a), eI (b), eI (c), eI (d), eI (f)] w (fun r w2 => r = some (eI (-2)) ∧ w2 = w) := by
  refine Ct_of (by decide +kernel) (Nat.le_of_ble_eq_true rfl) ?_
  intro p_ e_ s_ m_ a_ b_ t_ c_ K0 hr hin
  have K : wc_C p_ s_ m_ a_ t_ c_ G RX7 cX7_fits 9 (w).length := K0
  clear K0
  refine WW_ls (ls2 := [some (eR (64)), some (eI (a)), some (eI (b)), some (eI (c)), some (eI (d)), some (eI (f)), none, none, none]) rfl ?_
  refine ww_aload_n K dX7_fits_0 rfl ?_
  refine ww_iload_n K dX7_fits_1 rfl ?_
  refine ww_iload_n K dX7_fits_2 rfl ?_
  refine ww_iload K dX7_fits_3 rfl ?_
  refine ww_iconst (v := 0) K dX7_fits_5 rfl ?_
  refine ww_iconst (v := 0) K dX7_fits_6 rfl ?_
  refine ww_iconst (v := 0) K dX7_fits_7 rfl ?_
  refine ww_cV K dX7_fits_8 lc_X7_241 hm ⟨_, rfl, rfl⟩ (ct_X7_isMotion0 G l hm ha hz (a := a) (b := c) (c := d) (d := 0) (f := 0) (g := 0)) rfl ⟨Nat.le_of_ble_eq_true rfl, Nat.le_of_ble_eq_true rfl⟩ (Nat.le_of_ble_eq_true rfl) ?_
  refine ww_if_eq (tgt := 23) K dX7_fits_11 rfl (fun _ => ?_) (fun cc_ => absurd cc_ (by decide))
  refine ww_bipush (v := (-2)) K dX7_fits_23 rfl ?_
  exact ww_iret K dX7_fits_25 hr ⟨rfl, rfl⟩
set_option maxRecDepth 100000 in
set_option maxHeartbeats 4000000 in
theorem ct_X7_drawn0 (G : EG) (l : Launch) {w : EW} {A : Nat → Int32} (hm : w[64]? = some (cO 7 [eR (65), eR (66), eI (0), eI (0), eI (0), eI (0), eI (0), eI (0), eI (0), eI (0), eR (67), eI (0), eI (0), eI (0), eI (0), eI (0), eI (0), eI (0), eI (0), eI (0), eI (0), eI (0), eI (0), eI (0), eI (0), eI (0), eI (0), eR (68), eR (69), eI (0), eI (0), eR (70), eR (71), eI (0), eI (0)])) (ha : w[65]? = some (cI 0 5768 A)) (hz : ∀ k, k < 6 → A k = 0) {a b c d : Int32} : Ct G l yX7_drawn cX7_drawn 12 (some .int) 4 0 0 [eR (64), eI (a), eI (b), eI (c), eI (d)] w (fun r w2 => r = some (eI (-2)) ∧ w2 = w) := by
  refine Ct_of (by decide +kernel) (Nat.le_of_ble_eq_true rfl) ?_
  intro p_ e_ s_ m_ a_ b_ t_ c_ K0 hr hin
  have K : wc_C p_ s_ m_ a_ t_ c_ G RX7 cX7_drawn 12 (w).length := K0
  clear K0
  refine WW_ls (ls2 := [some (eR (64)), some (eI (a)), some (eI (b)), some (eI (c)), some (eI (d)), none, none, none, none, none, none, none]) rfl ?_
  refine ww_aload_n K dX7_drawn_0 rfl ?_
  refine ww_iload_n K dX7_drawn_1 rfl ?_
  refine ww_cV K dX7_drawn_2 lc_X7_190 hm ⟨_, rfl, rfl⟩ (ct_X7_isRepublic0 G l hm ha hz (a := a)) rfl ⟨Nat.le_of_ble_eq_true rfl, Nat.le_of_ble_eq_true rfl⟩ (Nat.le_of_ble_eq_true rfl) ?_
  refine ww_if_eq (tgt := 29) K dX7_drawn_5 rfl (fun _ => ?_) (fun cc_ => absurd cc_ (by decide))
  refine ww_bipush (v := (-2)) K dX7_drawn_29 rfl ?_
  exact ww_iret K dX7_drawn_31 hr ⟨rfl, rfl⟩
