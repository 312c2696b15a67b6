set_option maxRecDepth 100000 in
set_option maxHeartbeats 4000000 in
theorem ct_X6_cell (G : EG) (l : Launch) {w : EW} {k n : Nat} {f : Nat → Int32} {i : Int32} (hk : w[k]? = some (cI 0 n f)) (hn : n < 2147483648) (hi : vp_in i n) : Ct G l yX6_cell cX6_cell 2 (some .int) 0 0 0 [eR (k), eI (i)] w (fun r w2 => r = some (eI (f i.toNatClampNeg)) ∧ w2 = w) := by
  refine Ct_of (by decide +kernel) (Nat.le_of_ble_eq_true rfl) ?_
  intro p_ e_ s_ m_ a_ b_ t_ c_ K0 hr hin
  have K : wc_C p_ s_ m_ a_ t_ c_ G RX6 cX6_cell 2 (w).length := K0
  clear K0
  refine WW_ls (ls2 := [some (eR (k)), some (eI (i))]) rfl ?_
  refine ww_iload_n K dX6_cell_0 rfl ?_
  refine ww_if_lt (tgt := 16) K dX6_cell_1 rfl (fun cc_ => absurd cc_ (fun q => hi (Or.inl q))) (fun _ => ?_)
  refine ww_iload_n K dX6_cell_4 rfl ?_
  refine ww_aload_n K dX6_cell_5 rfl ?_
  refine ww_alen K dX6_cell_6 hk (by decide) ?_
  refine ww_icmp_ge (tgt := 16) K dX6_cell_7 rfl (fun cc_ => absurd cc_ (wc_lt_of hn hi)) (fun _ => ?_)
  refine ww_aload_n K dX6_cell_10 rfl ?_
  refine ww_iload_n K dX6_cell_11 rfl ?_
  refine ww_iald K dX6_cell_12 hk hi ?_
  refine ww_goto (tgt := 17) K dX6_cell_13 rfl ?_
  exact ww_iret K dX6_cell_17 hr ⟨rfl, rfl⟩
set_option maxRecDepth 100000 in
set_option maxHeartbeats 4000000 in
theorem ct_X6_put (G : EG) (l : Launch) {w : EW} {k n : Nat} {f : Nat → Int32} {i x : Int32} (hk : w[k]? = some (cI 0 n f)) (hn : n < 2147483648) (hi : vp_in i n) : Ct G l yX6_put cX6_put 3 none 0 0 0 [eR (k), eI (i), eI (x)] w (fun r w2 => r = none ∧ (w2[k]? = some (cI 0 n (upd f i.toNatClampNeg x)) ∧ wc_same [k] w w2)) := by
  refine Ct_of (by decide +kernel) (Nat.le_of_ble_eq_true rfl) ?_
  intro p_ e_ s_ m_ a_ b_ t_ c_ K0 hr hin
  have K : wc_C p_ s_ m_ a_ t_ c_ G RX6 cX6_put 3 (w).length := K0
  clear K0
  refine WW_ls (ls2 := [some (eR (k)), some (eI (i)), some (eI (x))]) rfl ?_
  refine ww_iload_n K dX6_put_0 rfl ?_
  refine ww_if_lt (tgt := 14) K dX6_put_1 rfl (fun cc_ => absurd cc_ (fun q => hi (Or.inl q))) (fun _ => ?_)
  refine ww_iload_n K dX6_put_4 rfl ?_
  refine ww_aload_n K dX6_put_5 rfl ?_
  refine ww_alen K dX6_put_6 hk (by decide) ?_
  refine ww_icmp_ge (tgt := 14) K dX6_put_7 rfl (fun cc_ => absurd cc_ (wc_lt_of hn hi)) (fun _ => ?_)
  refine ww_aload_n K dX6_put_10 rfl ?_
  refine ww_iload_n K dX6_put_11 rfl ?_
  refine ww_iload_n K dX6_put_12 rfl ?_
  refine ww_iastX K dX6_put_13 hk hi (fun w1 hln_w1 hk1 hne_w1 => ?_)
  exact ww_vret K dX6_put_14 hr ⟨rfl, hk1, wc_same.put wc_same.rf (by simp) hne_w1⟩
set_option maxRecDepth 100000 in
set_option maxHeartbeats 4000000 in
theorem ct_X6_isAmount (G : EG) (l : Launch) {w : EW} {a : Int32} : Ct G l yX6_isAmount cX6_isAmount 1 (some .boolean) 0 0 0 [eI (a)] w (fun r w2 => (∃ x : Int32, r = some (eI x) ∧ (w2 = w))) := by
  refine Ct_of (by decide +kernel) (Nat.le_of_ble_eq_true rfl) ?_
  intro p_ e_ s_ m_ a_ b_ t_ c_ K0 hr hin
  have K : wc_C p_ s_ m_ a_ t_ c_ G RX6 cX6_isAmount 1 (w).length := K0
  clear K0
  refine WW_ls (ls2 := [some (eI (a))]) rfl ?_
  refine ww_iload_n K dX6_isAmount_0 rfl ?_
  refine ww_if_lt (tgt := 14) K dX6_isAmount_1 rfl (fun c_1 => ?_) (fun c_1 => ?_)
  · refine ww_iconst (v := 0) K dX6_isAmount_14 rfl ?_
    exact ww_zret K rfl dX6_isAmount_15 hr ⟨_, rfl, rfl⟩
  · refine ww_iload_n K dX6_isAmount_4 rfl ?_
    refine ww_bipush (v := 10) K dX6_isAmount_5 rfl ?_
    refine ww_icmp_ge (tgt := 14) K dX6_isAmount_7 rfl (fun c_7 => ?_) (fun c_7 => ?_)
    · refine ww_iconst (v := 0) K dX6_isAmount_14 rfl ?_
      exact ww_zret K rfl dX6_isAmount_15 hr ⟨_, rfl, rfl⟩
    · refine ww_iconst (v := 1) K dX6_isAmount_10 rfl ?_
      refine ww_goto (tgt := 15) K dX6_isAmount_11 rfl ?_
      exact ww_zret K rfl dX6_isAmount_15 hr ⟨_, rfl, rfl⟩
set_option maxRecDepth 100000 in
set_option maxHeartbeats 4000000 in
theorem ct_X6_isSeason (G : EG) (l : Launch) {w : EW} {a : Int32} : Ct G l yX6_isSeason cX6_isSeason 1 (some .boolean) 0 0 0 [eI (a)] w (fun r w2 => (∃ x : Int32, r = some (eI x) ∧ (w2 = w))) := by
  refine Ct_of (by decide +kernel) (Nat.le_of_ble_eq_true rfl) ?_
  intro p_ e_ s_ m_ a_ b_ t_ c_ K0 hr hin
  have K : wc_C p_ s_ m_ a_ t_ c_ G RX6 cX6_isSeason 1 (w).length := K0
  clear K0
  refine WW_ls (ls2 := [some (eI (a))]) rfl ?_
  refine ww_iload_n K dX6_isSeason_0 rfl ?_
  refine ww_if_lt (tgt := 13) K dX6_isSeason_1 rfl (fun c_1 => ?_) (fun c_1 => ?_)
  · refine ww_iconst (v := 0) K dX6_isSeason_13 rfl ?_
    exact ww_zret K rfl dX6_isSeason_14 hr ⟨_, rfl, rfl⟩
  · refine ww_iload_n K dX6_isSeason_4 rfl ?_
    refine ww_iconst (v := 4) K dX6_isSeason_5 rfl ?_
    refine ww_icmp_ge (tgt := 13) K dX6_isSeason_6 rfl (fun c_6 => ?_) (fun c_6 => ?_)
    · refine ww_iconst (v := 0) K dX6_isSeason_13 rfl ?_
      exact ww_zret K rfl dX6_isSeason_14 hr ⟨_, rfl, rfl⟩
    · refine ww_iconst (v := 1) K dX6_isSeason_9 rfl ?_
      refine ww_goto (tgt := 14) K dX6_isSeason_10 rfl ?_
      exact ww_zret K rfl dX6_isSeason_14 hr ⟨_, rfl, rfl⟩
set_option maxRecDepth 100000 in
set_option maxHeartbeats 4000000 in
theorem ct_X6_numberOf (G : EG) (l : Launch) {w : EW} {a b c : Int32} : Ct G l yX6_numberOf cX6_numberOf 3 (some .int) 0 0 0 [eI (a), eI (b), eI (c)] w (fun r w2 => r = some (eI ((a * 10 + b) * 10 + c)) ∧ w2 = w) := by
  refine Ct_of (by decide +kernel) (Nat.le_of_ble_eq_true rfl) ?_
  intro p_ e_ s_ m_ a_ b_ t_ c_ K0 hr hin
  have K : wc_C p_ s_ m_ a_ t_ c_ G RX6 cX6_numberOf 3 (w).length := K0
  clear K0
  refine WW_ls (ls2 := [some (eI (a)), some (eI (b)), some (eI (c))]) rfl ?_
  refine ww_iload_n K dX6_numberOf_0 rfl ?_
  refine ww_bipush (v := 10) K dX6_numberOf_1 rfl ?_
  refine ww_imul K dX6_numberOf_3 ?_
  refine ww_iload_n K dX6_numberOf_4 rfl ?_
  refine ww_iadd K dX6_numberOf_5 ?_
  refine ww_bipush (v := 10) K dX6_numberOf_6 rfl ?_
  refine ww_imul K dX6_numberOf_8 ?_
  refine ww_iload_n K dX6_numberOf_9 rfl ?_
  refine ww_iadd K dX6_numberOf_10 ?_
  exact ww_iret K dX6_numberOf_11 hr ⟨rfl, rfl⟩
set_option maxRecDepth 100000 in
set_option maxHeartbeats 4000000 in
theorem ct_X6_dayOf (G : EG) (l : Launch) {w : EW} {a b c : Int32} : Ct G l yX6_dayOf cX6_dayOf 3 (some .int) 1 0 0 [eI (a), eI (b), eI (c)] w (fun r w2 => (∃ x : Int32, r = some (eI x) ∧ (w2 = w))) := by
  refine Ct_of (by decide +kernel) (Nat.le_of_ble_eq_true rfl) ?_
  intro p_ e_ s_ m_ a_ b_ t_ c_ K0 hr hin
  have K : wc_C p_ s_ m_ a_ t_ c_ G RX6 cX6_dayOf 3 (w).length := K0
  clear K0
  refine WW_ls (ls2 := [some (eI (a)), some (eI (b)), some (eI (c))]) rfl ?_
  refine ww_iload_n K dX6_dayOf_0 rfl ?_
  refine ww_xS K dX6_dayOf_1 lc_X6_419 (ct_X6_isAmount G l (a := a)) rfl ⟨Nat.le_of_ble_eq_true rfl, Nat.le_of_ble_eq_true rfl⟩ (Nat.le_of_ble_eq_true rfl) (fun z_a w2 hq hln => ?_)
  subst hq
  refine ww_if_eq (tgt := 30) K dX6_dayOf_4 rfl (fun c_4 => ?_) (fun c_4 => ?_)
  · refine ww_iconst (v := (-1)) K dX6_dayOf_30 rfl ?_
    exact ww_iret K dX6_dayOf_31 hr ⟨_, rfl, rfl⟩
  · refine ww_iload_n K dX6_dayOf_7 rfl ?_
    refine ww_xS K dX6_dayOf_8 lc_X6_419 (ct_X6_isAmount G l (a := b)) rfl ⟨Nat.le_of_ble_eq_true rfl, Nat.le_of_ble_eq_true rfl⟩ (Nat.le_of_ble_eq_true rfl) (fun z_b w2 hq hln => ?_)
    subst hq
    refine ww_if_eq (tgt := 30) K dX6_dayOf_11 rfl (fun c_11 => ?_) (fun c_11 => ?_)
    · refine ww_iconst (v := (-1)) K dX6_dayOf_30 rfl ?_
      exact ww_iret K dX6_dayOf_31 hr ⟨_, rfl, rfl⟩
    · refine ww_iload_n K dX6_dayOf_14 rfl ?_
      refine ww_xS K dX6_dayOf_15 lc_X6_419 (ct_X6_isAmount G l (a := c)) rfl ⟨Nat.le_of_ble_eq_true rfl, Nat.le_of_ble_eq_true rfl⟩ (Nat.le_of_ble_eq_true rfl) (fun z_c w2 hq hln => ?_)
      subst hq
      refine ww_if_eq (tgt := 30) K dX6_dayOf_18 rfl (fun c_18 => ?_) (fun c_18 => ?_)
      · refine ww_iconst (v := (-1)) K dX6_dayOf_30 rfl ?_
        exact ww_iret K dX6_dayOf_31 hr ⟨_, rfl, rfl⟩
      · refine ww_iload_n K dX6_dayOf_21 rfl ?_
        refine ww_iload_n K dX6_dayOf_22 rfl ?_
        refine ww_iload_n K dX6_dayOf_23 rfl ?_
        refine ww_cS K dX6_dayOf_24 lc_X6_297 (ct_X6_numberOf G l (a := a) (b := b) (c := c)) rfl ⟨Nat.le_of_ble_eq_true rfl, Nat.le_of_ble_eq_true rfl⟩ (Nat.le_of_ble_eq_true rfl) ?_
        refine ww_goto (tgt := 31) K dX6_dayOf_27 rfl ?_
        exact ww_iret K dX6_dayOf_31 hr ⟨_, rfl, rfl⟩
set_option maxRecDepth 100000 in
set_option maxHeartbeats 4000000 in
theorem ct_X7_isIn (G : EG) (l : Launch) {w : EW} {a b c : Int32} : Ct G l yX7_isIn cX7_isIn 3 (some .boolean) 0 0 0 [eI (a), eI (b), eI (c)] w (fun r w2 => r = some (eI (if a < b then 0 else if c < a then 0 else 1)) ∧ w2 = w) := by
  refine Ct_of (by decide +kernel) (Nat.le_of_ble_eq_true rfl) ?_
  intro p_ e_ s_ m_ a_ b_ t_ c_ K0 hr hin
  have K : wc_C p_ s_ m_ a_ t_ c_ G RX7 cX7_isIn 3 (w).length := K0
  clear K0
  refine WW_ls (ls2 := [some (eI (a)), some (eI (b)), some (eI (c))]) rfl ?_
  refine ww_iload_n K dX7_isIn_0 rfl ?_
  refine ww_iload_n K dX7_isIn_1 rfl ?_
  refine ww_icmp_lt (tgt := 14) K dX7_isIn_2 rfl (fun c_2 => ?_) (fun c_2 => ?_)
  · refine ww_iconst (v := 0) K dX7_isIn_14 rfl ?_
    exact ww_zret K rfl dX7_isIn_15 hr ⟨by first | rw [if_pos c_2] | rw [if_neg c_2, if_pos c_7] | rw [if_neg c_2, if_neg c_7], rfl⟩
  · refine ww_iload_n K dX7_isIn_5 rfl ?_
    refine ww_iload_n K dX7_isIn_6 rfl ?_
    refine ww_icmp_gt (tgt := 14) K dX7_isIn_7 rfl (fun c_7 => ?_) (fun c_7 => ?_)
    · refine ww_iconst (v := 0) K dX7_isIn_14 rfl ?_
      exact ww_zret K rfl dX7_isIn_15 hr ⟨by first | rw [if_pos c_2] | rw [if_neg c_2, if_pos c_7] | rw [if_neg c_2, if_neg c_7], rfl⟩
    · refine ww_iconst (v := 1) K dX7_isIn_10 rfl ?_
      refine ww_goto (tgt := 15) K dX7_isIn_11 rfl ?_
      exact ww_zret K rfl dX7_isIn_15 hr ⟨by first | rw [if_pos c_2] | rw [if_neg c_2, if_pos c_7] | rw [if_neg c_2, if_neg c_7], rfl⟩
