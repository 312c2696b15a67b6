set_option maxRecDepth 100000 in
set_option maxHeartbeats 4000000 in
theorem ct_X7_fault (G : EG) (l : Launch) {w : EW} {a : Int32} (h64 : w[64]? = some (cO 7 [eR (65), eR (66), eI (0), eI (0), eI (0), eI (0), eI (0), eI (0), eI (0), eI (0), eR (67), eI (0), eI (0), eI (0), eI (0), eI (0), eI (0), eI (0), eI (0), eI (0), eI (0), eI (0), eI (0), eI (0), eI (0), eI (0), eI (0), eR (68), eR (69), eI (0), eI (0), eR (70), eR (71), eI (0), eI (0)])) (h65 : w[65]? = some (cI 0 5768 (upd (fun _ => 0) 8 (-1)))) : Ct G l yX7_fault cX7_fault 2 (some .int) 0 0 0 [eR (64), eI (a)] w (fun r w2 => r = some (eI (if a = 0 then 0 else -1)) ∧ w2 = w) := by
  refine Ct_of (by decide +kernel) (Nat.le_of_ble_eq_true rfl) ?_
  intro p_ e_ s_ m_ a_ b_ t_ c_ K0 hr hin
  have K : wc_C p_ s_ m_ a_ t_ c_ G RX7 cX7_fault 2 w.length := K0
  clear K0
  refine WW_ls (ls2 := [some (eR (64)), some (eI (a))]) rfl ?_
  have hS : wc_same [0] w w := wc_same.rf
  refine ww_iload_n K dX7_fault_0 rfl ?_
  refine ww_if_ne (tgt := 14) K dX7_fault_1 rfl (fun c_1 => ?_) (fun c_1 => ?_)
  · refine ww_iload_n K dX7_fault_14 rfl ?_
    refine ww_iconst (v := 1) K dX7_fault_15 rfl ?_
    refine ww_icmp_ne (tgt := 29) K dX7_fault_16 rfl (fun c_16 => ?_) (fun c_16 => ?_)
    · refine ww_iconst (v := (-1)) K dX7_fault_29 rfl ?_
      exact ww_iret K dX7_fault_30 hr ⟨by first | rw [if_pos c_1] | rw [if_neg c_1], rfl⟩
    · refine ww_aload_n K dX7_fault_19 rfl ?_
      refine ww_get K dX7_fault_20 lf_X7_7 h64 rfl ?_
      refine ww_bipush (v := 8) K dX7_fault_23 rfl ?_
      refine ww_iald K dX7_fault_25 h65 (wc_vin (by decide)) ?_
      rw [show (upd (fun _ => 0) 8 (-1)) (8 : Int32).toNatClampNeg = (-1) from rfl]
      refine ww_goto (tgt := 30) K dX7_fault_26 rfl ?_
      exact ww_iret K dX7_fault_30 hr ⟨by first | rw [if_pos c_1] | rw [if_neg c_1], rfl⟩
  · refine ww_aload_n K dX7_fault_4 rfl ?_
    refine ww_get K dX7_fault_5 lf_X7_7 h64 rfl ?_
    refine ww_bipush (v := 7) K dX7_fault_8 rfl ?_
    refine ww_iald K dX7_fault_10 h65 (wc_vin (by decide)) ?_
    rw [show (upd (fun _ => 0) 8 (-1)) (7 : Int32).toNatClampNeg = 0 from rfl]
    refine ww_goto (tgt := 30) K dX7_fault_11 rfl ?_
    exact ww_iret K dX7_fault_30 hr ⟨by first | rw [if_pos c_1] | rw [if_neg c_1], rfl⟩
set_option maxRecDepth 100000 in
set_option maxHeartbeats 4000000 in
theorem ct_X7_end (G : EG) (l : Launch) {w : EW} {a : Int32} (h64 : w[64]? = some (cO 7 [eR (65), eR (66), eI (0), eI (0), eI (0), eI (0), eI (0), eI (0), eI (0), eI (0), eR (67), eI (0), eI (0), eI (0), eI (0), eI (0), eI (0), eI (0), eI (0), eI (0), eI (0), eI (0), eI (0), eI (0), eI (0), eI (0), eI (0), eR (68), eR (69), eI (0), eI (0), eR (70), eR (71), eI (0), eI (0)])) (h65 : w[65]? = some (cI 0 5768 (upd (fun _ => 0) 8 (-1)))) : Ct G l yX7_end cX7_end 2 (some .int) 0 0 0 [eR (64), eI (a)] w (fun r w2 => (∃ x : Int32, r = some (eI x) ∧ (x = (if a < 0 then -1 else if a ≤ 0 then a else -1) ∧ wc_same [65] w w2))) := by
  refine Ct_of (by decide +kernel) (Nat.le_of_ble_eq_true rfl) ?_
  intro p_ e_ s_ m_ a_ b_ t_ c_ K0 hr hin
  have K : wc_C p_ s_ m_ a_ t_ c_ G RX7 cX7_end 2 w.length := K0
  clear K0
  refine WW_ls (ls2 := [some (eR (64)), some (eI (a))]) rfl ?_
  have hS : wc_same [65] w w := wc_same.rf
  refine ww_iload_n K dX7_end_0 rfl ?_
  refine ww_if_lt (tgt := 15) K dX7_end_1 rfl (fun c_1 => ?_) (fun c_1 => ?_)
  · refine ww_iconst (v := (-1)) K dX7_end_15 rfl ?_
    exact ww_iret K dX7_end_16 hr ⟨_, rfl, by first | rw [if_pos c_1] | rw [if_neg c_1, if_pos c_12] | rw [if_neg c_1, if_neg c_12], hS⟩
  · refine ww_iload_n K dX7_end_4 rfl ?_
    refine ww_aload_n K dX7_end_5 rfl ?_
    refine ww_get K dX7_end_6 lf_X7_7 h64 rfl ?_
    refine ww_bipush (v := 6) K dX7_end_9 rfl ?_
    refine ww_iald K dX7_end_11 h65 (wc_vin (by decide)) ?_
    rw [show (upd (fun _ => 0) 8 (-1)) (6 : Int32).toNatClampNeg = 0 from rfl]
    refine ww_icmp_le (tgt := 17) K dX7_end_12 rfl (fun c_12 => ?_) (fun c_12 => ?_)
    · refine ww_aload_n K dX7_end_17 rfl ?_
      refine ww_get K dX7_end_18 lf_X7_7 h64 rfl ?_
      refine ww_bipush (v := 6) K dX7_end_21 rfl ?_
      refine ww_iload_n K dX7_end_23 rfl ?_
      refine ww_iastX K dX7_end_24 h65 (wc_vin (by decide)) (fun w1 hln_w1 h65 hne_w1 => ?_)
      have h64 := (hne_w1 64 (by decide)).trans h64
      have hS := hS.put (k := 65) (by decide) hne_w1
      refine ww_iload_n K dX7_end_25 rfl ?_
      exact ww_iret K dX7_end_26 hr ⟨_, rfl, by first | rw [if_pos c_1] | rw [if_neg c_1, if_pos c_12] | rw [if_neg c_1, if_neg c_12], hS⟩
    · refine ww_iconst (v := (-1)) K dX7_end_15 rfl ?_
      exact ww_iret K dX7_end_16 hr ⟨_, rfl, by first | rw [if_pos c_1] | rw [if_neg c_1, if_pos c_12] | rw [if_neg c_1, if_neg c_12], hS⟩
theorem wc_z (a N : Int32) : (if a < 0 then 0 else if N < a then 0 else (1 : Int32)) = 0 ↔ (a < 0 ∨ N < a) := by
  by_cases h : a < 0
  · simp [h]
  · by_cases h2 : N < a
    · simp [h2]
    · rw [if_neg h, if_neg h2]; simp [h, h2]
theorem wc_inN {a N : Int32} {n : Nat} (hN : N.toInt + 1 = n) (h : ¬ (if a < 0 then 0 else if N < a then 0 else (1 : Int32)) = 0) : vp_in a n := by
  rw [wc_z, not_or] at h
  rw [vp_in_iff]
  have h1 := Int32.le_iff_toInt_le.mp (Int32.not_lt.mp h.1)
  have h2 := Int32.le_iff_toInt_le.mp (Int32.not_lt.mp h.2)
  have h0 : (0 : Int32).toInt = 0 := rfl
  rw [h0] at h1
  omega
theorem wc_upd0 {F : Nat → Int32} {i : Nat} (h : 0 < i → F 0 = 0) : upd F i 0 0 = 0 := by
  by_cases e : 0 = i
  · rw [← e]; exact pk_us
  · rw [pk_un e]; exact h (by omega)
theorem wc_A0 {j : Nat} (h : j < 6) : (upd (fun _ => (0 : Int32)) 8 (-1)) j = 0 := by rw [pk_un (by omega)]
theorem wc_cnt_a {a : Int32} (h : (if a < 0 then 0 else if 5 < a then 0 else (1 : Int32)) = 0) : (-2 : Int32) = if a < 0 then -2 else if 5 < a then -2 else 0 := by
  rw [wc_z] at h
  rcases h with h | h
  · rw [if_pos h]
  · rw [if_pos h]; split <;> rfl
theorem wc_cnt_b {a : Int32} (h : ¬ (if a < 0 then 0 else if 5 < a then 0 else (1 : Int32)) = 0) : (0 : Int32) = if a < 0 then -2 else if 5 < a then -2 else 0 := by
  rw [wc_z, not_or] at h
  rw [if_neg h.1, if_neg h.2]
set_option maxRecDepth 100000 in
set_option maxHeartbeats 4000000 in
theorem ct_X7_count (G : EG) (l : Launch) {w : EW} {a : Int32} (h64 : w[64]? = some (cO 7 [eR (65), eR (66), eI (0), eI (0), eI (0), eI (0), eI (0), eI (0), eI (0), eI (0), eR (67), eI (0), eI (0), eI (0), eI (0), eI (0), eI (0), eI (0), eI (0), eI (0), eI (0), eI (0), eI (0), eI (0), eI (0), eI (0), eI (0), eR (68), eR (69), eI (0), eI (0), eR (70), eR (71), eI (0), eI (0)])) (h65 : w[65]? = some (cI 0 5768 (upd (fun _ => 0) 8 (-1)))) : Ct G l yX7_count cX7_count 2 (some .int) 1 0 0 [eR (64), eI (a)] w (fun r w2 => r = some (eI (if a < 0 then -2 else if 5 < a then -2 else 0)) ∧ w2 = w) := by
  refine Ct_of (by decide +kernel) (Nat.le_of_ble_eq_true rfl) ?_
  intro p_ e_ s_ m_ a_ b_ t_ c_ K0 hr hin
  have K : wc_C p_ s_ m_ a_ t_ c_ G RX7 cX7_count 2 w.length := K0
  clear K0
  refine WW_ls (ls2 := [some (eR (64)), some (eI (a))]) rfl ?_
  have hS : wc_same [0] w w := wc_same.rf
  refine ww_iload_n K dX7_count_0 rfl ?_
  refine ww_iconst (v := 0) K dX7_count_1 rfl ?_
  refine ww_iconst (v := 5) K dX7_count_2 rfl ?_
  refine ww_cS K dX7_count_3 lc_X7_93 (ct_X7_isIn G l (a := a) (b := 0) (c := 5)) rfl ⟨Nat.le_of_ble_eq_true rfl, Nat.le_of_ble_eq_true rfl⟩ (Nat.le_of_ble_eq_true rfl) ?_
  refine ww_if_eq (tgt := 18) K dX7_count_6 rfl (fun c_6 => ?_) (fun c_6 => ?_)
  · refine ww_bipush (v := (-2)) K dX7_count_18 rfl ?_
    exact ww_iret K dX7_count_20 hr ⟨by first | rw [← wc_cnt_a c_6] | rw [← wc_cnt_b c_6], rfl⟩
  · refine ww_aload_n K dX7_count_9 rfl ?_
    refine ww_get K dX7_count_10 lf_X7_7 h64 rfl ?_
    refine ww_iload_n K dX7_count_13 rfl ?_
    refine ww_iald K dX7_count_14 h65 (wc_in_le (wc_inN (n := 6) rfl c_6) (by decide)) ?_
    rw [wc_A0 (wc_cl_lt (wc_inN (n := 6) rfl c_6))]
    refine ww_goto (tgt := 20) K dX7_count_15 rfl ?_
    exact ww_iret K dX7_count_20 hr ⟨by first | rw [← wc_cnt_a c_6] | rw [← wc_cnt_b c_6], rfl⟩
set_option maxRecDepth 100000 in
set_option maxHeartbeats 4000000 in
theorem ct_X7_again_0 (G : EG) (l : Launch) {w : EW} {a : Int32} (h64 : w[64]? = some (cO 7 [eR (65), eR (66), eI (0), eI (0), eI (0), eI (0), eI (0), eI (0), eI (0), eI (0), eR (67), eI (0), eI (0), eI (0), eI (0), eI (0), eI (0), eI (0), eI (0), eI (0), eI (0), eI (0), eI (0), eI (0), eI (0), eI (0), eI (0), eR (68), eR (69), eI (0), eI (0), eR (70), eR (71), eI (0), eI (0)])) (h65 : w[65]? = some (cI 0 5768 (upd (fun _ => 0) 8 (-1)))) (h66 : w[66]? = some (cI 1 3 (fun _ => 0))) : Ct G l yX7_again cX7_again 3 (some .boolean) 1 0 0 [eR (64), eI (a)] w (fun r w2 => r = some (eI 0) ∧ w2 = w) := by
  refine Ct_of (by decide +kernel) (Nat.le_of_ble_eq_true rfl) ?_
  intro p_ e_ s_ m_ a_ b_ t_ c_ K0 hr hin
  have K : wc_C p_ s_ m_ a_ t_ c_ G RX7 cX7_again 3 w.length := K0
  clear K0
  refine WW_ls (ls2 := [some (eR (64)), some (eI (a)), none]) rfl ?_
  have hS : wc_same [0] w w := wc_same.rf
  refine ww_iload_n K dX7_again_0 rfl ?_
  refine ww_iconst (v := 0) K dX7_again_1 rfl ?_
  refine ww_iconst (v := 2) K dX7_again_2 rfl ?_
  refine ww_cS K dX7_again_3 lc_X7_93 (ct_X7_isIn G l (a := a) (b := 0) (c := 2)) rfl ⟨Nat.le_of_ble_eq_true rfl, Nat.le_of_ble_eq_true rfl⟩ (Nat.le_of_ble_eq_true rfl) ?_
  refine ww_if_eq (tgt := 18) K dX7_again_6 rfl (fun c_6 => ?_) (fun c_6 => ?_)
  · refine ww_iconst (v := 0) K dX7_again_18 rfl ?_
    exact ww_zret K rfl dX7_again_19 hr ⟨rfl, rfl⟩
  · refine ww_aload_n K dX7_again_9 rfl ?_
    refine ww_get K dX7_again_10 lf_X7_13 h64 rfl ?_
    refine ww_iload_n K dX7_again_13 rfl ?_
    refine ww_zald K dX7_again_14 h66 (wc_inN (n := 3) rfl c_6) ?_
    skip
    refine ww_if_ne (tgt := 20) K dX7_again_15 rfl (fun cc_ => absurd cc_ (by decide)) (fun _ => ?_)
    refine ww_iconst (v := 0) K dX7_again_18 rfl ?_
    exact ww_zret K rfl dX7_again_19 hr ⟨rfl, rfl⟩
set_option maxRecDepth 100000 in
set_option maxHeartbeats 4000000 in
theorem ct_X7_image_bad (G : EG) (l : Launch) {w : EW} {a : Int32} (hb : a < 0 ∨ 2 < a) (h64 : w[64]? = some (cO 7 [eR (65), eR (66), eI (0), eI (0), eI (0), eI (0), eI (0), eI (0), eI (0), eI (0), eR (67), eI (0), eI (0), eI (0), eI (0), eI (0), eI (0), eI (0), eI (0), eI (0), eI (0), eI (0), eI (0), eI (0), eI (0), eI (0), eI (0), eR (68), eR (69), eI (0), eI (0), eR (70), eR (71), eI (0), eI (0)])) (h65 : w[65]? = some (cI 0 5768 (upd (fun _ => 0) 8 (-1)))) : Ct G l yX7_image cX7_image 3 (some .boolean) 1 0 0 [eR (64), eI (a)] w (fun r w2 => r = some (eI 0) ∧ w2 = w) := by
  refine Ct_of (by decide +kernel) (Nat.le_of_ble_eq_true rfl) ?_
  intro p_ e_ s_ m_ a_ b_ t_ c_ K0 hr hin
  have K : wc_C p_ s_ m_ a_ t_ c_ G RX7 cX7_image 3 w.length := K0
  clear K0
  refine WW_ls (ls2 := [some (eR (64)), some (eI (a)), none]) rfl ?_
  have hS : wc_same [0] w w := wc_same.rf
  refine ww_iload_n K dX7_image_0 rfl ?_
  refine ww_iconst (v := 0) K dX7_image_1 rfl ?_
  refine ww_iconst (v := 2) K dX7_image_2 rfl ?_
  refine ww_cS K dX7_image_3 lc_X7_93 (ct_X7_isIn G l (a := a) (b := 0) (c := 2)) rfl ⟨Nat.le_of_ble_eq_true rfl, Nat.le_of_ble_eq_true rfl⟩ (Nat.le_of_ble_eq_true rfl) ?_
  refine ww_if_ne (tgt := 11) K dX7_image_6 rfl (fun cc_ => absurd ((wc_z a 2).mpr hb) cc_) (fun _ => ?_)
  refine ww_iconst (v := 0) K dX7_image_9 rfl ?_
  exact ww_zret K rfl dX7_image_10 hr ⟨rfl, rfl⟩
set_option maxRecDepth 100000 in
set_option maxHeartbeats 4000000 in
theorem ct_X7_feed (G : EG) (l : Launch) {w : EW} {a b c d f : Int32} (h64 : w[64]? = some (cO 7 [eR (65), eR (66), eI (0), eI (0), eI (0), eI (0), eI (0), eI (0), eI (0), eI (0), eR (67), eI (0), eI (0), eI (0), eI (0), eI (0), eI (0), eI (0), eI (0), eI (0), eI (0), eI (0), eI (0), eI (0), eI (0), eI (0), eI (0), eR (68), eR (69), eI (0), eI (0), eR (70), eR (71), eI (0), eI (0)])) (h65 : w[65]? = some (cI 0 5768 (upd (fun _ => 0) 8 (-1)))) : Ct G l yX7_feed cX7_feed 8 (some .int) 0 0 0 [eR (64), eI (a), eI (b), eI (c), eI (d), eI (f)] w (fun r w2 => (∃ x : Int32, r = some (eI x) ∧ (x = 20 ∧ wc_same [65] w w2))) := by
  refine Ct_of (by decide +kernel) (Nat.le_of_ble_eq_true rfl) ?_
  intro p_ e_ s_ m_ a_ b_ t_ c_ K0 hr hin
  have K : wc_C p_ s_ m_ a_ t_ c_ G RX7 cX7_feed 8 w.length := K0
  clear K0
  refine WW_ls (ls2 := [some (eR (64)), some (eI (a)), some (eI (b)), some (eI (c)), some (eI (d)), some (eI (f)), none, none]) rfl ?_
  have hS : wc_same [65] w w := wc_same.rf
  refine ww_aload_n K dX7_feed_0 rfl ?_
  refine ww_get K dX7_feed_1 lf_X7_7 h64 rfl ?_
  refine ww_bipush (v := 6) K dX7_feed_4 rfl ?_
  refine ww_iald K dX7_feed_6 h65 (wc_vin (by decide)) ?_
  rw [show (upd (fun _ => 0) 8 (-1)) (6 : Int32).toNatClampNeg = 0 from rfl]
  refine ww_bipush (v := 20) K dX7_feed_7 rfl ?_
  refine ww_iadd K dX7_feed_9 ?_
  rw [show ((0 : Int32) + 20) = 20 from rfl]
  refine ww_sipush (v := 600) K dX7_feed_10 rfl ?_
  refine ww_icmp_le (tgt := 18) K dX7_feed_13 rfl (fun _ => ?_) (fun cc_ => absurd cc_ (by decide))
  refine ww_iconst (v := 0) K dX7_feed_18 rfl ?_
  refine ww_istore (ls2 := [some (eR (64)), some (eI (a)), some (eI (b)), some (eI (c)), some (eI (d)), some (eI (f)), some (eI (0)), none]) K dX7_feed_19 (by decide) rfl ?_
  have loop : ∀ (dd i : Nat), i + dd = 20 → ∀ (wl : EW) (A1 : Nat → Int32), wl[64]? = some (cO 7 [eR (65), eR (66), eI (0), eI (0), eI (0), eI (0), eI (0), eI (0), eI (0), eI (0), eR (67), eI (0), eI (0), eI (0), eI (0), eI (0), eI (0), eI (0), eI (0), eI (0), eI (0), eI (0), eI (0), eI (0), eI (0), eI (0), eI (0), eR (68), eR (69), eI (0), eI (0), eR (70), eR (71), eI (0), eI (0)]) → wl[65]? = some (cI 0 5768 A1) → A1 6 = nI i → wc_same [65] w wl → ∀ xo : Option EV, WW p_ l e_ (wc_rm 0 0 0) s_ m_ a_ b_ t_ c_ (MQ b_ (wc_Q G w 0 0 (fun r w2 => (∃ x : Int32, r = some (eI x) ∧ (x = 20 ∧ wc_same [65] w w2)))) a_ s_ 0 0 (wc_A G)) G 8 w.length (wc_SL w) 0 0 21 [some (eR (64)), some (eI (a)), some (eI (b)), some (eI (c)), some (eI (d)), some (eI (f)), some (eI ((nI i))), xo] [] wl := by
    intro dd
    induction dd with
    | zero =>
      intro i hi wl A1 h64 h65 h6 hS xo
      have hh : i = 20 := by omega
      subst hh
      refine ww_iload K dX7_feed_21 rfl ?_
      refine ww_bipush (v := 20) K dX7_feed_23 rfl ?_
      refine ww_icmp_ge (tgt := 125) K dX7_feed_25 rfl (fun _ => ?_) (fun cc_ => absurd (by decide) cc_)
      refine ww_aload_n K dX7_feed_125 rfl ?_
      refine ww_get K dX7_feed_126 lf_X7_7 h64 rfl ?_
      refine ww_bipush (v := 6) K dX7_feed_129 rfl ?_
      refine ww_iald K dX7_feed_131 h65 (wc_vin (by decide)) ?_
      rw [show A1 (6 : Int32).toNatClampNeg = nI 20 from h6]
      exact ww_iret K dX7_feed_132 hr ⟨_, rfl, rfl, hS⟩
    | succ dd ih =>
      intro i hi wl A1 h64 h65 h6 hS xo
      have hlt : i < 20 := by omega
      refine ww_iload K dX7_feed_21 rfl ?_
      refine ww_bipush (v := 20) K dX7_feed_23 rfl ?_
      refine ww_icmp_ge (tgt := 125) K dX7_feed_25 rfl (fun cc_ => absurd cc_ (nI_ge hlt (by decide))) (fun _ => ?_)
      have tail : ∀ x : Int32, WW p_ l e_ (wc_rm 0 0 0) s_ m_ a_ b_ t_ c_ (MQ b_ (wc_Q G w 0 0 (fun r w2 => (∃ x : Int32, r = some (eI x) ∧ (x = 20 ∧ wc_same [65] w w2)))) a_ s_ 0 0 (wc_A G)) G 8 w.length (wc_SL w) 0 0 74 [some (eR (64)), some (eI (a)), some (eI (b)), some (eI (c)), some (eI (d)), some (eI (f)), some (eI ((nI i))), xo] [eI x] wl := by
        intro x
        refine ww_istore (ls2 := [some (eR (64)), some (eI (a)), some (eI (b)), some (eI (c)), some (eI (d)), some (eI (f)), some (eI ((nI i))), some (eI (x))]) K dX7_feed_74 (by decide) rfl ?_
        refine ww_aload_n K dX7_feed_76 rfl ?_
        refine ww_get K dX7_feed_77 lf_X7_7 h64 rfl ?_
        refine ww_bipush (v := 10) K dX7_feed_80 rfl ?_
        refine ww_aload_n K dX7_feed_82 rfl ?_
        refine ww_get K dX7_feed_83 lf_X7_7 h64 rfl ?_
        refine ww_bipush (v := 6) K dX7_feed_86 rfl ?_
        refine ww_iald K dX7_feed_88 h65 (wc_vin (by decide)) ?_
        rw [show A1 (6 : Int32).toNatClampNeg = nI i from h6]
        refine ww_iadd K dX7_feed_89 ?_
        rw [show (10 + (nI i)) = (nI (10 + i)) from nI_add 10 i]
        refine ww_iload K dX7_feed_90 rfl ?_
        refine ww_bipush (v := 24) K dX7_feed_92 rfl ?_
        refine ww_bipush (v := 8) K dX7_feed_94 rfl ?_
        refine ww_iload K dX7_feed_96 rfl ?_
        refine ww_iconst (v := 4) K dX7_feed_98 rfl ?_
        refine ww_irem K dX7_feed_99 (by decide) ?_
        refine ww_imul K dX7_feed_100 ?_
        refine ww_isub K dX7_feed_101 ?_
        refine ww_ishr K dX7_feed_102 ?_
        refine ww_sipush (v := 255) K dX7_feed_103 rfl ?_
        refine ww_iand K dX7_feed_106 ?_
        refine ww_iastX K dX7_feed_107 h65 (vp_in_nI (by omega) (by decide)) (fun wa hlna h65 hnea => ?_)
        have h64 := (hnea 64 (by decide)).trans h64
        have hS := hS.put (k := 65) (by decide) hnea
        obtain ⟨A2, h65, h6⟩ : ∃ F, wa[65]? = some (cI 0 5768 F) ∧ F 6 = nI i := ⟨_, h65, by rw [nI_clamp (by omega), pk_un (by omega)]; exact h6⟩
        refine ww_aload_n K dX7_feed_108 rfl ?_
        refine ww_get K dX7_feed_109 lf_X7_7 h64 rfl ?_
        refine ww_bipush (v := 6) K dX7_feed_112 rfl ?_
        refine ww_dup2 K dX7_feed_114 trivial trivial ?_
        refine ww_iald K dX7_feed_115 h65 (wc_vin (by decide)) ?_
        rw [show A2 (6 : Int32).toNatClampNeg = nI i from h6]
        refine ww_iconst (v := 1) K dX7_feed_116 rfl ?_
        refine ww_iadd K dX7_feed_117 ?_
        rw [show ((nI i) + 1) = (nI (i + 1)) from nI_1 i]
        refine ww_iastX K dX7_feed_118 h65 (wc_vin (by decide)) (fun wb hlnb h65 hneb => ?_)
        have h64 := (hneb 64 (by decide)).trans h64
        have hS := hS.put (k := 65) (by decide) hneb
        obtain ⟨A3, h65, h6⟩ : ∃ F, wb[65]? = some (cI 0 5768 F) ∧ F 6 = nI (i + 1) := ⟨_, h65, pk_us⟩
        refine ww_iinc (ls2 := [some (eR (64)), some (eI (a)), some (eI (b)), some (eI (c)), some (eI (d)), some (eI (f)), some (eI (((nI i) + 1))), some (eI (x))]) K dX7_feed_119 (by decide) rfl rfl ?_
        refine ww_goto (tgt := 21) K dX7_feed_122 rfl ?_
        rw [show (nI i + 1) = nI (i + 1) from nI_1 i]
        exact ih (i + 1) (by omega) _ _ h64 h65 h6 hS _
      refine ww_iload K dX7_feed_28 rfl ?_
      refine ww_iconst (v := 4) K dX7_feed_30 rfl ?_
      refine ww_icmp_ge (tgt := 38) K dX7_feed_31 rfl (fun c_31 => ?_) (fun c_31 => ?_)
      · refine ww_iload K dX7_feed_38 rfl ?_
        refine ww_bipush (v := 8) K dX7_feed_40 rfl ?_
        refine ww_icmp_ge (tgt := 49) K dX7_feed_42 rfl (fun c_42 => ?_) (fun c_42 => ?_)
        · refine ww_iload K dX7_feed_49 rfl ?_
          refine ww_bipush (v := 12) K dX7_feed_51 rfl ?_
          refine ww_icmp_ge (tgt := 60) K dX7_feed_53 rfl (fun c_53 => ?_) (fun c_53 => ?_)
          · refine ww_iload K dX7_feed_60 rfl ?_
            refine ww_bipush (v := 16) K dX7_feed_62 rfl ?_
            refine ww_icmp_ge (tgt := 72) K dX7_feed_64 rfl (fun c_64 => ?_) (fun c_64 => ?_)
            · refine ww_iload K dX7_feed_72 rfl ?_
              exact tail _
            · refine ww_iload K dX7_feed_67 rfl ?_
              refine ww_goto (tgt := 74) K dX7_feed_69 rfl ?_
              exact tail _
          · refine ww_iload_n K dX7_feed_56 rfl ?_
            refine ww_goto (tgt := 74) K dX7_feed_57 rfl ?_
            exact tail _
        · refine ww_iload_n K dX7_feed_45 rfl ?_
          refine ww_goto (tgt := 74) K dX7_feed_46 rfl ?_
          exact tail _
      · refine ww_iload_n K dX7_feed_34 rfl ?_
        refine ww_goto (tgt := 74) K dX7_feed_35 rfl ?_
        exact tail _
  exact loop 20 0 rfl _ _ h64 h65 rfl hS _
set_option maxRecDepth 100000 in
set_option maxHeartbeats 4000000 in
theorem ct_X7_byteAt_0 (G : EG) (l : Launch) {w : EW}  (h64 : w[64]? = some (cO 7 [eR (65), eR (66), eI (0), eI (0), eI (0), eI (0), eI (0), eI (0), eI (0), eI ((-1)), eR (67), eI (0), eI (0), eI (0), eI (0), eI (0), eI (0), eI (0), eI (0), eI (0), eI (0), eI (0), eI (0), eI (0), eI (0), eI (0), eI (0), eR (68), eR (69), eI (0), eI (0), eR (70), eR (71), eI (0), eI (0)])) : Ct G l yX7_byteAt cX7_byteAt 2 (some .int) 0 0 0 [eR (64), eI (0)] w (fun r w2 => r = some (eI (-1)) ∧ w2 = w) := by
  refine Ct_of (by decide +kernel) (Nat.le_of_ble_eq_true rfl) ?_
  intro p_ e_ s_ m_ a_ b_ t_ c_ K0 hr hin
  have K : wc_C p_ s_ m_ a_ t_ c_ G RX7 cX7_byteAt 2 w.length := K0
  clear K0
  refine WW_ls (ls2 := [some (eR (64)), some (eI (0))]) rfl ?_
  have hS : wc_same [0] w w := wc_same.rf
  refine ww_iload_n K dX7_byteAt_0 rfl ?_
  refine ww_aload_n K dX7_byteAt_1 rfl ?_
  refine ww_get K dX7_byteAt_2 lf_X7_32 h64 rfl ?_
  refine ww_icmp_ge (tgt := 20) K dX7_byteAt_5 rfl (fun _ => ?_) (fun cc_ => absurd cc_ (by decide))
  refine ww_iconst (v := (-1)) K dX7_byteAt_20 rfl ?_
  exact ww_iret K dX7_byteAt_21 hr ⟨rfl, rfl⟩
set_option maxRecDepth 100000 in
set_option maxHeartbeats 4000000 in
theorem ct_X7_advance_0 (G : EG) (l : Launch) {w : EW}  (h64 : w[64]? = some (cO 7 [eR (65), eR (66), eI (0), eI (0), eI (0), eI (0), eI (0), eI (0), eI (0), eI ((-1)), eR (67), eI (0), eI (0), eI (0), eI (0), eI (0), eI (0), eI (0), eI (0), eI (0), eI (0), eI (0), eI (0), eI (0), eI (0), eI (0), eI (0), eR (68), eR (69), eI (0), eI (0), eR (70), eR (71), eI (0), eI (0)])) : Ct G l yX7_advance cX7_advance 4 none 1 0 0 [eR (64)] w (fun r w2 => r = none ∧ (w2[64]? = some (cO 7 [eR (65), eR (66), eI (0), eI (0), eI (0), eI (0), eI (0), eI (0), eI (0), eI ((-1)), eR (67), eI (0), eI (0), eI (0), eI (0), eI (0), eI (0), eI (0), eI (0), eI (0), eI (0), eI (0), eI (0), eI (0), eI (0), eI (0), eI (0), eR (68), eR (69), eI (0), eI (0), eR (70), eR (71), eI (0), eI (0)]) ∧ wc_same [64] w w2)) := by
  refine Ct_of (by decide +kernel) (Nat.le_of_ble_eq_true rfl) ?_
  intro p_ e_ s_ m_ a_ b_ t_ c_ K0 hr hin
  have K : wc_C p_ s_ m_ a_ t_ c_ G RX7 cX7_advance 4 w.length := K0
  clear K0
  refine WW_ls (ls2 := [some (eR (64)), none, none, none]) rfl ?_
  have hS : wc_same [64] w w := wc_same.rf
  refine ww_aload_n K dX7_advance_0 rfl ?_
  refine ww_aload_n K dX7_advance_1 rfl ?_
  refine ww_get K dX7_advance_2 lf_X7_53 h64 rfl ?_
  refine ww_cV K dX7_advance_5 lc_X7_56 h64 ⟨_, rfl, rfl⟩ (ct_X7_byteAt_0 G l h64) rfl ⟨Nat.le_of_ble_eq_true rfl, Nat.le_of_ble_eq_true rfl⟩ (Nat.le_of_ble_eq_true rfl) ?_
  refine ww_bipush (v := 10) K dX7_advance_8 rfl ?_
  refine ww_icmp_eq (tgt := 26) K dX7_advance_10 rfl (fun cc_ => absurd cc_ (by decide)) (fun _ => ?_)
  refine ww_aload_n K dX7_advance_13 rfl ?_
  refine ww_aload_n K dX7_advance_14 rfl ?_
  refine ww_get K dX7_advance_15 lf_X7_53 h64 rfl ?_
  refine ww_cV K dX7_advance_18 lc_X7_56 h64 ⟨_, rfl, rfl⟩ (ct_X7_byteAt_0 G l h64) rfl ⟨Nat.le_of_ble_eq_true rfl, Nat.le_of_ble_eq_true rfl⟩ (Nat.le_of_ble_eq_true rfl) ?_
  refine ww_bipush (v := 32) K dX7_advance_21 rfl ?_
  refine ww_icmp_ne (tgt := 39) K dX7_advance_23 rfl (fun _ => ?_) (fun cc_ => absurd cc_ (by decide))
  refine ww_aload_n K dX7_advance_39 rfl ?_
  refine ww_aload_n K dX7_advance_40 rfl ?_
  refine ww_get K dX7_advance_41 lf_X7_53 h64 rfl ?_
  refine ww_putX K dX7_advance_44 lp_X7_60 h64 (Nat.le_of_ble_eq_true rfl) rfl rfl (fun w1 hln_w1 h64 hne_w1 => ?_)
  have h64 : w1[64]? = some (cO 7 [eR (65), eR (66), eI (0), eI (0), eI (0), eI (0), eI (0), eI (0), eI (0), eI ((-1)), eR (67), eI (0), eI (0), eI (0), eI (0), eI (0), eI (0), eI (0), eI (0), eI (0), eI (0), eI (0), eI (0), eI (0), eI (0), eI (0), eI (0), eR (68), eR (69), eI (0), eI (0), eR (70), eR (71), eI (0), eI (0)]) := h64
  have hS := hS.put (k := 64) (by decide) hne_w1
  refine ww_aload_n K dX7_advance_47 rfl ?_
  refine ww_aload_n K dX7_advance_48 rfl ?_
  refine ww_get K dX7_advance_49 lf_X7_53 h64 rfl ?_
  refine ww_cV K dX7_advance_52 lc_X7_56 h64 ⟨_, rfl, rfl⟩ (ct_X7_byteAt_0 G l h64) rfl ⟨Nat.le_of_ble_eq_true rfl, Nat.le_of_ble_eq_true rfl⟩ (Nat.le_of_ble_eq_true rfl) ?_
  refine ww_istore_n (ls2 := [some (eR (64)), some (eI ((-1))), none, none]) K dX7_advance_55 (by decide) rfl ?_
  refine ww_iload_n K dX7_advance_56 rfl ?_
  refine ww_if_ge (tgt := 68) K dX7_advance_57 rfl (fun cc_ => absurd cc_ (by decide)) (fun _ => ?_)
  refine ww_aload_n K dX7_advance_60 rfl ?_
  refine ww_iconst (v := 0) K dX7_advance_61 rfl ?_
  refine ww_putX K dX7_advance_62 lp_X7_63 h64 (Nat.le_of_ble_eq_true rfl) rfl rfl (fun w2 hln_w2 h64 hne_w2 => ?_)
  have h64 : w2[64]? = some (cO 7 [eR (65), eR (66), eI (0), eI (0), eI (0), eI (0), eI (0), eI (0), eI (0), eI ((-1)), eR (67), eI (0), eI (0), eI (0), eI (0), eI (0), eI (0), eI (0), eI (0), eI (0), eI (0), eI (0), eI (0), eI (0), eI (0), eI (0), eI (0), eR (68), eR (69), eI (0), eI (0), eR (70), eR (71), eI (0), eI (0)]) := h64
  have hS := hS.put (k := 64) (by decide) hne_w2
  refine ww_goto (tgt := 311) K dX7_advance_65 rfl ?_
  exact ww_vret K dX7_advance_311 hr ⟨rfl, ⟨h64, hS⟩⟩
set_option maxRecDepth 100000 in
set_option maxHeartbeats 4000000 in
theorem ct_X7_clears_0 (G : EG) (l : Launch) {w : EW} {f1 : Nat → Int32} (h64 : w[64]? = some (cO 7 [eR (65), eR (66), eI (0), eI (0), eI (0), eI (0), eI (0), eI (0), eI (0), eI ((-1)), eR (67), eI (0), eI (0), eI (0), eI (0), eI (0), eI (0), eI (0), eI (0), eI (0), eI (0), eI (0), eI (0), eI (0), eI (0), eI (0), eI (0), eR (68), eR (69), eI (0), eI (0), eR (70), eR (71), eI (0), eI (0)])) (h67 : w[67]? = some (cI 0 201 f1)) : Ct G l yX7_clears cX7_clears 3 none 0 0 0 [eR (64), eI (0)] w (fun r w2 => r = none ∧ ((∃ F : Nat → Int32, F 0 = 0 ∧ w2[67]? = some (cI 0 201 F)) ∧ wc_same [67] w w2)) := by
  refine Ct_of (by decide +kernel) (Nat.le_of_ble_eq_true rfl) ?_
  intro p_ e_ s_ m_ a_ b_ t_ c_ K0 hr hin
  have K : wc_C p_ s_ m_ a_ t_ c_ G RX7 cX7_clears 3 w.length := K0
  clear K0
  refine WW_ls (ls2 := [some (eR (64)), some (eI (0)), none]) rfl ?_
  have hS : wc_same [67] w w := wc_same.rf
  refine ww_iconst (v := 0) K dX7_clears_0 rfl ?_
  refine ww_istore_n (ls2 := [some (eR (64)), some (eI (0)), some (eI (0))]) K dX7_clears_1 (by decide) rfl ?_
  have loop : ∀ (dd i : Nat), i + dd = 201 → ∀ (wl : EW) (F1 : Nat → Int32), wl[64]? = some (cO 7 [eR (65), eR (66), eI (0), eI (0), eI (0), eI (0), eI (0), eI (0), eI (0), eI ((-1)), eR (67), eI (0), eI (0), eI (0), eI (0), eI (0), eI (0), eI (0), eI (0), eI (0), eI (0), eI (0), eI (0), eI (0), eI (0), eI (0), eI (0), eR (68), eR (69), eI (0), eI (0), eR (70), eR (71), eI (0), eI (0)]) → wl[67]? = some (cI 0 201 F1) → (0 < i → F1 0 = 0) → wc_same [67] w wl → WW p_ l e_ (wc_rm 0 0 0) s_ m_ a_ b_ t_ c_ (MQ b_ (wc_Q G w 0 0 (fun r w2 => r = none ∧ ((∃ F : Nat → Int32, F 0 = 0 ∧ w2[67]? = some (cI 0 201 F)) ∧ wc_same [67] w w2))) a_ s_ 0 0 (wc_A G)) G 3 w.length (wc_SL w) 0 0 2 [some (eR (64)), some (eI (0)), some (eI ((nI i)))] [] wl := by
    intro dd
    induction dd with
    | zero =>
      intro i hi wl F1 h64 h67 hF hS
      have hh : i = 201 := by omega
      subst hh
      refine ww_iload_n K dX7_clears_2 rfl ?_
      refine ww_sipush (v := 201) K dX7_clears_3 rfl ?_
      refine ww_icmp_ge (tgt := 22) K dX7_clears_6 rfl (fun _ => ?_) (fun cc_ => absurd (by decide) cc_)
      refine ww_iload_n K dX7_clears_22 rfl ?_
      refine ww_if_eq (tgt := 27) K dX7_clears_23 rfl (fun _ => ?_) (fun cc_ => absurd cc_ (by decide))
      refine ww_aload_n K dX7_clears_27 rfl ?_
      refine ww_get K dX7_clears_28 lf_X7_17 h64 rfl ?_
      refine ww_iconst (v := 1) K dX7_clears_31 rfl ?_
      refine ww_bipush (v := 10) K dX7_clears_32 rfl ?_
      refine ww_iastX K dX7_clears_34 h67 (wc_vin (by decide)) (fun w1 hln_w1 h67 hne_w1 => ?_)
      have h64 := (hne_w1 64 (by decide)).trans h64
      have hS := hS.put (k := 67) (by decide) hne_w1
      refine ww_aload_n K dX7_clears_35 rfl ?_
      refine ww_get K dX7_clears_36 lf_X7_17 h64 rfl ?_
      refine ww_iconst (v := 2) K dX7_clears_39 rfl ?_
      refine ww_iconst (v := 2) K dX7_clears_40 rfl ?_
      refine ww_iastX K dX7_clears_41 h67 (wc_vin (by decide)) (fun w2 hln_w2 h67 hne_w2 => ?_)
      have h64 := (hne_w2 64 (by decide)).trans h64
      have hS := hS.put (k := 67) (by decide) hne_w2
      refine ww_aload_n K dX7_clears_42 rfl ?_
      refine ww_get K dX7_clears_43 lf_X7_17 h64 rfl ?_
      refine ww_iconst (v := 3) K dX7_clears_46 rfl ?_
      refine ww_bipush (v := 50) K dX7_clears_47 rfl ?_
      refine ww_iastX K dX7_clears_49 h67 (wc_vin (by decide)) (fun w3 hln_w3 h67 hne_w3 => ?_)
      have h64 := (hne_w3 64 (by decide)).trans h64
      have hS := hS.put (k := 67) (by decide) hne_w3
      refine ww_aload_n K dX7_clears_50 rfl ?_
      refine ww_get K dX7_clears_51 lf_X7_17 h64 rfl ?_
      refine ww_iconst (v := 4) K dX7_clears_54 rfl ?_
      refine ww_bipush (v := 50) K dX7_clears_55 rfl ?_
      refine ww_iastX K dX7_clears_57 h67 (wc_vin (by decide)) (fun w4 hln_w4 h67 hne_w4 => ?_)
      have h64 := (hne_w4 64 (by decide)).trans h64
      have hS := hS.put (k := 67) (by decide) hne_w4
      refine ww_aload_n K dX7_clears_58 rfl ?_
      refine ww_get K dX7_clears_59 lf_X7_17 h64 rfl ?_
      refine ww_iconst (v := 5) K dX7_clears_62 rfl ?_
      refine ww_bipush (v := 20) K dX7_clears_63 rfl ?_
      refine ww_iastX K dX7_clears_65 h67 (wc_vin (by decide)) (fun w5 hln_w5 h67 hne_w5 => ?_)
      have h64 := (hne_w5 64 (by decide)).trans h64
      have hS := hS.put (k := 67) (by decide) hne_w5
      exact ww_vret K dX7_clears_66 hr ⟨rfl, ⟨_, (by rw [pk_un (by decide), pk_un (by decide), pk_un (by decide), pk_un (by decide), pk_un (by decide)]; exact hF (by decide)), h67⟩, hS⟩
    | succ dd ih =>
      intro i hi wl F1 h64 h67 hF hS
      have hlt : i < 201 := by omega
      refine ww_iload_n K dX7_clears_2 rfl ?_
      refine ww_sipush (v := 201) K dX7_clears_3 rfl ?_
      refine ww_icmp_ge (tgt := 22) K dX7_clears_6 rfl (fun cc_ => absurd cc_ (nI_ge hlt (by decide))) (fun _ => ?_)
      refine ww_aload_n K dX7_clears_9 rfl ?_
      refine ww_get K dX7_clears_10 lf_X7_17 h64 rfl ?_
      refine ww_iload_n K dX7_clears_13 rfl ?_
      refine ww_iconst (v := 0) K dX7_clears_14 rfl ?_
      refine ww_iastX K dX7_clears_15 h67 (vp_in_nI hlt (by decide)) (fun wa hlna h67 hnea => ?_)
      have h64 := (hnea 64 (by decide)).trans h64
      have hS := hS.put (k := 67) (by decide) hnea
      obtain ⟨F2, h67, hF⟩ : ∃ F, wa[67]? = some (cI 0 201 F) ∧ (0 < i + 1 → F 0 = 0) := ⟨_, h67, fun _ => by rw [nI_clamp (by omega)]; exact wc_upd0 hF⟩
      refine ww_iinc (ls2 := [some (eR (64)), some (eI (0)), some (eI (((nI i) + 1)))]) K dX7_clears_16 (by decide) rfl rfl ?_
      refine ww_goto (tgt := 2) K dX7_clears_19 rfl ?_
      rw [show (nI i + 1) = nI (i + 1) from nI_1 i]
      exact ih (i + 1) (by omega) _ _ h64 h67 hF hS
  exact loop 201 0 rfl _ _ h64 h67 (fun h => absurd h (by decide)) hS
set_option maxRecDepth 100000 in
set_option maxHeartbeats 4000000 in
theorem ct_X7_clears_1 (G : EG) (l : Launch) {w : EW} {f1 : Nat → Int32} (h64 : w[64]? = some (cO 7 [eR (65), eR (66), eI (0), eI (0), eI (0), eI (0), eI (0), eI (0), eI (0), eI ((-1)), eR (67), eI (0), eI (0), eI (0), eI (0), eI (0), eI (0), eI (0), eI (0), eI (0), eI (0), eI (0), eI (0), eI (0), eI (0), eI (0), eI (0), eR (68), eR (69), eI (0), eI (0), eR (70), eR (71), eI (0), eI (0)])) (h67 : w[67]? = some (cI 0 201 f1)) : Ct G l yX7_clears cX7_clears 3 none 0 0 0 [eR (64), eI (1)] w (fun r w2 => r = none ∧ ((∃ F : Nat → Int32, F 0 = 0 ∧ w2[67]? = some (cI 0 201 F)) ∧ wc_same [67] w w2)) := by
  refine Ct_of (by decide +kernel) (Nat.le_of_ble_eq_true rfl) ?_
  intro p_ e_ s_ m_ a_ b_ t_ c_ K0 hr hin
  have K : wc_C p_ s_ m_ a_ t_ c_ G RX7 cX7_clears 3 w.length := K0
  clear K0
  refine WW_ls (ls2 := [some (eR (64)), some (eI (1)), none]) rfl ?_
  have hS : wc_same [67] w w := wc_same.rf
  refine ww_iconst (v := 0) K dX7_clears_0 rfl ?_
  refine ww_istore_n (ls2 := [some (eR (64)), some (eI (1)), some (eI (0))]) K dX7_clears_1 (by decide) rfl ?_
  have loop : ∀ (dd i : Nat), i + dd = 201 → ∀ (wl : EW) (F1 : Nat → Int32), wl[64]? = some (cO 7 [eR (65), eR (66), eI (0), eI (0), eI (0), eI (0), eI (0), eI (0), eI (0), eI ((-1)), eR (67), eI (0), eI (0), eI (0), eI (0), eI (0), eI (0), eI (0), eI (0), eI (0), eI (0), eI (0), eI (0), eI (0), eI (0), eI (0), eI (0), eR (68), eR (69), eI (0), eI (0), eR (70), eR (71), eI (0), eI (0)]) → wl[67]? = some (cI 0 201 F1) → (0 < i → F1 0 = 0) → wc_same [67] w wl → WW p_ l e_ (wc_rm 0 0 0) s_ m_ a_ b_ t_ c_ (MQ b_ (wc_Q G w 0 0 (fun r w2 => r = none ∧ ((∃ F : Nat → Int32, F 0 = 0 ∧ w2[67]? = some (cI 0 201 F)) ∧ wc_same [67] w w2))) a_ s_ 0 0 (wc_A G)) G 3 w.length (wc_SL w) 0 0 2 [some (eR (64)), some (eI (1)), some (eI ((nI i)))] [] wl := by
    intro dd
    induction dd with
    | zero =>
      intro i hi wl F1 h64 h67 hF hS
      have hh : i = 201 := by omega
      subst hh
      refine ww_iload_n K dX7_clears_2 rfl ?_
      refine ww_sipush (v := 201) K dX7_clears_3 rfl ?_
      refine ww_icmp_ge (tgt := 22) K dX7_clears_6 rfl (fun _ => ?_) (fun cc_ => absurd (by decide) cc_)
      refine ww_iload_n K dX7_clears_22 rfl ?_
      refine ww_if_eq (tgt := 27) K dX7_clears_23 rfl (fun cc_ => absurd cc_ (by decide)) (fun _ => ?_)
      exact ww_vret K dX7_clears_26 hr ⟨rfl, ⟨_, hF (by decide), h67⟩, hS⟩
    | succ dd ih =>
      intro i hi wl F1 h64 h67 hF hS
      have hlt : i < 201 := by omega
      refine ww_iload_n K dX7_clears_2 rfl ?_
      refine ww_sipush (v := 201) K dX7_clears_3 rfl ?_
      refine ww_icmp_ge (tgt := 22) K dX7_clears_6 rfl (fun cc_ => absurd cc_ (nI_ge hlt (by decide))) (fun _ => ?_)
      refine ww_aload_n K dX7_clears_9 rfl ?_
      refine ww_get K dX7_clears_10 lf_X7_17 h64 rfl ?_
      refine ww_iload_n K dX7_clears_13 rfl ?_
      refine ww_iconst (v := 0) K dX7_clears_14 rfl ?_
      refine ww_iastX K dX7_clears_15 h67 (vp_in_nI hlt (by decide)) (fun wa hlna h67 hnea => ?_)
      have h64 := (hnea 64 (by decide)).trans h64
      have hS := hS.put (k := 67) (by decide) hnea
      obtain ⟨F2, h67, hF⟩ : ∃ F, wa[67]? = some (cI 0 201 F) ∧ (0 < i + 1 → F 0 = 0) := ⟨_, h67, fun _ => by rw [nI_clamp (by omega)]; exact wc_upd0 hF⟩
      refine ww_iinc (ls2 := [some (eR (64)), some (eI (1)), some (eI (((nI i) + 1)))]) K dX7_clears_16 (by decide) rfl rfl ?_
      refine ww_goto (tgt := 2) K dX7_clears_19 rfl ?_
      rw [show (nI i + 1) = nI (i + 1) from nI_1 i]
      exact ih (i + 1) (by omega) _ _ h64 h67 hF hS
  exact loop 201 0 rfl _ _ h64 h67 (fun h => absurd h (by decide)) hS
set_option maxRecDepth 100000 in
set_option maxHeartbeats 4000000 in
theorem ct_X7_clears_2 (G : EG) (l : Launch) {w : EW} {f1 : Nat → Int32} (h64 : w[64]? = some (cO 7 [eR (65), eR (66), eI (0), eI (0), eI (0), eI (0), eI (0), eI (0), eI (0), eI ((-1)), eR (67), eI (0), eI (0), eI (0), eI (0), eI (0), eI (0), eI (0), eI (0), eI (0), eI (0), eI (0), eI (0), eI (0), eI (0), eI (0), eI (0), eR (68), eR (69), eI (0), eI (0), eR (70), eR (71), eI (0), eI (0)])) (h67 : w[67]? = some (cI 0 201 f1)) : Ct G l yX7_clears cX7_clears 3 none 0 0 0 [eR (64), eI (2)] w (fun r w2 => r = none ∧ ((∃ F : Nat → Int32, F 0 = 0 ∧ w2[67]? = some (cI 0 201 F)) ∧ wc_same [67] w w2)) := by
  refine Ct_of (by decide +kernel) (Nat.le_of_ble_eq_true rfl) ?_
  intro p_ e_ s_ m_ a_ b_ t_ c_ K0 hr hin
  have K : wc_C p_ s_ m_ a_ t_ c_ G RX7 cX7_clears 3 w.length := K0
  clear K0
  refine WW_ls (ls2 := [some (eR (64)), some (eI (2)), none]) rfl ?_
  have hS : wc_same [67] w w := wc_same.rf
  refine ww_iconst (v := 0) K dX7_clears_0 rfl ?_
  refine ww_istore_n (ls2 := [some (eR (64)), some (eI (2)), some (eI (0))]) K dX7_clears_1 (by decide) rfl ?_
  have loop : ∀ (dd i : Nat), i + dd = 201 → ∀ (wl : EW) (F1 : Nat → Int32), wl[64]? = some (cO 7 [eR (65), eR (66), eI (0), eI (0), eI (0), eI (0), eI (0), eI (0), eI (0), eI ((-1)), eR (67), eI (0), eI (0), eI (0), eI (0), eI (0), eI (0), eI (0), eI (0), eI (0), eI (0), eI (0), eI (0), eI (0), eI (0), eI (0), eI (0), eR (68), eR (69), eI (0), eI (0), eR (70), eR (71), eI (0), eI (0)]) → wl[67]? = some (cI 0 201 F1) → (0 < i → F1 0 = 0) → wc_same [67] w wl → WW p_ l e_ (wc_rm 0 0 0) s_ m_ a_ b_ t_ c_ (MQ b_ (wc_Q G w 0 0 (fun r w2 => r = none ∧ ((∃ F : Nat → Int32, F 0 = 0 ∧ w2[67]? = some (cI 0 201 F)) ∧ wc_same [67] w w2))) a_ s_ 0 0 (wc_A G)) G 3 w.length (wc_SL w) 0 0 2 [some (eR (64)), some (eI (2)), some (eI ((nI i)))] [] wl := by
    intro dd
    induction dd with
    | zero =>
      intro i hi wl F1 h64 h67 hF hS
      have hh : i = 201 := by omega
      subst hh
      refine ww_iload_n K dX7_clears_2 rfl ?_
      refine ww_sipush (v := 201) K dX7_clears_3 rfl ?_
      refine ww_icmp_ge (tgt := 22) K dX7_clears_6 rfl (fun _ => ?_) (fun cc_ => absurd (by decide) cc_)
      refine ww_iload_n K dX7_clears_22 rfl ?_
      refine ww_if_eq (tgt := 27) K dX7_clears_23 rfl (fun cc_ => absurd cc_ (by decide)) (fun _ => ?_)
      exact ww_vret K dX7_clears_26 hr ⟨rfl, ⟨_, hF (by decide), h67⟩, hS⟩
    | succ dd ih =>
      intro i hi wl F1 h64 h67 hF hS
      have hlt : i < 201 := by omega
      refine ww_iload_n K dX7_clears_2 rfl ?_
      refine ww_sipush (v := 201) K dX7_clears_3 rfl ?_
      refine ww_icmp_ge (tgt := 22) K dX7_clears_6 rfl (fun cc_ => absurd cc_ (nI_ge hlt (by decide))) (fun _ => ?_)
      refine ww_aload_n K dX7_clears_9 rfl ?_
      refine ww_get K dX7_clears_10 lf_X7_17 h64 rfl ?_
      refine ww_iload_n K dX7_clears_13 rfl ?_
      refine ww_iconst (v := 0) K dX7_clears_14 rfl ?_
      refine ww_iastX K dX7_clears_15 h67 (vp_in_nI hlt (by decide)) (fun wa hlna h67 hnea => ?_)
      have h64 := (hnea 64 (by decide)).trans h64
      have hS := hS.put (k := 67) (by decide) hnea
      obtain ⟨F2, h67, hF⟩ : ∃ F, wa[67]? = some (cI 0 201 F) ∧ (0 < i + 1 → F 0 = 0) := ⟨_, h67, fun _ => by rw [nI_clamp (by omega)]; exact wc_upd0 hF⟩
      refine ww_iinc (ls2 := [some (eR (64)), some (eI (2)), some (eI (((nI i) + 1)))]) K dX7_clears_16 (by decide) rfl rfl ?_
      refine ww_goto (tgt := 2) K dX7_clears_19 rfl ?_
      rw [show (nI i + 1) = nI (i + 1) from nI_1 i]
      exact ih (i + 1) (by omega) _ _ h64 h67 hF hS
  exact loop 201 0 rfl _ _ h64 h67 (fun h => absurd h (by decide)) hS
set_option maxRecDepth 100000 in
set_option maxHeartbeats 4000000 in
theorem ct_X7_clears_3 (G : EG) (l : Launch) {w : EW} {f1 : Nat → Int32} (h64 : w[64]? = some (cO 7 [eR (65), eR (66), eI (0), eI (0), eI (0), eI (0), eI (0), eI (0), eI (0), eI ((-1)), eR (67), eI (0), eI (0), eI (0), eI (0), eI (0), eI (0), eI (0), eI (0), eI (0), eI (0), eI (0), eI (0), eI (0), eI (0), eI (0), eI (0), eR (68), eR (69), eI (0), eI (0), eR (70), eR (71), eI (0), eI (0)])) (h67 : w[67]? = some (cI 0 201 f1)) : Ct G l yX7_clears cX7_clears 3 none 0 0 0 [eR (64), eI (3)] w (fun r w2 => r = none ∧ ((∃ F : Nat → Int32, F 0 = 0 ∧ w2[67]? = some (cI 0 201 F)) ∧ wc_same [67] w w2)) := by
  refine Ct_of (by decide +kernel) (Nat.le_of_ble_eq_true rfl) ?_
  intro p_ e_ s_ m_ a_ b_ t_ c_ K0 hr hin
  have K : wc_C p_ s_ m_ a_ t_ c_ G RX7 cX7_clears 3 w.length := K0
  clear K0
  refine WW_ls (ls2 := [some (eR (64)), some (eI (3)), none]) rfl ?_
  have hS : wc_same [67] w w := wc_same.rf
  refine ww_iconst (v := 0) K dX7_clears_0 rfl ?_
  refine ww_istore_n (ls2 := [some (eR (64)), some (eI (3)), some (eI (0))]) K dX7_clears_1 (by decide) rfl ?_
  have loop : ∀ (dd i : Nat), i + dd = 201 → ∀ (wl : EW) (F1 : Nat → Int32), wl[64]? = some (cO 7 [eR (65), eR (66), eI (0), eI (0), eI (0), eI (0), eI (0), eI (0), eI (0), eI ((-1)), eR (67), eI (0), eI (0), eI (0), eI (0), eI (0), eI (0), eI (0), eI (0), eI (0), eI (0), eI (0), eI (0), eI (0), eI (0), eI (0), eI (0), eR (68), eR (69), eI (0), eI (0), eR (70), eR (71), eI (0), eI (0)]) → wl[67]? = some (cI 0 201 F1) → (0 < i → F1 0 = 0) → wc_same [67] w wl → WW p_ l e_ (wc_rm 0 0 0) s_ m_ a_ b_ t_ c_ (MQ b_ (wc_Q G w 0 0 (fun r w2 => r = none ∧ ((∃ F : Nat → Int32, F 0 = 0 ∧ w2[67]? = some (cI 0 201 F)) ∧ wc_same [67] w w2))) a_ s_ 0 0 (wc_A G)) G 3 w.length (wc_SL w) 0 0 2 [some (eR (64)), some (eI (3)), some (eI ((nI i)))] [] wl := by
    intro dd
    induction dd with
    | zero =>
      intro i hi wl F1 h64 h67 hF hS
      have hh : i = 201 := by omega
      subst hh
      refine ww_iload_n K dX7_clears_2 rfl ?_
      refine ww_sipush (v := 201) K dX7_clears_3 rfl ?_
      refine ww_icmp_ge (tgt := 22) K dX7_clears_6 rfl (fun _ => ?_) (fun cc_ => absurd (by decide) cc_)
      refine ww_iload_n K dX7_clears_22 rfl ?_
      refine ww_if_eq (tgt := 27) K dX7_clears_23 rfl (fun cc_ => absurd cc_ (by decide)) (fun _ => ?_)
      exact ww_vret K dX7_clears_26 hr ⟨rfl, ⟨_, hF (by decide), h67⟩, hS⟩
    | succ dd ih =>
      intro i hi wl F1 h64 h67 hF hS
      have hlt : i < 201 := by omega
      refine ww_iload_n K dX7_clears_2 rfl ?_
      refine ww_sipush (v := 201) K dX7_clears_3 rfl ?_
      refine ww_icmp_ge (tgt := 22) K dX7_clears_6 rfl (fun cc_ => absurd cc_ (nI_ge hlt (by decide))) (fun _ => ?_)
      refine ww_aload_n K dX7_clears_9 rfl ?_
      refine ww_get K dX7_clears_10 lf_X7_17 h64 rfl ?_
      refine ww_iload_n K dX7_clears_13 rfl ?_
      refine ww_iconst (v := 0) K dX7_clears_14 rfl ?_
      refine ww_iastX K dX7_clears_15 h67 (vp_in_nI hlt (by decide)) (fun wa hlna h67 hnea => ?_)
      have h64 := (hnea 64 (by decide)).trans h64
      have hS := hS.put (k := 67) (by decide) hnea
      obtain ⟨F2, h67, hF⟩ : ∃ F, wa[67]? = some (cI 0 201 F) ∧ (0 < i + 1 → F 0 = 0) := ⟨_, h67, fun _ => by rw [nI_clamp (by omega)]; exact wc_upd0 hF⟩
      refine ww_iinc (ls2 := [some (eR (64)), some (eI (3)), some (eI (((nI i) + 1)))]) K dX7_clears_16 (by decide) rfl rfl ?_
      refine ww_goto (tgt := 2) K dX7_clears_19 rfl ?_
      rw [show (nI i + 1) = nI (i + 1) from nI_1 i]
      exact ih (i + 1) (by omega) _ _ h64 h67 hF hS
  exact loop 201 0 rfl _ _ h64 h67 (fun h => absurd h (by decide)) hS
set_option maxRecDepth 100000 in
set_option maxHeartbeats 4000000 in
theorem ct_X7_clears_4 (G : EG) (l : Launch) {w : EW} {f1 : Nat → Int32} (h64 : w[64]? = some (cO 7 [eR (65), eR (66), eI (0), eI (0), eI (0), eI (0), eI (0), eI (0), eI (0), eI ((-1)), eR (67), eI (0), eI (0), eI (0), eI (0), eI (0), eI (0), eI (0), eI (0), eI (0), eI (0), eI (0), eI (0), eI (0), eI (0), eI (0), eI (0), eR (68), eR (69), eI (0), eI (0), eR (70), eR (71), eI (0), eI (0)])) (h67 : w[67]? = some (cI 0 201 f1)) : Ct G l yX7_clears cX7_clears 3 none 0 0 0 [eR (64), eI (4)] w (fun r w2 => r = none ∧ ((∃ F : Nat → Int32, F 0 = 0 ∧ w2[67]? = some (cI 0 201 F)) ∧ wc_same [67] w w2)) := by
  refine Ct_of (by decide +kernel) (Nat.le_of_ble_eq_true rfl) ?_
  intro p_ e_ s_ m_ a_ b_ t_ c_ K0 hr hin
  have K : wc_C p_ s_ m_ a_ t_ c_ G RX7 cX7_clears 3 w.length := K0
  clear K0
  refine WW_ls (ls2 := [some (eR (64)), some (eI (4)), none]) rfl ?_
  have hS : wc_same [67] w w := wc_same.rf
  refine ww_iconst (v := 0) K dX7_clears_0 rfl ?_
  refine ww_istore_n (ls2 := [some (eR (64)), some (eI (4)), some (eI (0))]) K dX7_clears_1 (by decide) rfl ?_
  have loop : ∀ (dd i : Nat), i + dd = 201 → ∀ (wl : EW) (F1 : Nat → Int32), wl[64]? = some (cO 7 [eR (65), eR (66), eI (0), eI (0), eI (0), eI (0), eI (0), eI (0), eI (0), eI ((-1)), eR (67), eI (0), eI (0), eI (0), eI (0), eI (0), eI (0), eI (0), eI (0), eI (0), eI (0), eI (0), eI (0), eI (0), eI (0), eI (0), eI (0), eR (68), eR (69), eI (0), eI (0), eR (70), eR (71), eI (0), eI (0)]) → wl[67]? = some (cI 0 201 F1) → (0 < i → F1 0 = 0) → wc_same [67] w wl → WW p_ l e_ (wc_rm 0 0 0) s_ m_ a_ b_ t_ c_ (MQ b_ (wc_Q G w 0 0 (fun r w2 => r = none ∧ ((∃ F : Nat → Int32, F 0 = 0 ∧ w2[67]? = some (cI 0 201 F)) ∧ wc_same [67] w w2))) a_ s_ 0 0 (wc_A G)) G 3 w.length (wc_SL w) 0 0 2 [some (eR (64)), some (eI (4)), some (eI ((nI i)))] [] wl := by
    intro dd
    induction dd with
    | zero =>
      intro i hi wl F1 h64 h67 hF hS
      have hh : i = 201 := by omega
      subst hh
      refine ww_iload_n K dX7_clears_2 rfl ?_
      refine ww_sipush (v := 201) K dX7_clears_3 rfl ?_
      refine ww_icmp_ge (tgt := 22) K dX7_clears_6 rfl (fun _ => ?_) (fun cc_ => absurd (by decide) cc_)
      refine ww_iload_n K dX7_clears_22 rfl ?_
      refine ww_if_eq (tgt := 27) K dX7_clears_23 rfl (fun cc_ => absurd cc_ (by decide)) (fun _ => ?_)
      exact ww_vret K dX7_clears_26 hr ⟨rfl, ⟨_, hF (by decide), h67⟩, hS⟩
    | succ dd ih =>
      intro i hi wl F1 h64 h67 hF hS
      have hlt : i < 201 := by omega
      refine ww_iload_n K dX7_clears_2 rfl ?_
      refine ww_sipush (v := 201) K dX7_clears_3 rfl ?_
      refine ww_icmp_ge (tgt := 22) K dX7_clears_6 rfl (fun cc_ => absurd cc_ (nI_ge hlt (by decide))) (fun _ => ?_)
      refine ww_aload_n K dX7_clears_9 rfl ?_
      refine ww_get K dX7_clears_10 lf_X7_17 h64 rfl ?_
      refine ww_iload_n K dX7_clears_13 rfl ?_
      refine ww_iconst (v := 0) K dX7_clears_14 rfl ?_
      refine ww_iastX K dX7_clears_15 h67 (vp_in_nI hlt (by decide)) (fun wa hlna h67 hnea => ?_)
      have h64 := (hnea 64 (by decide)).trans h64
      have hS := hS.put (k := 67) (by decide) hnea
      obtain ⟨F2, h67, hF⟩ : ∃ F, wa[67]? = some (cI 0 201 F) ∧ (0 < i + 1 → F 0 = 0) := ⟨_, h67, fun _ => by rw [nI_clamp (by omega)]; exact wc_upd0 hF⟩
      refine ww_iinc (ls2 := [some (eR (64)), some (eI (4)), some (eI (((nI i) + 1)))]) K dX7_clears_16 (by decide) rfl rfl ?_
      refine ww_goto (tgt := 2) K dX7_clears_19 rfl ?_
      rw [show (nI i + 1) = nI (i + 1) from nI_1 i]
      exact ih (i + 1) (by omega) _ _ h64 h67 hF hS
  exact loop 201 0 rfl _ _ h64 h67 (fun h => absurd h (by decide)) hS
set_option maxRecDepth 100000 in
set_option maxHeartbeats 4000000 in
theorem ct_X7_clears_5 (G : EG) (l : Launch) {w : EW} {f1 : Nat → Int32} (h64 : w[64]? = some (cO 7 [eR (65), eR (66), eI (0), eI (0), eI (0), eI (0), eI (0), eI (0), eI (0), eI ((-1)), eR (67), eI (0), eI (0), eI (0), eI (0), eI (0), eI (0), eI (0), eI (0), eI (0), eI (0), eI (0), eI (0), eI (0), eI (0), eI (0), eI (0), eR (68), eR (69), eI (0), eI (0), eR (70), eR (71), eI (0), eI (0)])) (h67 : w[67]? = some (cI 0 201 f1)) : Ct G l yX7_clears cX7_clears 3 none 0 0 0 [eR (64), eI (5)] w (fun r w2 => r = none ∧ ((∃ F : Nat → Int32, F 0 = 0 ∧ w2[67]? = some (cI 0 201 F)) ∧ wc_same [67] w w2)) := by
  refine Ct_of (by decide +kernel) (Nat.le_of_ble_eq_true rfl) ?_
  intro p_ e_ s_ m_ a_ b_ t_ c_ K0 hr hin
  have K : wc_C p_ s_ m_ a_ t_ c_ G RX7 cX7_clears 3 w.length := K0
  clear K0
  refine WW_ls (ls2 := [some (eR (64)), some (eI (5)), none]) rfl ?_
  have hS : wc_same [67] w w := wc_same.rf
  refine ww_iconst (v := 0) K dX7_clears_0 rfl ?_
  refine ww_istore_n (ls2 := [some (eR (64)), some (eI (5)), some (eI (0))]) K dX7_clears_1 (by decide) rfl ?_
  have loop : ∀ (dd i : Nat), i + dd = 201 → ∀ (wl : EW) (F1 : Nat → Int32), wl[64]? = some (cO 7 [eR (65), eR (66), eI (0), eI (0), eI (0), eI (0), eI (0), eI (0), eI (0), eI ((-1)), eR (67), eI (0), eI (0), eI (0), eI (0), eI (0), eI (0), eI (0), eI (0), eI (0), eI (0), eI (0), eI (0), eI (0), eI (0), eI (0), eI (0), eR (68), eR (69), eI (0), eI (0), eR (70), eR (71), eI (0), eI (0)]) → wl[67]? = some (cI 0 201 F1) → (0 < i → F1 0 = 0) → wc_same [67] w wl → WW p_ l e_ (wc_rm 0 0 0) s_ m_ a_ b_ t_ c_ (MQ b_ (wc_Q G w 0 0 (fun r w2 => r = none ∧ ((∃ F : Nat → Int32, F 0 = 0 ∧ w2[67]? = some (cI 0 201 F)) ∧ wc_same [67] w w2))) a_ s_ 0 0 (wc_A G)) G 3 w.length (wc_SL w) 0 0 2 [some (eR (64)), some (eI (5)), some (eI ((nI i)))] [] wl := by
    intro dd
    induction dd with
    | zero =>
      intro i hi wl F1 h64 h67 hF hS
      have hh : i = 201 := by omega
      subst hh
      refine ww_iload_n K dX7_clears_2 rfl ?_
      refine ww_sipush (v := 201) K dX7_clears_3 rfl ?_
      refine ww_icmp_ge (tgt := 22) K dX7_clears_6 rfl (fun _ => ?_) (fun cc_ => absurd (by decide) cc_)
      refine ww_iload_n K dX7_clears_22 rfl ?_
      refine ww_if_eq (tgt := 27) K dX7_clears_23 rfl (fun cc_ => absurd cc_ (by decide)) (fun _ => ?_)
      exact ww_vret K dX7_clears_26 hr ⟨rfl, ⟨_, hF (by decide), h67⟩, hS⟩
    | succ dd ih =>
      intro i hi wl F1 h64 h67 hF hS
      have hlt : i < 201 := by omega
      refine ww_iload_n K dX7_clears_2 rfl ?_
      refine ww_sipush (v := 201) K dX7_clears_3 rfl ?_
      refine ww_icmp_ge (tgt := 22) K dX7_clears_6 rfl (fun cc_ => absurd cc_ (nI_ge hlt (by decide))) (fun _ => ?_)
      refine ww_aload_n K dX7_clears_9 rfl ?_
      refine ww_get K dX7_clears_10 lf_X7_17 h64 rfl ?_
      refine ww_iload_n K dX7_clears_13 rfl ?_
      refine ww_iconst (v := 0) K dX7_clears_14 rfl ?_
      refine ww_iastX K dX7_clears_15 h67 (vp_in_nI hlt (by decide)) (fun wa hlna h67 hnea => ?_)
      have h64 := (hnea 64 (by decide)).trans h64
      have hS := hS.put (k := 67) (by decide) hnea
      obtain ⟨F2, h67, hF⟩ : ∃ F, wa[67]? = some (cI 0 201 F) ∧ (0 < i + 1 → F 0 = 0) := ⟨_, h67, fun _ => by rw [nI_clamp (by omega)]; exact wc_upd0 hF⟩
      refine ww_iinc (ls2 := [some (eR (64)), some (eI (5)), some (eI (((nI i) + 1)))]) K dX7_clears_16 (by decide) rfl rfl ?_
      refine ww_goto (tgt := 2) K dX7_clears_19 rfl ?_
      rw [show (nI i + 1) = nI (i + 1) from nI_1 i]
      exact ih (i + 1) (by omega) _ _ h64 h67 hF hS
  exact loop 201 0 rfl _ _ h64 h67 (fun h => absurd h (by decide)) hS
set_option maxRecDepth 100000 in
set_option maxHeartbeats 4000000 in
theorem ct_X7_sizeOf_0 (G : EG) (l : Launch) {w : EW}   : Ct G l yX7_sizeOf cX7_sizeOf 1 (some .int) 0 0 0 [eI (0)] w (fun r w2 => r = some (eI 118) ∧ w2 = w) := by
  refine Ct_of (by decide +kernel) (Nat.le_of_ble_eq_true rfl) ?_
  intro p_ e_ s_ m_ a_ b_ t_ c_ K0 hr hin
  have K : wc_C p_ s_ m_ a_ t_ c_ G RX7 cX7_sizeOf 1 w.length := K0
  clear K0
  refine WW_ls (ls2 := [some (eI (0))]) rfl ?_
  have hS : wc_same [0] w w := wc_same.rf
  refine ww_iload_n K dX7_sizeOf_0 rfl ?_
  refine ww_tableIn (off := 35) (tgt := 36) K dX7_sizeOf_1 (by decide) (by decide) rfl rfl ?_
  refine ww_bipush (v := 118) K dX7_sizeOf_36 rfl ?_
  exact ww_iret K dX7_sizeOf_38 hr ⟨rfl, rfl⟩
set_option maxRecDepth 100000 in
set_option maxHeartbeats 4000000 in
theorem ct_X7_placeOf_0 (G : EG) (l : Launch) {w : EW}   : Ct G l yX7_placeOf cX7_placeOf 2 (some .int) 0 0 0 [eI (0), eI (0)] w (fun r w2 => r = some (eI 610) ∧ w2 = w) := by
  refine Ct_of (by decide +kernel) (Nat.le_of_ble_eq_true rfl) ?_
  intro p_ e_ s_ m_ a_ b_ t_ c_ K0 hr hin
  have K : wc_C p_ s_ m_ a_ t_ c_ G RX7 cX7_placeOf 2 w.length := K0
  clear K0
  refine WW_ls (ls2 := [some (eI (0)), some (eI (0))]) rfl ?_
  have hS : wc_same [0] w w := wc_same.rf
  refine ww_iload_n K dX7_placeOf_0 rfl ?_
  refine ww_tableIn (off := 35) (tgt := 36) K dX7_placeOf_1 (by decide) (by decide) rfl rfl ?_
  refine ww_sipush (v := 610) K dX7_placeOf_36 rfl ?_
  refine ww_bipush (v := 118) K dX7_placeOf_39 rfl ?_
  refine ww_iload_n K dX7_placeOf_41 rfl ?_
  refine ww_imul K dX7_placeOf_42 ?_
  rw [show ((118 : Int32) * 0) = 0 from rfl]
  refine ww_iadd K dX7_placeOf_43 ?_
  rw [show ((610 : Int32) + 0) = 610 from rfl]
  exact ww_iret K dX7_placeOf_44 hr ⟨rfl, rfl⟩
set_option maxRecDepth 100000 in
set_option maxHeartbeats 4000000 in
theorem ct_X7_sizeOf_1 (G : EG) (l : Launch) {w : EW}   : Ct G l yX7_sizeOf cX7_sizeOf 1 (some .int) 0 0 0 [eI (1)] w (fun r w2 => r = some (eI 41) ∧ w2 = w) := by
  refine Ct_of (by decide +kernel) (Nat.le_of_ble_eq_true rfl) ?_
  intro p_ e_ s_ m_ a_ b_ t_ c_ K0 hr hin
  have K : wc_C p_ s_ m_ a_ t_ c_ G RX7 cX7_sizeOf 1 w.length := K0
  clear K0
  refine WW_ls (ls2 := [some (eI (1))]) rfl ?_
  have hS : wc_same [0] w w := wc_same.rf
  refine ww_iload_n K dX7_sizeOf_0 rfl ?_
  refine ww_tableIn (off := 38) (tgt := 39) K dX7_sizeOf_1 (by decide) (by decide) rfl rfl ?_
  refine ww_bipush (v := 41) K dX7_sizeOf_39 rfl ?_
  exact ww_iret K dX7_sizeOf_41 hr ⟨rfl, rfl⟩
set_option maxRecDepth 100000 in
set_option maxHeartbeats 4000000 in
theorem ct_X7_placeOf_1 (G : EG) (l : Launch) {w : EW}   : Ct G l yX7_placeOf cX7_placeOf 2 (some .int) 0 0 0 [eI (1), eI (0)] w (fun r w2 => r = some (eI 846) ∧ w2 = w) := by
  refine Ct_of (by decide +kernel) (Nat.le_of_ble_eq_true rfl) ?_
  intro p_ e_ s_ m_ a_ b_ t_ c_ K0 hr hin
  have K : wc_C p_ s_ m_ a_ t_ c_ G RX7 cX7_placeOf 2 w.length := K0
  clear K0
  refine WW_ls (ls2 := [some (eI (1)), some (eI (0))]) rfl ?_
  have hS : wc_same [0] w w := wc_same.rf
  refine ww_iload_n K dX7_placeOf_0 rfl ?_
  refine ww_tableIn (off := 44) (tgt := 45) K dX7_placeOf_1 (by decide) (by decide) rfl rfl ?_
  refine ww_sipush (v := 846) K dX7_placeOf_45 rfl ?_
  refine ww_bipush (v := 41) K dX7_placeOf_48 rfl ?_
  refine ww_iload_n K dX7_placeOf_50 rfl ?_
  refine ww_imul K dX7_placeOf_51 ?_
  rw [show ((41 : Int32) * 0) = 0 from rfl]
  refine ww_iadd K dX7_placeOf_52 ?_
  rw [show ((846 : Int32) + 0) = 846 from rfl]
  exact ww_iret K dX7_placeOf_53 hr ⟨rfl, rfl⟩
set_option maxRecDepth 100000 in
set_option maxHeartbeats 4000000 in
theorem ct_X7_sizeOf_2 (G : EG) (l : Launch) {w : EW}   : Ct G l yX7_sizeOf cX7_sizeOf 1 (some .int) 0 0 0 [eI (2)] w (fun r w2 => r = some (eI 201) ∧ w2 = w) := by
  refine Ct_of (by decide +kernel) (Nat.le_of_ble_eq_true rfl) ?_
  intro p_ e_ s_ m_ a_ b_ t_ c_ K0 hr hin
  have K : wc_C p_ s_ m_ a_ t_ c_ G RX7 cX7_sizeOf 1 w.length := K0
  clear K0
  refine WW_ls (ls2 := [some (eI (2))]) rfl ?_
  have hS : wc_same [0] w w := wc_same.rf
  refine ww_iload_n K dX7_sizeOf_0 rfl ?_
  refine ww_tableIn (off := 41) (tgt := 42) K dX7_sizeOf_1 (by decide) (by decide) rfl rfl ?_
  refine ww_sipush (v := 201) K dX7_sizeOf_42 rfl ?_
  exact ww_iret K dX7_sizeOf_45 hr ⟨rfl, rfl⟩
set_option maxRecDepth 100000 in
set_option maxHeartbeats 4000000 in
theorem ct_X7_placeOf_2 (G : EG) (l : Launch) {w : EW}   : Ct G l yX7_placeOf cX7_placeOf 2 (some .int) 0 0 0 [eI (2), eI (0)] w (fun r w2 => r = some (eI 928) ∧ w2 = w) := by
  refine Ct_of (by decide +kernel) (Nat.le_of_ble_eq_true rfl) ?_
  intro p_ e_ s_ m_ a_ b_ t_ c_ K0 hr hin
  have K : wc_C p_ s_ m_ a_ t_ c_ G RX7 cX7_placeOf 2 w.length := K0
  clear K0
  refine WW_ls (ls2 := [some (eI (2)), some (eI (0))]) rfl ?_
  have hS : wc_same [0] w w := wc_same.rf
  refine ww_iload_n K dX7_placeOf_0 rfl ?_
  refine ww_tableIn (off := 53) (tgt := 54) K dX7_placeOf_1 (by decide) (by decide) rfl rfl ?_
  refine ww_sipush (v := 928) K dX7_placeOf_54 rfl ?_
  refine ww_sipush (v := 201) K dX7_placeOf_57 rfl ?_
  refine ww_iload_n K dX7_placeOf_60 rfl ?_
  refine ww_imul K dX7_placeOf_61 ?_
  rw [show ((201 : Int32) * 0) = 0 from rfl]
  refine ww_iadd K dX7_placeOf_62 ?_
  rw [show ((928 : Int32) + 0) = 928 from rfl]
  exact ww_iret K dX7_placeOf_63 hr ⟨rfl, rfl⟩
set_option maxRecDepth 100000 in
set_option maxHeartbeats 4000000 in
theorem ct_X7_sizeOf_3 (G : EG) (l : Launch) {w : EW}   : Ct G l yX7_sizeOf cX7_sizeOf 1 (some .int) 0 0 0 [eI (3)] w (fun r w2 => r = some (eI 17) ∧ w2 = w) := by
  refine Ct_of (by decide +kernel) (Nat.le_of_ble_eq_true rfl) ?_
  intro p_ e_ s_ m_ a_ b_ t_ c_ K0 hr hin
  have K : wc_C p_ s_ m_ a_ t_ c_ G RX7 cX7_sizeOf 1 w.length := K0
  clear K0
  refine WW_ls (ls2 := [some (eI (3))]) rfl ?_
  have hS : wc_same [0] w w := wc_same.rf
  refine ww_iload_n K dX7_sizeOf_0 rfl ?_
  refine ww_tableIn (off := 45) (tgt := 46) K dX7_sizeOf_1 (by decide) (by decide) rfl rfl ?_
  refine ww_bipush (v := 17) K dX7_sizeOf_46 rfl ?_
  exact ww_iret K dX7_sizeOf_48 hr ⟨rfl, rfl⟩
set_option maxRecDepth 100000 in
set_option maxHeartbeats 4000000 in
theorem ct_X7_placeOf_3 (G : EG) (l : Launch) {w : EW}   : Ct G l yX7_placeOf cX7_placeOf 2 (some .int) 0 0 0 [eI (3), eI (0)] w (fun r w2 => r = some (eI 1330) ∧ w2 = w) := by
  refine Ct_of (by decide +kernel) (Nat.le_of_ble_eq_true rfl) ?_
  intro p_ e_ s_ m_ a_ b_ t_ c_ K0 hr hin
  have K : wc_C p_ s_ m_ a_ t_ c_ G RX7 cX7_placeOf 2 w.length := K0
  clear K0
  refine WW_ls (ls2 := [some (eI (3)), some (eI (0))]) rfl ?_
  have hS : wc_same [0] w w := wc_same.rf
  refine ww_iload_n K dX7_placeOf_0 rfl ?_
  refine ww_tableIn (off := 63) (tgt := 64) K dX7_placeOf_1 (by decide) (by decide) rfl rfl ?_
  refine ww_sipush (v := 1330) K dX7_placeOf_64 rfl ?_
  refine ww_bipush (v := 17) K dX7_placeOf_67 rfl ?_
  refine ww_iload_n K dX7_placeOf_69 rfl ?_
  refine ww_imul K dX7_placeOf_70 ?_
  rw [show ((17 : Int32) * 0) = 0 from rfl]
  refine ww_iadd K dX7_placeOf_71 ?_
  rw [show ((1330 : Int32) + 0) = 1330 from rfl]
  exact ww_iret K dX7_placeOf_72 hr ⟨rfl, rfl⟩
set_option maxRecDepth 100000 in
set_option maxHeartbeats 4000000 in
theorem ct_X7_sizeOf_4 (G : EG) (l : Launch) {w : EW}   : Ct G l yX7_sizeOf cX7_sizeOf 1 (some .int) 0 0 0 [eI (4)] w (fun r w2 => r = some (eI 33) ∧ w2 = w) := by
  refine Ct_of (by decide +kernel) (Nat.le_of_ble_eq_true rfl) ?_
  intro p_ e_ s_ m_ a_ b_ t_ c_ K0 hr hin
  have K : wc_C p_ s_ m_ a_ t_ c_ G RX7 cX7_sizeOf 1 w.length := K0
  clear K0
  refine WW_ls (ls2 := [some (eI (4))]) rfl ?_
  have hS : wc_same [0] w w := wc_same.rf
  refine ww_iload_n K dX7_sizeOf_0 rfl ?_
  refine ww_tableIn (off := 48) (tgt := 49) K dX7_sizeOf_1 (by decide) (by decide) rfl rfl ?_
  refine ww_bipush (v := 33) K dX7_sizeOf_49 rfl ?_
  exact ww_iret K dX7_sizeOf_51 hr ⟨rfl, rfl⟩
set_option maxRecDepth 100000 in
set_option maxHeartbeats 4000000 in
theorem ct_X7_placeOf_4 (G : EG) (l : Launch) {w : EW}   : Ct G l yX7_placeOf cX7_placeOf 2 (some .int) 0 0 0 [eI (4), eI (0)] w (fun r w2 => r = some (eI 1364) ∧ w2 = w) := by
  refine Ct_of (by decide +kernel) (Nat.le_of_ble_eq_true rfl) ?_
  intro p_ e_ s_ m_ a_ b_ t_ c_ K0 hr hin
  have K : wc_C p_ s_ m_ a_ t_ c_ G RX7 cX7_placeOf 2 w.length := K0
  clear K0
  refine WW_ls (ls2 := [some (eI (4)), some (eI (0))]) rfl ?_
  have hS : wc_same [0] w w := wc_same.rf
  refine ww_iload_n K dX7_placeOf_0 rfl ?_
  refine ww_tableIn (off := 72) (tgt := 73) K dX7_placeOf_1 (by decide) (by decide) rfl rfl ?_
  refine ww_sipush (v := 1364) K dX7_placeOf_73 rfl ?_
  refine ww_bipush (v := 33) K dX7_placeOf_76 rfl ?_
  refine ww_iload_n K dX7_placeOf_78 rfl ?_
  refine ww_imul K dX7_placeOf_79 ?_
  rw [show ((33 : Int32) * 0) = 0 from rfl]
  refine ww_iadd K dX7_placeOf_80 ?_
  rw [show ((1364 : Int32) + 0) = 1364 from rfl]
  exact ww_iret K dX7_placeOf_81 hr ⟨rfl, rfl⟩
set_option maxRecDepth 100000 in
set_option maxHeartbeats 4000000 in
theorem ct_X7_sizeOf_5 (G : EG) (l : Launch) {w : EW}   : Ct G l yX7_sizeOf cX7_sizeOf 1 (some .int) 0 0 0 [eI (5)] w (fun r w2 => r = some (eI 6) ∧ w2 = w) := by
  refine Ct_of (by decide +kernel) (Nat.le_of_ble_eq_true rfl) ?_
  intro p_ e_ s_ m_ a_ b_ t_ c_ K0 hr hin
  have K : wc_C p_ s_ m_ a_ t_ c_ G RX7 cX7_sizeOf 1 w.length := K0
  clear K0
  refine WW_ls (ls2 := [some (eI (5))]) rfl ?_
  have hS : wc_same [0] w w := wc_same.rf
  refine ww_iload_n K dX7_sizeOf_0 rfl ?_
  refine ww_tableOut (tgt := 52) K dX7_sizeOf_1 (by decide) rfl ?_
  refine ww_bipush (v := 6) K dX7_sizeOf_52 rfl ?_
  exact ww_iret K dX7_sizeOf_54 hr ⟨rfl, rfl⟩
set_option maxRecDepth 100000 in
set_option maxHeartbeats 4000000 in
theorem ct_X7_placeOf_5 (G : EG) (l : Launch) {w : EW}   : Ct G l yX7_placeOf cX7_placeOf 2 (some .int) 0 0 0 [eI (5), eI (0)] w (fun r w2 => r = some (eI 1430) ∧ w2 = w) := by
  refine Ct_of (by decide +kernel) (Nat.le_of_ble_eq_true rfl) ?_
  intro p_ e_ s_ m_ a_ b_ t_ c_ K0 hr hin
  have K : wc_C p_ s_ m_ a_ t_ c_ G RX7 cX7_placeOf 2 w.length := K0
  clear K0
  refine WW_ls (ls2 := [some (eI (5)), some (eI (0))]) rfl ?_
  have hS : wc_same [0] w w := wc_same.rf
  refine ww_iload_n K dX7_placeOf_0 rfl ?_
  refine ww_tableOut (tgt := 82) K dX7_placeOf_1 (by decide) rfl ?_
  refine ww_sipush (v := 1430) K dX7_placeOf_82 rfl ?_
  refine ww_bipush (v := 6) K dX7_placeOf_85 rfl ?_
  refine ww_iload_n K dX7_placeOf_87 rfl ?_
  refine ww_imul K dX7_placeOf_88 ?_
  rw [show ((6 : Int32) * 0) = 0 from rfl]
  refine ww_iadd K dX7_placeOf_89 ?_
  rw [show ((1430 : Int32) + 0) = 1430 from rfl]
  exact ww_iret K dX7_placeOf_90 hr ⟨rfl, rfl⟩
set_option maxRecDepth 100000 in
set_option maxHeartbeats 4000000 in
theorem ct_X7_text_0 (G : EG) (l : Launch) {w : EW} {f1 : Nat → Int32} (h64 : w[64]? = some (cO 7 [eR (65), eR (66), eI (0), eI (0), eI (0), eI (0), eI (0), eI (0), eI (0), eI (0), eR (67), eI (0), eI (0), eI (0), eI (0), eI (0), eI (0), eI (0), eI (0), eI (0), eI (0), eI (0), eI (0), eI (0), eI (0), eI (0), eI (0), eR (68), eR (69), eI (0), eI (0), eR (70), eR (71), eI (0), eI (0)])) (h65 : w[65]? = some (cI 0 5768 (upd (fun _ => 0) 8 (-1)))) (h67 : w[67]? = some (cI 0 201 f1)) : Ct G l yX7_text cX7_text 5 (some .int) 2 0 0 [eR (64), eI (0), eI ((-1))] w (fun r w2 => (∃ x : Int32, r = some (eI x) ∧ (x = 0 ∧ wc_same [64, 65, 67] w w2))) := by
  refine Ct_of (by decide +kernel) (Nat.le_of_ble_eq_true rfl) ?_
  intro p_ e_ s_ m_ a_ b_ t_ c_ K0 hr hin
  have K : wc_C p_ s_ m_ a_ t_ c_ G RX7 cX7_text 5 w.length := K0
  clear K0
  refine WW_ls (ls2 := [some (eR (64)), some (eI (0)), some (eI ((-1))), none, none]) rfl ?_
  have hS : wc_same [64, 65, 67] w w := wc_same.rf
  refine ww_aload_n K dX7_text_0 rfl ?_
  refine ww_aload_n K dX7_text_1 rfl ?_
  refine ww_get K dX7_text_2 lf_X7_7 h64 rfl ?_
  refine ww_bipush (v := 6) K dX7_text_5 rfl ?_
  refine ww_iald K dX7_text_7 h65 (wc_vin (by decide)) ?_
  rw [show (upd (fun _ => 0) 8 (-1)) (6 : Int32).toNatClampNeg = 0 from rfl]
  refine ww_putX K dX7_text_8 lp_X7_32 h64 (Nat.le_of_ble_eq_true rfl) rfl rfl (fun w1 hln_w1 h64 hne_w1 => ?_)
  have h64 : w1[64]? = some (cO 7 [eR (65), eR (66), eI (0), eI (0), eI (0), eI (0), eI (0), eI (0), eI (0), eI (0), eR (67), eI (0), eI (0), eI (0), eI (0), eI (0), eI (0), eI (0), eI (0), eI (0), eI (0), eI (0), eI (0), eI (0), eI (0), eI (0), eI (0), eR (68), eR (69), eI (0), eI (0), eR (70), eR (71), eI (0), eI (0)]) := h64
  have h65 := (hne_w1 65 (by decide)).trans h65
  have h67 := (hne_w1 67 (by decide)).trans h67
  have hS := hS.put (k := 64) (by decide) hne_w1
  refine ww_aload_n K dX7_text_11 rfl ?_
  refine ww_get K dX7_text_12 lf_X7_7 h64 rfl ?_
  refine ww_bipush (v := 6) K dX7_text_15 rfl ?_
  refine ww_iconst (v := 0) K dX7_text_17 rfl ?_
  refine ww_iastX K dX7_text_18 h65 (wc_vin (by decide)) (fun w2 hln_w2 h65 hne_w2 => ?_)
  have h64 := (hne_w2 64 (by decide)).trans h64
  have h67 := (hne_w2 67 (by decide)).trans h67
  have hS := hS.put (k := 65) (by decide) hne_w2
  refine ww_aload_n K dX7_text_19 rfl ?_
  refine ww_get K dX7_text_20 lf_X7_7 h64 rfl ?_
  refine ww_bipush (v := 7) K dX7_text_23 rfl ?_
  refine ww_iconst (v := 0) K dX7_text_25 rfl ?_
  refine ww_iastX K dX7_text_26 h65 (wc_vin (by decide)) (fun w3 hln_w3 h65 hne_w3 => ?_)
  have h64 := (hne_w3 64 (by decide)).trans h64
  have h67 := (hne_w3 67 (by decide)).trans h67
  have hS := hS.put (k := 65) (by decide) hne_w3
  refine ww_aload_n K dX7_text_27 rfl ?_
  refine ww_get K dX7_text_28 lf_X7_7 h64 rfl ?_
  refine ww_bipush (v := 8) K dX7_text_31 rfl ?_
  refine ww_iconst (v := (-1)) K dX7_text_33 rfl ?_
  refine ww_iastX K dX7_text_34 h65 (wc_vin (by decide)) (fun w4 hln_w4 h65 hne_w4 => ?_)
  have h64 := (hne_w4 64 (by decide)).trans h64
  have h67 := (hne_w4 67 (by decide)).trans h67
  have hS := hS.put (k := 65) (by decide) hne_w4
  refine ww_iload_n K dX7_text_35 rfl ?_
  refine ww_iconst (v := 0) K dX7_text_36 rfl ?_
  refine ww_iconst (v := 5) K dX7_text_37 rfl ?_
  refine ww_cS K dX7_text_38 lc_X7_93 (ct_X7_isIn G l (a := 0) (b := 0) (c := 5)) rfl ⟨Nat.le_of_ble_eq_true rfl, Nat.le_of_ble_eq_true rfl⟩ (Nat.le_of_ble_eq_true rfl) ?_
  rw [show (if (0 : Int32) < 0 then 0 else if (5 : Int32) < 0 then 0 else (1 : Int32)) = 1 from rfl]
  refine ww_if_eq (tgt := 71) K dX7_text_41 rfl (fun cc_ => absurd cc_ (by decide)) (fun _ => ?_)
  refine ww_iload_n K dX7_text_44 rfl ?_
  refine ww_iconst (v := (-1)) K dX7_text_45 rfl ?_
  refine ww_icmp_ne (tgt := 62) K dX7_text_46 rfl (fun cc_ => absurd cc_ (by decide)) (fun _ => ?_)
  refine ww_aload_n K dX7_text_49 rfl ?_
  refine ww_get K dX7_text_50 lf_X7_7 h64 rfl ?_
  refine ww_iload_n K dX7_text_53 rfl ?_
  refine ww_iald K dX7_text_54 h65 (wc_vin (by decide)) ?_
  rw [show (upd (upd (upd (upd (fun _ => 0) 8 (-1)) (6 : Int32).toNatClampNeg 0) (7 : Int32).toNatClampNeg 0) (8 : Int32).toNatClampNeg (-1)) (0 : Int32).toNatClampNeg = 0 from rfl]
  refine ww_iconst (v := 2) K dX7_text_55 rfl ?_
  refine ww_icmp_lt (tgt := 74) K dX7_text_56 rfl (fun _ => ?_) (fun cc_ => absurd cc_ (by decide))
  refine ww_aload_n K dX7_text_74 rfl ?_
  refine ww_iconst (v := 0) K dX7_text_75 rfl ?_
  refine ww_putX K dX7_text_76 lp_X7_53 h64 (Nat.le_of_ble_eq_true rfl) rfl rfl (fun w5 hln_w5 h64 hne_w5 => ?_)
  have h64 : w5[64]? = some (cO 7 [eR (65), eR (66), eI (0), eI (0), eI (0), eI (0), eI (0), eI (0), eI (0), eI (0), eR (67), eI (0), eI (0), eI (0), eI (0), eI (0), eI (0), eI (0), eI (0), eI (0), eI (0), eI (0), eI (0), eI (0), eI (0), eI (0), eI (0), eR (68), eR (69), eI (0), eI (0), eR (70), eR (71), eI (0), eI (0)]) := h64
  have h65 := (hne_w5 65 (by decide)).trans h65
  have h67 := (hne_w5 67 (by decide)).trans h67
  have hS := hS.put (k := 64) (by decide) hne_w5
  refine ww_aload_n K dX7_text_79 rfl ?_
  refine ww_iconst (v := 0) K dX7_text_80 rfl ?_
  refine ww_putX K dX7_text_81 lp_X7_86 h64 (Nat.le_of_ble_eq_true rfl) rfl rfl (fun w6 hln_w6 h64 hne_w6 => ?_)
  have h64 : w6[64]? = some (cO 7 [eR (65), eR (66), eI (0), eI (0), eI (0), eI (0), eI (0), eI (0), eI (0), eI (0), eR (67), eI (0), eI (0), eI (0), eI (0), eI (0), eI (0), eI (0), eI (0), eI (0), eI (0), eI (0), eI (0), eI (0), eI (0), eI (0), eI (0), eR (68), eR (69), eI (0), eI (0), eR (70), eR (71), eI (0), eI (0)]) := h64
  have h65 := (hne_w6 65 (by decide)).trans h65
  have h67 := (hne_w6 67 (by decide)).trans h67
  have hS := hS.put (k := 64) (by decide) hne_w6
  refine ww_aload_n K dX7_text_84 rfl ?_
  refine ww_iconst (v := (-1)) K dX7_text_85 rfl ?_
  refine ww_putX K dX7_text_86 lp_X7_111 h64 (Nat.le_of_ble_eq_true rfl) rfl rfl (fun w7 hln_w7 h64 hne_w7 => ?_)
  have h64 : w7[64]? = some (cO 7 [eR (65), eR (66), eI (0), eI (0), eI (0), eI (0), eI (0), eI (0), eI (0), eI ((-1)), eR (67), eI (0), eI (0), eI (0), eI (0), eI (0), eI (0), eI (0), eI (0), eI (0), eI (0), eI (0), eI (0), eI (0), eI (0), eI (0), eI (0), eR (68), eR (69), eI (0), eI (0), eR (70), eR (71), eI (0), eI (0)]) := h64
  have h65 := (hne_w7 65 (by decide)).trans h65
  have h67 := (hne_w7 67 (by decide)).trans h67
  have hS := hS.put (k := 64) (by decide) hne_w7
  refine ww_aload_n K dX7_text_89 rfl ?_
  refine ww_iload_n K dX7_text_90 rfl ?_
  refine ww_xVv K dX7_text_91 lc_X7_148 h64 ⟨_, rfl, rfl⟩ (ct_X7_clears_0 G l h64 h67) rfl ⟨Nat.le_of_ble_eq_true rfl, Nat.le_of_ble_eq_true rfl⟩ (Nat.le_of_ble_eq_true rfl) (fun w9 hq hln_w9 => ?_)
  obtain ⟨⟨F8, e67, h67⟩, hsm⟩ := hq
  have h64 := hsm.keep h64 (by decide)
  have h65 := hsm.keep h65 (by decide)
  have hS := hS.call hsm (by decide)
  refine ww_aload_n K dX7_text_94 rfl ?_
  refine ww_xVv K dX7_text_95 lc_X7_101 h64 ⟨_, rfl, rfl⟩ (ct_X7_advance_0 G l h64) rfl ⟨Nat.le_of_ble_eq_true rfl, Nat.le_of_ble_eq_true rfl⟩ (Nat.le_of_ble_eq_true rfl) (fun w10 hq hln_w10 => ?_)
  obtain ⟨h64, hsm⟩ := hq
  have h65 := hsm.keep h65 (by decide)
  have h67 := hsm.keep h67 (by decide)
  have hS := hS.call hsm (by decide)
  refine ww_aload_n K dX7_text_98 rfl ?_
  refine ww_get K dX7_text_99 lf_X7_86 h64 rfl ?_
  refine ww_if_ne (tgt := 190) K dX7_text_102 rfl (fun cc_ => absurd cc_ (by decide)) (fun _ => ?_)
  refine ww_aload_n K dX7_text_105 rfl ?_
  refine ww_get K dX7_text_106 lf_X7_63 h64 rfl ?_
  refine ww_if_eq (tgt := 190) K dX7_text_109 rfl (fun _ => ?_) (fun cc_ => absurd cc_ (by decide))
  refine ww_aload_n K dX7_text_190 rfl ?_
  refine ww_get K dX7_text_191 lf_X7_7 h64 rfl ?_
  refine ww_bipush (v := 7) K dX7_text_194 rfl ?_
  refine ww_iald K dX7_text_196 h65 (wc_vin (by decide)) ?_
  rw [show (upd (upd (upd (upd (fun _ => 0) 8 (-1)) (6 : Int32).toNatClampNeg 0) (7 : Int32).toNatClampNeg 0) (8 : Int32).toNatClampNeg (-1)) (7 : Int32).toNatClampNeg = 0 from rfl]
  refine ww_if_ne (tgt := 226) K dX7_text_197 rfl (fun cc_ => absurd cc_ (by decide)) (fun _ => ?_)
  refine ww_iload_n K dX7_text_200 rfl ?_
  refine ww_if_ne (tgt := 226) K dX7_text_201 rfl (fun cc_ => absurd cc_ (by decide)) (fun _ => ?_)
  refine ww_aload_n K dX7_text_204 rfl ?_
  refine ww_get K dX7_text_205 lf_X7_111 h64 rfl ?_
  refine ww_aload_n K dX7_text_208 rfl ?_
  refine ww_get K dX7_text_209 lf_X7_17 h64 rfl ?_
  refine ww_iconst (v := 0) K dX7_text_212 rfl ?_
  refine ww_iald K dX7_text_213 h67 (wc_vin (by decide)) ?_
  rw [show F8 (0 : Int32).toNatClampNeg = 0 from e67]
  refine ww_icmp_lt (tgt := 226) K dX7_text_214 rfl (fun _ => ?_) (fun cc_ => absurd cc_ (by decide))
  refine ww_aload_n K dX7_text_226 rfl ?_
  refine ww_get K dX7_text_227 lf_X7_7 h64 rfl ?_
  refine ww_bipush (v := 7) K dX7_text_230 rfl ?_
  refine ww_iald K dX7_text_232 h65 (wc_vin (by decide)) ?_
  rw [show (upd (upd (upd (upd (fun _ => 0) 8 (-1)) (6 : Int32).toNatClampNeg 0) (7 : Int32).toNatClampNeg 0) (8 : Int32).toNatClampNeg (-1)) (7 : Int32).toNatClampNeg = 0 from rfl]
  refine ww_if_eq (tgt := 238) K dX7_text_233 rfl (fun _ => ?_) (fun cc_ => absurd cc_ (by decide))
  refine ww_iload_n K dX7_text_238 rfl ?_
  refine ww_iconst (v := (-1)) K dX7_text_239 rfl ?_
  refine ww_icmp_ne (tgt := 252) K dX7_text_240 rfl (fun cc_ => absurd cc_ (by decide)) (fun _ => ?_)
  refine ww_aload_n K dX7_text_243 rfl ?_
  refine ww_get K dX7_text_244 lf_X7_7 h64 rfl ?_
  refine ww_iload_n K dX7_text_247 rfl ?_
  refine ww_iald K dX7_text_248 h65 (wc_vin (by decide)) ?_
  rw [show (upd (upd (upd (upd (fun _ => 0) 8 (-1)) (6 : Int32).toNatClampNeg 0) (7 : Int32).toNatClampNeg 0) (8 : Int32).toNatClampNeg (-1)) (0 : Int32).toNatClampNeg = 0 from rfl]
  refine ww_goto (tgt := 253) K dX7_text_249 rfl ?_
  refine ww_istore_n (ls2 := [some (eR (64)), some (eI (0)), some (eI ((-1))), some (eI (0)), none]) K dX7_text_253 (by decide) rfl ?_
  refine ww_iload_n K dX7_text_254 rfl ?_
  refine ww_iconst (v := (-1)) K dX7_text_255 rfl ?_
  refine ww_icmp_ne (tgt := 269) K dX7_text_256 rfl (fun cc_ => absurd cc_ (by decide)) (fun _ => ?_)
  refine ww_aload_n K dX7_text_259 rfl ?_
  refine ww_get K dX7_text_260 lf_X7_7 h64 rfl ?_
  refine ww_iload_n K dX7_text_263 rfl ?_
  refine ww_dup2 K dX7_text_264 trivial trivial ?_
  refine ww_iald K dX7_text_265 h65 (wc_vin (by decide)) ?_
  rw [show (upd (upd (upd (upd (fun _ => 0) 8 (-1)) (6 : Int32).toNatClampNeg 0) (7 : Int32).toNatClampNeg 0) (8 : Int32).toNatClampNeg (-1)) (0 : Int32).toNatClampNeg = 0 from rfl]
  refine ww_iconst (v := 1) K dX7_text_266 rfl ?_
  refine ww_iadd K dX7_text_267 ?_
  rw [show ((0 : Int32) + 1) = 1 from rfl]
  refine ww_iastX K dX7_text_268 h65 (wc_vin (by decide)) (fun w11 hln_w11 h65 hne_w11 => ?_)
  have h64 := (hne_w11 64 (by decide)).trans h64
  have h67 := (hne_w11 67 (by decide)).trans h67
  have hS := hS.put (k := 65) (by decide) hne_w11
  refine ww_iconst (v := 0) K dX7_text_269 rfl ?_
  refine ww_istore (ls2 := [some (eR (64)), some (eI (0)), some (eI ((-1))), some (eI (0)), some (eI (0))]) K dX7_text_270 (by decide) rfl ?_
  have loop : ∀ (dd i : Nat), i + dd = 118 → ∀ (wl : EW) (A1 : Nat → Int32), wl[64]? = some (cO 7 [eR (65), eR (66), eI (0), eI (0), eI (0), eI (0), eI (0), eI (0), eI (0), eI ((-1)), eR (67), eI (0), eI (0), eI (0), eI (0), eI (0), eI (0), eI (0), eI (0), eI (0), eI (0), eI (0), eI (0), eI (0), eI (0), eI (0), eI (0), eR (68), eR (69), eI (0), eI (0), eR (70), eR (71), eI (0), eI (0)]) → wl[65]? = some (cI 0 5768 A1) → wl[67]? = some (cI 0 201 F8) → wc_same [64, 65, 67] w wl → WW p_ l e_ (wc_rm 2 0 0) s_ m_ a_ b_ t_ c_ (MQ b_ (wc_Q G w 0 0 (fun r w2 => (∃ x : Int32, r = some (eI x) ∧ (x = 0 ∧ wc_same [64, 65, 67] w w2)))) a_ s_ 0 0 (wc_A G)) G 5 w.length (wc_SL w) 0 0 272 [some (eR (64)), some (eI (0)), some (eI ((-1))), some (eI (0)), some (eI ((nI i)))] [] wl := by
    intro dd
    induction dd with
    | zero =>
      intro i hi wl A1 h64 h65 h67  hS
      have hh : i = 118 := by omega
      subst hh
      refine ww_iload K dX7_text_272 rfl ?_
      refine ww_iload_n K dX7_text_274 rfl ?_
      refine ww_cS K dX7_text_275 lc_X7_169 (ct_X7_sizeOf_0 G l) rfl ⟨Nat.le_of_ble_eq_true rfl, Nat.le_of_ble_eq_true rfl⟩ (Nat.le_of_ble_eq_true rfl) ?_
      refine ww_icmp_ge (tgt := 307) K dX7_text_278 rfl (fun _ => ?_) (fun cc_ => absurd (by decide) cc_)
      refine ww_iload_n K dX7_text_307 rfl ?_
      exact ww_iret K dX7_text_308 hr ⟨_, rfl, rfl, hS⟩
    | succ dd ih =>
      intro i hi wl A1 h64 h65 h67  hS
      have hlt : i < 118 := by omega
      refine ww_iload K dX7_text_272 rfl ?_
      refine ww_iload_n K dX7_text_274 rfl ?_
      refine ww_cS K dX7_text_275 lc_X7_169 (ct_X7_sizeOf_0 G l) rfl ⟨Nat.le_of_ble_eq_true rfl, Nat.le_of_ble_eq_true rfl⟩ (Nat.le_of_ble_eq_true rfl) ?_
      refine ww_icmp_ge (tgt := 307) K dX7_text_278 rfl (fun cc_ => absurd cc_ (nI_ge hlt (by decide))) (fun _ => ?_)
      refine ww_aload_n K dX7_text_281 rfl ?_
      refine ww_get K dX7_text_282 lf_X7_7 h64 rfl ?_
      refine ww_iload_n K dX7_text_285 rfl ?_
      refine ww_iload_n K dX7_text_286 rfl ?_
      refine ww_cS K dX7_text_287 lc_X7_172 (ct_X7_placeOf_0 G l) rfl ⟨Nat.le_of_ble_eq_true rfl, Nat.le_of_ble_eq_true rfl⟩ (Nat.le_of_ble_eq_true rfl) ?_
      refine ww_iload K dX7_text_290 rfl ?_
      refine ww_iadd K dX7_text_292 ?_
      rw [show (610 + (nI i)) = (nI (610 + i)) from nI_add 610 i]
      refine ww_aload_n K dX7_text_293 rfl ?_
      refine ww_get K dX7_text_294 lf_X7_17 h64 rfl ?_
      refine ww_iload K dX7_text_297 rfl ?_
      refine ww_iald K dX7_text_299 h67 (vp_in_nI (by omega) (by decide)) ?_
      refine ww_iastX K dX7_text_300 h65 (vp_in_nI (by omega) (by decide)) (fun wa hlna h65 hnea => ?_)
      have h64 := (hnea 64 (by decide)).trans h64
      have h67 := (hnea 67 (by decide)).trans h67
      have hS := hS.put (k := 65) (by decide) hnea
      refine ww_iinc (ls2 := [some (eR (64)), some (eI (0)), some (eI ((-1))), some (eI (0)), some (eI (((nI i) + 1)))]) K dX7_text_301 (by decide) rfl rfl ?_
      refine ww_goto (tgt := 272) K dX7_text_304 rfl ?_
      rw [show (nI i + 1) = nI (i + 1) from nI_1 i]
      exact ih (i + 1) (by omega) _ _ h64 h65 h67  hS
  exact loop 118 0 rfl _ _ h64 h65 h67  hS
set_option maxRecDepth 100000 in
set_option maxHeartbeats 4000000 in
theorem ct_X7_text_1 (G : EG) (l : Launch) {w : EW} {f1 : Nat → Int32} (h64 : w[64]? = some (cO 7 [eR (65), eR (66), eI (0), eI (0), eI (0), eI (0), eI (0), eI (0), eI (0), eI (0), eR (67), eI (0), eI (0), eI (0), eI (0), eI (0), eI (0), eI (0), eI (0), eI (0), eI (0), eI (0), eI (0), eI (0), eI (0), eI (0), eI (0), eR (68), eR (69), eI (0), eI (0), eR (70), eR (71), eI (0), eI (0)])) (h65 : w[65]? = some (cI 0 5768 (upd (fun _ => 0) 8 (-1)))) (h67 : w[67]? = some (cI 0 201 f1)) : Ct G l yX7_text cX7_text 5 (some .int) 2 0 0 [eR (64), eI (1), eI ((-1))] w (fun r w2 => (∃ x : Int32, r = some (eI x) ∧ (x = 0 ∧ wc_same [64, 65, 67] w w2))) := by
  refine Ct_of (by decide +kernel) (Nat.le_of_ble_eq_true rfl) ?_
  intro p_ e_ s_ m_ a_ b_ t_ c_ K0 hr hin
  have K : wc_C p_ s_ m_ a_ t_ c_ G RX7 cX7_text 5 w.length := K0
  clear K0
  refine WW_ls (ls2 := [some (eR (64)), some (eI (1)), some (eI ((-1))), none, none]) rfl ?_
  have hS : wc_same [64, 65, 67] w w := wc_same.rf
  refine ww_aload_n K dX7_text_0 rfl ?_
  refine ww_aload_n K dX7_text_1 rfl ?_
  refine ww_get K dX7_text_2 lf_X7_7 h64 rfl ?_
  refine ww_bipush (v := 6) K dX7_text_5 rfl ?_
  refine ww_iald K dX7_text_7 h65 (wc_vin (by decide)) ?_
  rw [show (upd (fun _ => 0) 8 (-1)) (6 : Int32).toNatClampNeg = 0 from rfl]
  refine ww_putX K dX7_text_8 lp_X7_32 h64 (Nat.le_of_ble_eq_true rfl) rfl rfl (fun w1 hln_w1 h64 hne_w1 => ?_)
  have h64 : w1[64]? = some (cO 7 [eR (65), eR (66), eI (0), eI (0), eI (0), eI (0), eI (0), eI (0), eI (0), eI (0), eR (67), eI (0), eI (0), eI (0), eI (0), eI (0), eI (0), eI (0), eI (0), eI (0), eI (0), eI (0), eI (0), eI (0), eI (0), eI (0), eI (0), eR (68), eR (69), eI (0), eI (0), eR (70), eR (71), eI (0), eI (0)]) := h64
  have h65 := (hne_w1 65 (by decide)).trans h65
  have h67 := (hne_w1 67 (by decide)).trans h67
  have hS := hS.put (k := 64) (by decide) hne_w1
  refine ww_aload_n K dX7_text_11 rfl ?_
  refine ww_get K dX7_text_12 lf_X7_7 h64 rfl ?_
  refine ww_bipush (v := 6) K dX7_text_15 rfl ?_
  refine ww_iconst (v := 0) K dX7_text_17 rfl ?_
  refine ww_iastX K dX7_text_18 h65 (wc_vin (by decide)) (fun w2 hln_w2 h65 hne_w2 => ?_)
  have h64 := (hne_w2 64 (by decide)).trans h64
  have h67 := (hne_w2 67 (by decide)).trans h67
  have hS := hS.put (k := 65) (by decide) hne_w2
  refine ww_aload_n K dX7_text_19 rfl ?_
  refine ww_get K dX7_text_20 lf_X7_7 h64 rfl ?_
  refine ww_bipush (v := 7) K dX7_text_23 rfl ?_
  refine ww_iconst (v := 0) K dX7_text_25 rfl ?_
  refine ww_iastX K dX7_text_26 h65 (wc_vin (by decide)) (fun w3 hln_w3 h65 hne_w3 => ?_)
  have h64 := (hne_w3 64 (by decide)).trans h64
  have h67 := (hne_w3 67 (by decide)).trans h67
  have hS := hS.put (k := 65) (by decide) hne_w3
  refine ww_aload_n K dX7_text_27 rfl ?_
  refine ww_get K dX7_text_28 lf_X7_7 h64 rfl ?_
  refine ww_bipush (v := 8) K dX7_text_31 rfl ?_
  refine ww_iconst (v := (-1)) K dX7_text_33 rfl ?_
  refine ww_iastX K dX7_text_34 h65 (wc_vin (by decide)) (fun w4 hln_w4 h65 hne_w4 => ?_)
  have h64 := (hne_w4 64 (by decide)).trans h64
  have h67 := (hne_w4 67 (by decide)).trans h67
  have hS := hS.put (k := 65) (by decide) hne_w4
  refine ww_iload_n K dX7_text_35 rfl ?_
  refine ww_iconst (v := 0) K dX7_text_36 rfl ?_
  refine ww_iconst (v := 5) K dX7_text_37 rfl ?_
  refine ww_cS K dX7_text_38 lc_X7_93 (ct_X7_isIn G l (a := 1) (b := 0) (c := 5)) rfl ⟨Nat.le_of_ble_eq_true rfl, Nat.le_of_ble_eq_true rfl⟩ (Nat.le_of_ble_eq_true rfl) ?_
  rw [show (if (1 : Int32) < 0 then 0 else if (5 : Int32) < 1 then 0 else (1 : Int32)) = 1 from rfl]
  refine ww_if_eq (tgt := 71) K dX7_text_41 rfl (fun cc_ => absurd cc_ (by decide)) (fun _ => ?_)
  refine ww_iload_n K dX7_text_44 rfl ?_
  refine ww_iconst (v := (-1)) K dX7_text_45 rfl ?_
  refine ww_icmp_ne (tgt := 62) K dX7_text_46 rfl (fun cc_ => absurd cc_ (by decide)) (fun _ => ?_)
  refine ww_aload_n K dX7_text_49 rfl ?_
  refine ww_get K dX7_text_50 lf_X7_7 h64 rfl ?_
  refine ww_iload_n K dX7_text_53 rfl ?_
  refine ww_iald K dX7_text_54 h65 (wc_vin (by decide)) ?_
  rw [show (upd (upd (upd (upd (fun _ => 0) 8 (-1)) (6 : Int32).toNatClampNeg 0) (7 : Int32).toNatClampNeg 0) (8 : Int32).toNatClampNeg (-1)) (1 : Int32).toNatClampNeg = 0 from rfl]
  refine ww_iconst (v := 2) K dX7_text_55 rfl ?_
  refine ww_icmp_lt (tgt := 74) K dX7_text_56 rfl (fun _ => ?_) (fun cc_ => absurd cc_ (by decide))
  refine ww_aload_n K dX7_text_74 rfl ?_
  refine ww_iconst (v := 0) K dX7_text_75 rfl ?_
  refine ww_putX K dX7_text_76 lp_X7_53 h64 (Nat.le_of_ble_eq_true rfl) rfl rfl (fun w5 hln_w5 h64 hne_w5 => ?_)
  have h64 : w5[64]? = some (cO 7 [eR (65), eR (66), eI (0), eI (0), eI (0), eI (0), eI (0), eI (0), eI (0), eI (0), eR (67), eI (0), eI (0), eI (0), eI (0), eI (0), eI (0), eI (0), eI (0), eI (0), eI (0), eI (0), eI (0), eI (0), eI (0), eI (0), eI (0), eR (68), eR (69), eI (0), eI (0), eR (70), eR (71), eI (0), eI (0)]) := h64
  have h65 := (hne_w5 65 (by decide)).trans h65
  have h67 := (hne_w5 67 (by decide)).trans h67
  have hS := hS.put (k := 64) (by decide) hne_w5
  refine ww_aload_n K dX7_text_79 rfl ?_
  refine ww_iconst (v := 0) K dX7_text_80 rfl ?_
  refine ww_putX K dX7_text_81 lp_X7_86 h64 (Nat.le_of_ble_eq_true rfl) rfl rfl (fun w6 hln_w6 h64 hne_w6 => ?_)
  have h64 : w6[64]? = some (cO 7 [eR (65), eR (66), eI (0), eI (0), eI (0), eI (0), eI (0), eI (0), eI (0), eI (0), eR (67), eI (0), eI (0), eI (0), eI (0), eI (0), eI (0), eI (0), eI (0), eI (0), eI (0), eI (0), eI (0), eI (0), eI (0), eI (0), eI (0), eR (68), eR (69), eI (0), eI (0), eR (70), eR (71), eI (0), eI (0)]) := h64
  have h65 := (hne_w6 65 (by decide)).trans h65
  have h67 := (hne_w6 67 (by decide)).trans h67
  have hS := hS.put (k := 64) (by decide) hne_w6
  refine ww_aload_n K dX7_text_84 rfl ?_
  refine ww_iconst (v := (-1)) K dX7_text_85 rfl ?_
  refine ww_putX K dX7_text_86 lp_X7_111 h64 (Nat.le_of_ble_eq_true rfl) rfl rfl (fun w7 hln_w7 h64 hne_w7 => ?_)
  have h64 : w7[64]? = some (cO 7 [eR (65), eR (66), eI (0), eI (0), eI (0), eI (0), eI (0), eI (0), eI (0), eI ((-1)), eR (67), eI (0), eI (0), eI (0), eI (0), eI (0), eI (0), eI (0), eI (0), eI (0), eI (0), eI (0), eI (0), eI (0), eI (0), eI (0), eI (0), eR (68), eR (69), eI (0), eI (0), eR (70), eR (71), eI (0), eI (0)]) := h64
  have h65 := (hne_w7 65 (by decide)).trans h65
  have h67 := (hne_w7 67 (by decide)).trans h67
  have hS := hS.put (k := 64) (by decide) hne_w7
  refine ww_aload_n K dX7_text_89 rfl ?_
  refine ww_iload_n K dX7_text_90 rfl ?_
  refine ww_xVv K dX7_text_91 lc_X7_148 h64 ⟨_, rfl, rfl⟩ (ct_X7_clears_1 G l h64 h67) rfl ⟨Nat.le_of_ble_eq_true rfl, Nat.le_of_ble_eq_true rfl⟩ (Nat.le_of_ble_eq_true rfl) (fun w9 hq hln_w9 => ?_)
  obtain ⟨⟨F8, e67, h67⟩, hsm⟩ := hq
  have h64 := hsm.keep h64 (by decide)
  have h65 := hsm.keep h65 (by decide)
  have hS := hS.call hsm (by decide)
  refine ww_aload_n K dX7_text_94 rfl ?_
  refine ww_xVv K dX7_text_95 lc_X7_101 h64 ⟨_, rfl, rfl⟩ (ct_X7_advance_0 G l h64) rfl ⟨Nat.le_of_ble_eq_true rfl, Nat.le_of_ble_eq_true rfl⟩ (Nat.le_of_ble_eq_true rfl) (fun w10 hq hln_w10 => ?_)
  obtain ⟨h64, hsm⟩ := hq
  have h65 := hsm.keep h65 (by decide)
  have h67 := hsm.keep h67 (by decide)
  have hS := hS.call hsm (by decide)
  refine ww_aload_n K dX7_text_98 rfl ?_
  refine ww_get K dX7_text_99 lf_X7_86 h64 rfl ?_
  refine ww_if_ne (tgt := 190) K dX7_text_102 rfl (fun cc_ => absurd cc_ (by decide)) (fun _ => ?_)
  refine ww_aload_n K dX7_text_105 rfl ?_
  refine ww_get K dX7_text_106 lf_X7_63 h64 rfl ?_
  refine ww_if_eq (tgt := 190) K dX7_text_109 rfl (fun _ => ?_) (fun cc_ => absurd cc_ (by decide))
  refine ww_aload_n K dX7_text_190 rfl ?_
  refine ww_get K dX7_text_191 lf_X7_7 h64 rfl ?_
  refine ww_bipush (v := 7) K dX7_text_194 rfl ?_
  refine ww_iald K dX7_text_196 h65 (wc_vin (by decide)) ?_
  rw [show (upd (upd (upd (upd (fun _ => 0) 8 (-1)) (6 : Int32).toNatClampNeg 0) (7 : Int32).toNatClampNeg 0) (8 : Int32).toNatClampNeg (-1)) (7 : Int32).toNatClampNeg = 0 from rfl]
  refine ww_if_ne (tgt := 226) K dX7_text_197 rfl (fun cc_ => absurd cc_ (by decide)) (fun _ => ?_)
  refine ww_iload_n K dX7_text_200 rfl ?_
  refine ww_if_ne (tgt := 226) K dX7_text_201 rfl (fun _ => ?_) (fun cc_ => absurd cc_ (by decide))
  refine ww_aload_n K dX7_text_226 rfl ?_
  refine ww_get K dX7_text_227 lf_X7_7 h64 rfl ?_
  refine ww_bipush (v := 7) K dX7_text_230 rfl ?_
  refine ww_iald K dX7_text_232 h65 (wc_vin (by decide)) ?_
  rw [show (upd (upd (upd (upd (fun _ => 0) 8 (-1)) (6 : Int32).toNatClampNeg 0) (7 : Int32).toNatClampNeg 0) (8 : Int32).toNatClampNeg (-1)) (7 : Int32).toNatClampNeg = 0 from rfl]
  refine ww_if_eq (tgt := 238) K dX7_text_233 rfl (fun _ => ?_) (fun cc_ => absurd cc_ (by decide))
  refine ww_iload_n K dX7_text_238 rfl ?_
  refine ww_iconst (v := (-1)) K dX7_text_239 rfl ?_
  refine ww_icmp_ne (tgt := 252) K dX7_text_240 rfl (fun cc_ => absurd cc_ (by decide)) (fun _ => ?_)
  refine ww_aload_n K dX7_text_243 rfl ?_
  refine ww_get K dX7_text_244 lf_X7_7 h64 rfl ?_
  refine ww_iload_n K dX7_text_247 rfl ?_
  refine ww_iald K dX7_text_248 h65 (wc_vin (by decide)) ?_
  rw [show (upd (upd (upd (upd (fun _ => 0) 8 (-1)) (6 : Int32).toNatClampNeg 0) (7 : Int32).toNatClampNeg 0) (8 : Int32).toNatClampNeg (-1)) (1 : Int32).toNatClampNeg = 0 from rfl]
  refine ww_goto (tgt := 253) K dX7_text_249 rfl ?_
  refine ww_istore_n (ls2 := [some (eR (64)), some (eI (1)), some (eI ((-1))), some (eI (0)), none]) K dX7_text_253 (by decide) rfl ?_
  refine ww_iload_n K dX7_text_254 rfl ?_
  refine ww_iconst (v := (-1)) K dX7_text_255 rfl ?_
  refine ww_icmp_ne (tgt := 269) K dX7_text_256 rfl (fun cc_ => absurd cc_ (by decide)) (fun _ => ?_)
  refine ww_aload_n K dX7_text_259 rfl ?_
  refine ww_get K dX7_text_260 lf_X7_7 h64 rfl ?_
  refine ww_iload_n K dX7_text_263 rfl ?_
  refine ww_dup2 K dX7_text_264 trivial trivial ?_
  refine ww_iald K dX7_text_265 h65 (wc_vin (by decide)) ?_
  rw [show (upd (upd (upd (upd (fun _ => 0) 8 (-1)) (6 : Int32).toNatClampNeg 0) (7 : Int32).toNatClampNeg 0) (8 : Int32).toNatClampNeg (-1)) (1 : Int32).toNatClampNeg = 0 from rfl]
  refine ww_iconst (v := 1) K dX7_text_266 rfl ?_
  refine ww_iadd K dX7_text_267 ?_
  rw [show ((0 : Int32) + 1) = 1 from rfl]
  refine ww_iastX K dX7_text_268 h65 (wc_vin (by decide)) (fun w11 hln_w11 h65 hne_w11 => ?_)
  have h64 := (hne_w11 64 (by decide)).trans h64
  have h67 := (hne_w11 67 (by decide)).trans h67
  have hS := hS.put (k := 65) (by decide) hne_w11
  refine ww_iconst (v := 0) K dX7_text_269 rfl ?_
  refine ww_istore (ls2 := [some (eR (64)), some (eI (1)), some (eI ((-1))), some (eI (0)), some (eI (0))]) K dX7_text_270 (by decide) rfl ?_
  have loop : ∀ (dd i : Nat), i + dd = 41 → ∀ (wl : EW) (A1 : Nat → Int32), wl[64]? = some (cO 7 [eR (65), eR (66), eI (0), eI (0), eI (0), eI (0), eI (0), eI (0), eI (0), eI ((-1)), eR (67), eI (0), eI (0), eI (0), eI (0), eI (0), eI (0), eI (0), eI (0), eI (0), eI (0), eI (0), eI (0), eI (0), eI (0), eI (0), eI (0), eR (68), eR (69), eI (0), eI (0), eR (70), eR (71), eI (0), eI (0)]) → wl[65]? = some (cI 0 5768 A1) → wl[67]? = some (cI 0 201 F8) → wc_same [64, 65, 67] w wl → WW p_ l e_ (wc_rm 2 0 0) s_ m_ a_ b_ t_ c_ (MQ b_ (wc_Q G w 0 0 (fun r w2 => (∃ x : Int32, r = some (eI x) ∧ (x = 0 ∧ wc_same [64, 65, 67] w w2)))) a_ s_ 0 0 (wc_A G)) G 5 w.length (wc_SL w) 0 0 272 [some (eR (64)), some (eI (1)), some (eI ((-1))), some (eI (0)), some (eI ((nI i)))] [] wl := by
    intro dd
    induction dd with
    | zero =>
      intro i hi wl A1 h64 h65 h67  hS
      have hh : i = 41 := by omega
      subst hh
      refine ww_iload K dX7_text_272 rfl ?_
      refine ww_iload_n K dX7_text_274 rfl ?_
      refine ww_cS K dX7_text_275 lc_X7_169 (ct_X7_sizeOf_1 G l) rfl ⟨Nat.le_of_ble_eq_true rfl, Nat.le_of_ble_eq_true rfl⟩ (Nat.le_of_ble_eq_true rfl) ?_
      refine ww_icmp_ge (tgt := 307) K dX7_text_278 rfl (fun _ => ?_) (fun cc_ => absurd (by decide) cc_)
      refine ww_iload_n K dX7_text_307 rfl ?_
      exact ww_iret K dX7_text_308 hr ⟨_, rfl, rfl, hS⟩
    | succ dd ih =>
      intro i hi wl A1 h64 h65 h67  hS
      have hlt : i < 41 := by omega
      refine ww_iload K dX7_text_272 rfl ?_
      refine ww_iload_n K dX7_text_274 rfl ?_
      refine ww_cS K dX7_text_275 lc_X7_169 (ct_X7_sizeOf_1 G l) rfl ⟨Nat.le_of_ble_eq_true rfl, Nat.le_of_ble_eq_true rfl⟩ (Nat.le_of_ble_eq_true rfl) ?_
      refine ww_icmp_ge (tgt := 307) K dX7_text_278 rfl (fun cc_ => absurd cc_ (nI_ge hlt (by decide))) (fun _ => ?_)
      refine ww_aload_n K dX7_text_281 rfl ?_
      refine ww_get K dX7_text_282 lf_X7_7 h64 rfl ?_
      refine ww_iload_n K dX7_text_285 rfl ?_
      refine ww_iload_n K dX7_text_286 rfl ?_
      refine ww_cS K dX7_text_287 lc_X7_172 (ct_X7_placeOf_1 G l) rfl ⟨Nat.le_of_ble_eq_true rfl, Nat.le_of_ble_eq_true rfl⟩ (Nat.le_of_ble_eq_true rfl) ?_
      refine ww_iload K dX7_text_290 rfl ?_
      refine ww_iadd K dX7_text_292 ?_
      rw [show (846 + (nI i)) = (nI (846 + i)) from nI_add 846 i]
      refine ww_aload_n K dX7_text_293 rfl ?_
      refine ww_get K dX7_text_294 lf_X7_17 h64 rfl ?_
      refine ww_iload K dX7_text_297 rfl ?_
      refine ww_iald K dX7_text_299 h67 (vp_in_nI (by omega) (by decide)) ?_
      refine ww_iastX K dX7_text_300 h65 (vp_in_nI (by omega) (by decide)) (fun wa hlna h65 hnea => ?_)
      have h64 := (hnea 64 (by decide)).trans h64
      have h67 := (hnea 67 (by decide)).trans h67
      have hS := hS.put (k := 65) (by decide) hnea
      refine ww_iinc (ls2 := [some (eR (64)), some (eI (1)), some (eI ((-1))), some (eI (0)), some (eI (((nI i) + 1)))]) K dX7_text_301 (by decide) rfl rfl ?_
      refine ww_goto (tgt := 272) K dX7_text_304 rfl ?_
      rw [show (nI i + 1) = nI (i + 1) from nI_1 i]
      exact ih (i + 1) (by omega) _ _ h64 h65 h67  hS
  exact loop 41 0 rfl _ _ h64 h65 h67  hS
set_option maxRecDepth 100000 in
set_option maxHeartbeats 4000000 in
theorem ct_X7_text_2 (G : EG) (l : Launch) {w : EW} {f1 : Nat → Int32} (h64 : w[64]? = some (cO 7 [eR (65), eR (66), eI (0), eI (0), eI (0), eI (0), eI (0), eI (0), eI (0), eI (0), eR (67), eI (0), eI (0), eI (0), eI (0), eI (0), eI (0), eI (0), eI (0), eI (0), eI (0), eI (0), eI (0), eI (0), eI (0), eI (0), eI (0), eR (68), eR (69), eI (0), eI (0), eR (70), eR (71), eI (0), eI (0)])) (h65 : w[65]? = some (cI 0 5768 (upd (fun _ => 0) 8 (-1)))) (h67 : w[67]? = some (cI 0 201 f1)) : Ct G l yX7_text cX7_text 5 (some .int) 2 0 0 [eR (64), eI (2), eI ((-1))] w (fun r w2 => (∃ x : Int32, r = some (eI x) ∧ (x = 0 ∧ wc_same [64, 65, 67] w w2))) := by
  refine Ct_of (by decide +kernel) (Nat.le_of_ble_eq_true rfl) ?_
  intro p_ e_ s_ m_ a_ b_ t_ c_ K0 hr hin
  have K : wc_C p_ s_ m_ a_ t_ c_ G RX7 cX7_text 5 w.length := K0
  clear K0
  refine WW_ls (ls2 := [some (eR (64)), some (eI (2)), some (eI ((-1))), none, none]) rfl ?_
  have hS : wc_same [64, 65, 67] w w := wc_same.rf
  refine ww_aload_n K dX7_text_0 rfl ?_
  refine ww_aload_n K dX7_text_1 rfl ?_
  refine ww_get K dX7_text_2 lf_X7_7 h64 rfl ?_
  refine ww_bipush (v := 6) K dX7_text_5 rfl ?_
  refine ww_iald K dX7_text_7 h65 (wc_vin (by decide)) ?_
  rw [show (upd (fun _ => 0) 8 (-1)) (6 : Int32).toNatClampNeg = 0 from rfl]
  refine ww_putX K dX7_text_8 lp_X7_32 h64 (Nat.le_of_ble_eq_true rfl) rfl rfl (fun w1 hln_w1 h64 hne_w1 => ?_)
  have h64 : w1[64]? = some (cO 7 [eR (65), eR (66), eI (0), eI (0), eI (0), eI (0), eI (0), eI (0), eI (0), eI (0), eR (67), eI (0), eI (0), eI (0), eI (0), eI (0), eI (0), eI (0), eI (0), eI (0), eI (0), eI (0), eI (0), eI (0), eI (0), eI (0), eI (0), eR (68), eR (69), eI (0), eI (0), eR (70), eR (71), eI (0), eI (0)]) := h64
  have h65 := (hne_w1 65 (by decide)).trans h65
  have h67 := (hne_w1 67 (by decide)).trans h67
  have hS := hS.put (k := 64) (by decide) hne_w1
  refine ww_aload_n K dX7_text_11 rfl ?_
  refine ww_get K dX7_text_12 lf_X7_7 h64 rfl ?_
  refine ww_bipush (v := 6) K dX7_text_15 rfl ?_
  refine ww_iconst (v := 0) K dX7_text_17 rfl ?_
  refine ww_iastX K dX7_text_18 h65 (wc_vin (by decide)) (fun w2 hln_w2 h65 hne_w2 => ?_)
  have h64 := (hne_w2 64 (by decide)).trans h64
  have h67 := (hne_w2 67 (by decide)).trans h67
  have hS := hS.put (k := 65) (by decide) hne_w2
  refine ww_aload_n K dX7_text_19 rfl ?_
  refine ww_get K dX7_text_20 lf_X7_7 h64 rfl ?_
  refine ww_bipush (v := 7) K dX7_text_23 rfl ?_
  refine ww_iconst (v := 0) K dX7_text_25 rfl ?_
  refine ww_iastX K dX7_text_26 h65 (wc_vin (by decide)) (fun w3 hln_w3 h65 hne_w3 => ?_)
  have h64 := (hne_w3 64 (by decide)).trans h64
  have h67 := (hne_w3 67 (by decide)).trans h67
  have hS := hS.put (k := 65) (by decide) hne_w3
  refine ww_aload_n K dX7_text_27 rfl ?_
  refine ww_get K dX7_text_28 lf_X7_7 h64 rfl ?_
  refine ww_bipush (v := 8) K dX7_text_31 rfl ?_
  refine ww_iconst (v := (-1)) K dX7_text_33 rfl ?_
  refine ww_iastX K dX7_text_34 h65 (wc_vin (by decide)) (fun w4 hln_w4 h65 hne_w4 => ?_)
  have h64 := (hne_w4 64 (by decide)).trans h64
  have h67 := (hne_w4 67 (by decide)).trans h67
  have hS := hS.put (k := 65) (by decide) hne_w4
  refine ww_iload_n K dX7_text_35 rfl ?_
  refine ww_iconst (v := 0) K dX7_text_36 rfl ?_
  refine ww_iconst (v := 5) K dX7_text_37 rfl ?_
  refine ww_cS K dX7_text_38 lc_X7_93 (ct_X7_isIn G l (a := 2) (b := 0) (c := 5)) rfl ⟨Nat.le_of_ble_eq_true rfl, Nat.le_of_ble_eq_true rfl⟩ (Nat.le_of_ble_eq_true rfl) ?_
  rw [show (if (2 : Int32) < 0 then 0 else if (5 : Int32) < 2 then 0 else (1 : Int32)) = 1 from rfl]
  refine ww_if_eq (tgt := 71) K dX7_text_41 rfl (fun cc_ => absurd cc_ (by decide)) (fun _ => ?_)
  refine ww_iload_n K dX7_text_44 rfl ?_
  refine ww_iconst (v := (-1)) K dX7_text_45 rfl ?_
  refine ww_icmp_ne (tgt := 62) K dX7_text_46 rfl (fun cc_ => absurd cc_ (by decide)) (fun _ => ?_)
  refine ww_aload_n K dX7_text_49 rfl ?_
  refine ww_get K dX7_text_50 lf_X7_7 h64 rfl ?_
  refine ww_iload_n K dX7_text_53 rfl ?_
  refine ww_iald K dX7_text_54 h65 (wc_vin (by decide)) ?_
  rw [show (upd (upd (upd (upd (fun _ => 0) 8 (-1)) (6 : Int32).toNatClampNeg 0) (7 : Int32).toNatClampNeg 0) (8 : Int32).toNatClampNeg (-1)) (2 : Int32).toNatClampNeg = 0 from rfl]
  refine ww_iconst (v := 2) K dX7_text_55 rfl ?_
  refine ww_icmp_lt (tgt := 74) K dX7_text_56 rfl (fun _ => ?_) (fun cc_ => absurd cc_ (by decide))
  refine ww_aload_n K dX7_text_74 rfl ?_
  refine ww_iconst (v := 0) K dX7_text_75 rfl ?_
  refine ww_putX K dX7_text_76 lp_X7_53 h64 (Nat.le_of_ble_eq_true rfl) rfl rfl (fun w5 hln_w5 h64 hne_w5 => ?_)
  have h64 : w5[64]? = some (cO 7 [eR (65), eR (66), eI (0), eI (0), eI (0), eI (0), eI (0), eI (0), eI (0), eI (0), eR (67), eI (0), eI (0), eI (0), eI (0), eI (0), eI (0), eI (0), eI (0), eI (0), eI (0), eI (0), eI (0), eI (0), eI (0), eI (0), eI (0), eR (68), eR (69), eI (0), eI (0), eR (70), eR (71), eI (0), eI (0)]) := h64
  have h65 := (hne_w5 65 (by decide)).trans h65
  have h67 := (hne_w5 67 (by decide)).trans h67
  have hS := hS.put (k := 64) (by decide) hne_w5
  refine ww_aload_n K dX7_text_79 rfl ?_
  refine ww_iconst (v := 0) K dX7_text_80 rfl ?_
  refine ww_putX K dX7_text_81 lp_X7_86 h64 (Nat.le_of_ble_eq_true rfl) rfl rfl (fun w6 hln_w6 h64 hne_w6 => ?_)
  have h64 : w6[64]? = some (cO 7 [eR (65), eR (66), eI (0), eI (0), eI (0), eI (0), eI (0), eI (0), eI (0), eI (0), eR (67), eI (0), eI (0), eI (0), eI (0), eI (0), eI (0), eI (0), eI (0), eI (0), eI (0), eI (0), eI (0), eI (0), eI (0), eI (0), eI (0), eR (68), eR (69), eI (0), eI (0), eR (70), eR (71), eI (0), eI (0)]) := h64
  have h65 := (hne_w6 65 (by decide)).trans h65
  have h67 := (hne_w6 67 (by decide)).trans h67
  have hS := hS.put (k := 64) (by decide) hne_w6
  refine ww_aload_n K dX7_text_84 rfl ?_
  refine ww_iconst (v := (-1)) K dX7_text_85 rfl ?_
  refine ww_putX K dX7_text_86 lp_X7_111 h64 (Nat.le_of_ble_eq_true rfl) rfl rfl (fun w7 hln_w7 h64 hne_w7 => ?_)
  have h64 : w7[64]? = some (cO 7 [eR (65), eR (66), eI (0), eI (0), eI (0), eI (0), eI (0), eI (0), eI (0), eI ((-1)), eR (67), eI (0), eI (0), eI (0), eI (0), eI (0), eI (0), eI (0), eI (0), eI (0), eI (0), eI (0), eI (0), eI (0), eI (0), eI (0), eI (0), eR (68), eR (69), eI (0), eI (0), eR (70), eR (71), eI (0), eI (0)]) := h64
  have h65 := (hne_w7 65 (by decide)).trans h65
  have h67 := (hne_w7 67 (by decide)).trans h67
  have hS := hS.put (k := 64) (by decide) hne_w7
  refine ww_aload_n K dX7_text_89 rfl ?_
  refine ww_iload_n K dX7_text_90 rfl ?_
  refine ww_xVv K dX7_text_91 lc_X7_148 h64 ⟨_, rfl, rfl⟩ (ct_X7_clears_2 G l h64 h67) rfl ⟨Nat.le_of_ble_eq_true rfl, Nat.le_of_ble_eq_true rfl⟩ (Nat.le_of_ble_eq_true rfl) (fun w9 hq hln_w9 => ?_)
  obtain ⟨⟨F8, e67, h67⟩, hsm⟩ := hq
  have h64 := hsm.keep h64 (by decide)
  have h65 := hsm.keep h65 (by decide)
  have hS := hS.call hsm (by decide)
  refine ww_aload_n K dX7_text_94 rfl ?_
  refine ww_xVv K dX7_text_95 lc_X7_101 h64 ⟨_, rfl, rfl⟩ (ct_X7_advance_0 G l h64) rfl ⟨Nat.le_of_ble_eq_true rfl, Nat.le_of_ble_eq_true rfl⟩ (Nat.le_of_ble_eq_true rfl) (fun w10 hq hln_w10 => ?_)
  obtain ⟨h64, hsm⟩ := hq
  have h65 := hsm.keep h65 (by decide)
  have h67 := hsm.keep h67 (by decide)
  have hS := hS.call hsm (by decide)
  refine ww_aload_n K dX7_text_98 rfl ?_
  refine ww_get K dX7_text_99 lf_X7_86 h64 rfl ?_
  refine ww_if_ne (tgt := 190) K dX7_text_102 rfl (fun cc_ => absurd cc_ (by decide)) (fun _ => ?_)
  refine ww_aload_n K dX7_text_105 rfl ?_
  refine ww_get K dX7_text_106 lf_X7_63 h64 rfl ?_
  refine ww_if_eq (tgt := 190) K dX7_text_109 rfl (fun _ => ?_) (fun cc_ => absurd cc_ (by decide))
  refine ww_aload_n K dX7_text_190 rfl ?_
  refine ww_get K dX7_text_191 lf_X7_7 h64 rfl ?_
  refine ww_bipush (v := 7) K dX7_text_194 rfl ?_
  refine ww_iald K dX7_text_196 h65 (wc_vin (by decide)) ?_
  rw [show (upd (upd (upd (upd (fun _ => 0) 8 (-1)) (6 : Int32).toNatClampNeg 0) (7 : Int32).toNatClampNeg 0) (8 : Int32).toNatClampNeg (-1)) (7 : Int32).toNatClampNeg = 0 from rfl]
  refine ww_if_ne (tgt := 226) K dX7_text_197 rfl (fun cc_ => absurd cc_ (by decide)) (fun _ => ?_)
  refine ww_iload_n K dX7_text_200 rfl ?_
  refine ww_if_ne (tgt := 226) K dX7_text_201 rfl (fun _ => ?_) (fun cc_ => absurd cc_ (by decide))
  refine ww_aload_n K dX7_text_226 rfl ?_
  refine ww_get K dX7_text_227 lf_X7_7 h64 rfl ?_
  refine ww_bipush (v := 7) K dX7_text_230 rfl ?_
  refine ww_iald K dX7_text_232 h65 (wc_vin (by decide)) ?_
  rw [show (upd (upd (upd (upd (fun _ => 0) 8 (-1)) (6 : Int32).toNatClampNeg 0) (7 : Int32).toNatClampNeg 0) (8 : Int32).toNatClampNeg (-1)) (7 : Int32).toNatClampNeg = 0 from rfl]
  refine ww_if_eq (tgt := 238) K dX7_text_233 rfl (fun _ => ?_) (fun cc_ => absurd cc_ (by decide))
  refine ww_iload_n K dX7_text_238 rfl ?_
  refine ww_iconst (v := (-1)) K dX7_text_239 rfl ?_
  refine ww_icmp_ne (tgt := 252) K dX7_text_240 rfl (fun cc_ => absurd cc_ (by decide)) (fun _ => ?_)
  refine ww_aload_n K dX7_text_243 rfl ?_
  refine ww_get K dX7_text_244 lf_X7_7 h64 rfl ?_
  refine ww_iload_n K dX7_text_247 rfl ?_
  refine ww_iald K dX7_text_248 h65 (wc_vin (by decide)) ?_
  rw [show (upd (upd (upd (upd (fun _ => 0) 8 (-1)) (6 : Int32).toNatClampNeg 0) (7 : Int32).toNatClampNeg 0) (8 : Int32).toNatClampNeg (-1)) (2 : Int32).toNatClampNeg = 0 from rfl]
  refine ww_goto (tgt := 253) K dX7_text_249 rfl ?_
  refine ww_istore_n (ls2 := [some (eR (64)), some (eI (2)), some (eI ((-1))), some (eI (0)), none]) K dX7_text_253 (by decide) rfl ?_
  refine ww_iload_n K dX7_text_254 rfl ?_
  refine ww_iconst (v := (-1)) K dX7_text_255 rfl ?_
  refine ww_icmp_ne (tgt := 269) K dX7_text_256 rfl (fun cc_ => absurd cc_ (by decide)) (fun _ => ?_)
  refine ww_aload_n K dX7_text_259 rfl ?_
  refine ww_get K dX7_text_260 lf_X7_7 h64 rfl ?_
  refine ww_iload_n K dX7_text_263 rfl ?_
  refine ww_dup2 K dX7_text_264 trivial trivial ?_
  refine ww_iald K dX7_text_265 h65 (wc_vin (by decide)) ?_
  rw [show (upd (upd (upd (upd (fun _ => 0) 8 (-1)) (6 : Int32).toNatClampNeg 0) (7 : Int32).toNatClampNeg 0) (8 : Int32).toNatClampNeg (-1)) (2 : Int32).toNatClampNeg = 0 from rfl]
  refine ww_iconst (v := 1) K dX7_text_266 rfl ?_
  refine ww_iadd K dX7_text_267 ?_
  rw [show ((0 : Int32) + 1) = 1 from rfl]
  refine ww_iastX K dX7_text_268 h65 (wc_vin (by decide)) (fun w11 hln_w11 h65 hne_w11 => ?_)
  have h64 := (hne_w11 64 (by decide)).trans h64
  have h67 := (hne_w11 67 (by decide)).trans h67
  have hS := hS.put (k := 65) (by decide) hne_w11
  refine ww_iconst (v := 0) K dX7_text_269 rfl ?_
  refine ww_istore (ls2 := [some (eR (64)), some (eI (2)), some (eI ((-1))), some (eI (0)), some (eI (0))]) K dX7_text_270 (by decide) rfl ?_
  have loop : ∀ (dd i : Nat), i + dd = 201 → ∀ (wl : EW) (A1 : Nat → Int32), wl[64]? = some (cO 7 [eR (65), eR (66), eI (0), eI (0), eI (0), eI (0), eI (0), eI (0), eI (0), eI ((-1)), eR (67), eI (0), eI (0), eI (0), eI (0), eI (0), eI (0), eI (0), eI (0), eI (0), eI (0), eI (0), eI (0), eI (0), eI (0), eI (0), eI (0), eR (68), eR (69), eI (0), eI (0), eR (70), eR (71), eI (0), eI (0)]) → wl[65]? = some (cI 0 5768 A1) → wl[67]? = some (cI 0 201 F8) → wc_same [64, 65, 67] w wl → WW p_ l e_ (wc_rm 2 0 0) s_ m_ a_ b_ t_ c_ (MQ b_ (wc_Q G w 0 0 (fun r w2 => (∃ x : Int32, r = some (eI x) ∧ (x = 0 ∧ wc_same [64, 65, 67] w w2)))) a_ s_ 0 0 (wc_A G)) G 5 w.length (wc_SL w) 0 0 272 [some (eR (64)), some (eI (2)), some (eI ((-1))), some (eI (0)), some (eI ((nI i)))] [] wl := by
    intro dd
    induction dd with
    | zero =>
      intro i hi wl A1 h64 h65 h67  hS
      have hh : i = 201 := by omega
      subst hh
      refine ww_iload K dX7_text_272 rfl ?_
      refine ww_iload_n K dX7_text_274 rfl ?_
      refine ww_cS K dX7_text_275 lc_X7_169 (ct_X7_sizeOf_2 G l) rfl ⟨Nat.le_of_ble_eq_true rfl, Nat.le_of_ble_eq_true rfl⟩ (Nat.le_of_ble_eq_true rfl) ?_
      refine ww_icmp_ge (tgt := 307) K dX7_text_278 rfl (fun _ => ?_) (fun cc_ => absurd (by decide) cc_)
      refine ww_iload_n K dX7_text_307 rfl ?_
      exact ww_iret K dX7_text_308 hr ⟨_, rfl, rfl, hS⟩
    | succ dd ih =>
      intro i hi wl A1 h64 h65 h67  hS
      have hlt : i < 201 := by omega
      refine ww_iload K dX7_text_272 rfl ?_
      refine ww_iload_n K dX7_text_274 rfl ?_
      refine ww_cS K dX7_text_275 lc_X7_169 (ct_X7_sizeOf_2 G l) rfl ⟨Nat.le_of_ble_eq_true rfl, Nat.le_of_ble_eq_true rfl⟩ (Nat.le_of_ble_eq_true rfl) ?_
      refine ww_icmp_ge (tgt := 307) K dX7_text_278 rfl (fun cc_ => absurd cc_ (nI_ge hlt (by decide))) (fun _ => ?_)
      refine ww_aload_n K dX7_text_281 rfl ?_
      refine ww_get K dX7_text_282 lf_X7_7 h64 rfl ?_
      refine ww_iload_n K dX7_text_285 rfl ?_
      refine ww_iload_n K dX7_text_286 rfl ?_
      refine ww_cS K dX7_text_287 lc_X7_172 (ct_X7_placeOf_2 G l) rfl ⟨Nat.le_of_ble_eq_true rfl, Nat.le_of_ble_eq_true rfl⟩ (Nat.le_of_ble_eq_true rfl) ?_
      refine ww_iload K dX7_text_290 rfl ?_
      refine ww_iadd K dX7_text_292 ?_
      rw [show (928 + (nI i)) = (nI (928 + i)) from nI_add 928 i]
      refine ww_aload_n K dX7_text_293 rfl ?_
      refine ww_get K dX7_text_294 lf_X7_17 h64 rfl ?_
      refine ww_iload K dX7_text_297 rfl ?_
      refine ww_iald K dX7_text_299 h67 (vp_in_nI (by omega) (by decide)) ?_
      refine ww_iastX K dX7_text_300 h65 (vp_in_nI (by omega) (by decide)) (fun wa hlna h65 hnea => ?_)
      have h64 := (hnea 64 (by decide)).trans h64
      have h67 := (hnea 67 (by decide)).trans h67
      have hS := hS.put (k := 65) (by decide) hnea
      refine ww_iinc (ls2 := [some (eR (64)), some (eI (2)), some (eI ((-1))), some (eI (0)), some (eI (((nI i) + 1)))]) K dX7_text_301 (by decide) rfl rfl ?_
      refine ww_goto (tgt := 272) K dX7_text_304 rfl ?_
      rw [show (nI i + 1) = nI (i + 1) from nI_1 i]
      exact ih (i + 1) (by omega) _ _ h64 h65 h67  hS
  exact loop 201 0 rfl _ _ h64 h65 h67  hS
set_option maxRecDepth 100000 in
set_option maxHeartbeats 4000000 in
theorem ct_X7_text_3 (G : EG) (l : Launch) {w : EW} {f1 : Nat → Int32} (h64 : w[64]? = some (cO 7 [eR (65), eR (66), eI (0), eI (0), eI (0), eI (0), eI (0), eI (0), eI (0), eI (0), eR (67), eI (0), eI (0), eI (0), eI (0), eI (0), eI (0), eI (0), eI (0), eI (0), eI (0), eI (0), eI (0), eI (0), eI (0), eI (0), eI (0), eR (68), eR (69), eI (0), eI (0), eR (70), eR (71), eI (0), eI (0)])) (h65 : w[65]? = some (cI 0 5768 (upd (fun _ => 0) 8 (-1)))) (h67 : w[67]? = some (cI 0 201 f1)) : Ct G l yX7_text cX7_text 5 (some .int) 2 0 0 [eR (64), eI (3), eI ((-1))] w (fun r w2 => (∃ x : Int32, r = some (eI x) ∧ (x = 0 ∧ wc_same [64, 65, 67] w w2))) := by
  refine Ct_of (by decide +kernel) (Nat.le_of_ble_eq_true rfl) ?_
  intro p_ e_ s_ m_ a_ b_ t_ c_ K0 hr hin
  have K : wc_C p_ s_ m_ a_ t_ c_ G RX7 cX7_text 5 w.length := K0
  clear K0
  refine WW_ls (ls2 := [some (eR (64)), some (eI (3)), some (eI ((-1))), none, none]) rfl ?_
  have hS : wc_same [64, 65, 67] w w := wc_same.rf
  refine ww_aload_n K dX7_text_0 rfl ?_
  refine ww_aload_n K dX7_text_1 rfl ?_
  refine ww_get K dX7_text_2 lf_X7_7 h64 rfl ?_
  refine ww_bipush (v := 6) K dX7_text_5 rfl ?_
  refine ww_iald K dX7_text_7 h65 (wc_vin (by decide)) ?_
  rw [show (upd (fun _ => 0) 8 (-1)) (6 : Int32).toNatClampNeg = 0 from rfl]
  refine ww_putX K dX7_text_8 lp_X7_32 h64 (Nat.le_of_ble_eq_true rfl) rfl rfl (fun w1 hln_w1 h64 hne_w1 => ?_)
  have h64 : w1[64]? = some (cO 7 [eR (65), eR (66), eI (0), eI (0), eI (0), eI (0), eI (0), eI (0), eI (0), eI (0), eR (67), eI (0), eI (0), eI (0), eI (0), eI (0), eI (0), eI (0), eI (0), eI (0), eI (0), eI (0), eI (0), eI (0), eI (0), eI (0), eI (0), eR (68), eR (69), eI (0), eI (0), eR (70), eR (71), eI (0), eI (0)]) := h64
  have h65 := (hne_w1 65 (by decide)).trans h65
  have h67 := (hne_w1 67 (by decide)).trans h67
  have hS := hS.put (k := 64) (by decide) hne_w1
  refine ww_aload_n K dX7_text_11 rfl ?_
  refine ww_get K dX7_text_12 lf_X7_7 h64 rfl ?_
  refine ww_bipush (v := 6) K dX7_text_15 rfl ?_
  refine ww_iconst (v := 0) K dX7_text_17 rfl ?_
  refine ww_iastX K dX7_text_18 h65 (wc_vin (by decide)) (fun w2 hln_w2 h65 hne_w2 => ?_)
  have h64 := (hne_w2 64 (by decide)).trans h64
  have h67 := (hne_w2 67 (by decide)).trans h67
  have hS := hS.put (k := 65) (by decide) hne_w2
  refine ww_aload_n K dX7_text_19 rfl ?_
  refine ww_get K dX7_text_20 lf_X7_7 h64 rfl ?_
  refine ww_bipush (v := 7) K dX7_text_23 rfl ?_
  refine ww_iconst (v := 0) K dX7_text_25 rfl ?_
  refine ww_iastX K dX7_text_26 h65 (wc_vin (by decide)) (fun w3 hln_w3 h65 hne_w3 => ?_)
  have h64 := (hne_w3 64 (by decide)).trans h64
  have h67 := (hne_w3 67 (by decide)).trans h67
  have hS := hS.put (k := 65) (by decide) hne_w3
  refine ww_aload_n K dX7_text_27 rfl ?_
  refine ww_get K dX7_text_28 lf_X7_7 h64 rfl ?_
  refine ww_bipush (v := 8) K dX7_text_31 rfl ?_
  refine ww_iconst (v := (-1)) K dX7_text_33 rfl ?_
  refine ww_iastX K dX7_text_34 h65 (wc_vin (by decide)) (fun w4 hln_w4 h65 hne_w4 => ?_)
  have h64 := (hne_w4 64 (by decide)).trans h64
  have h67 := (hne_w4 67 (by decide)).trans h67
  have hS := hS.put (k := 65) (by decide) hne_w4
  refine ww_iload_n K dX7_text_35 rfl ?_
  refine ww_iconst (v := 0) K dX7_text_36 rfl ?_
  refine ww_iconst (v := 5) K dX7_text_37 rfl ?_
  refine ww_cS K dX7_text_38 lc_X7_93 (ct_X7_isIn G l (a := 3) (b := 0) (c := 5)) rfl ⟨Nat.le_of_ble_eq_true rfl, Nat.le_of_ble_eq_true rfl⟩ (Nat.le_of_ble_eq_true rfl) ?_
  rw [show (if (3 : Int32) < 0 then 0 else if (5 : Int32) < 3 then 0 else (1 : Int32)) = 1 from rfl]
  refine ww_if_eq (tgt := 71) K dX7_text_41 rfl (fun cc_ => absurd cc_ (by decide)) (fun _ => ?_)
  refine ww_iload_n K dX7_text_44 rfl ?_
  refine ww_iconst (v := (-1)) K dX7_text_45 rfl ?_
  refine ww_icmp_ne (tgt := 62) K dX7_text_46 rfl (fun cc_ => absurd cc_ (by decide)) (fun _ => ?_)
  refine ww_aload_n K dX7_text_49 rfl ?_
  refine ww_get K dX7_text_50 lf_X7_7 h64 rfl ?_
  refine ww_iload_n K dX7_text_53 rfl ?_
  refine ww_iald K dX7_text_54 h65 (wc_vin (by decide)) ?_
  rw [show (upd (upd (upd (upd (fun _ => 0) 8 (-1)) (6 : Int32).toNatClampNeg 0) (7 : Int32).toNatClampNeg 0) (8 : Int32).toNatClampNeg (-1)) (3 : Int32).toNatClampNeg = 0 from rfl]
  refine ww_iconst (v := 2) K dX7_text_55 rfl ?_
  refine ww_icmp_lt (tgt := 74) K dX7_text_56 rfl (fun _ => ?_) (fun cc_ => absurd cc_ (by decide))
  refine ww_aload_n K dX7_text_74 rfl ?_
  refine ww_iconst (v := 0) K dX7_text_75 rfl ?_
  refine ww_putX K dX7_text_76 lp_X7_53 h64 (Nat.le_of_ble_eq_true rfl) rfl rfl (fun w5 hln_w5 h64 hne_w5 => ?_)
  have h64 : w5[64]? = some (cO 7 [eR (65), eR (66), eI (0), eI (0), eI (0), eI (0), eI (0), eI (0), eI (0), eI (0), eR (67), eI (0), eI (0), eI (0), eI (0), eI (0), eI (0), eI (0), eI (0), eI (0), eI (0), eI (0), eI (0), eI (0), eI (0), eI (0), eI (0), eR (68), eR (69), eI (0), eI (0), eR (70), eR (71), eI (0), eI (0)]) := h64
  have h65 := (hne_w5 65 (by decide)).trans h65
  have h67 := (hne_w5 67 (by decide)).trans h67
  have hS := hS.put (k := 64) (by decide) hne_w5
  refine ww_aload_n K dX7_text_79 rfl ?_
  refine ww_iconst (v := 0) K dX7_text_80 rfl ?_
  refine ww_putX K dX7_text_81 lp_X7_86 h64 (Nat.le_of_ble_eq_true rfl) rfl rfl (fun w6 hln_w6 h64 hne_w6 => ?_)
  have h64 : w6[64]? = some (cO 7 [eR (65), eR (66), eI (0), eI (0), eI (0), eI (0), eI (0), eI (0), eI (0), eI (0), eR (67), eI (0), eI (0), eI (0), eI (0), eI (0), eI (0), eI (0), eI (0), eI (0), eI (0), eI (0), eI (0), eI (0), eI (0), eI (0), eI (0), eR (68), eR (69), eI (0), eI (0), eR (70), eR (71), eI (0), eI (0)]) := h64
  have h65 := (hne_w6 65 (by decide)).trans h65
  have h67 := (hne_w6 67 (by decide)).trans h67
  have hS := hS.put (k := 64) (by decide) hne_w6
  refine ww_aload_n K dX7_text_84 rfl ?_
  refine ww_iconst (v := (-1)) K dX7_text_85 rfl ?_
  refine ww_putX K dX7_text_86 lp_X7_111 h64 (Nat.le_of_ble_eq_true rfl) rfl rfl (fun w7 hln_w7 h64 hne_w7 => ?_)
  have h64 : w7[64]? = some (cO 7 [eR (65), eR (66), eI (0), eI (0), eI (0), eI (0), eI (0), eI (0), eI (0), eI ((-1)), eR (67), eI (0), eI (0), eI (0), eI (0), eI (0), eI (0), eI (0), eI (0), eI (0), eI (0), eI (0), eI (0), eI (0), eI (0), eI (0), eI (0), eR (68), eR (69), eI (0), eI (0), eR (70), eR (71), eI (0), eI (0)]) := h64
  have h65 := (hne_w7 65 (by decide)).trans h65
  have h67 := (hne_w7 67 (by decide)).trans h67
  have hS := hS.put (k := 64) (by decide) hne_w7
  refine ww_aload_n K dX7_text_89 rfl ?_
  refine ww_iload_n K dX7_text_90 rfl ?_
  refine ww_xVv K dX7_text_91 lc_X7_148 h64 ⟨_, rfl, rfl⟩ (ct_X7_clears_3 G l h64 h67) rfl ⟨Nat.le_of_ble_eq_true rfl, Nat.le_of_ble_eq_true rfl⟩ (Nat.le_of_ble_eq_true rfl) (fun w9 hq hln_w9 => ?_)
  obtain ⟨⟨F8, e67, h67⟩, hsm⟩ := hq
  have h64 := hsm.keep h64 (by decide)
  have h65 := hsm.keep h65 (by decide)
  have hS := hS.call hsm (by decide)
  refine ww_aload_n K dX7_text_94 rfl ?_
  refine ww_xVv K dX7_text_95 lc_X7_101 h64 ⟨_, rfl, rfl⟩ (ct_X7_advance_0 G l h64) rfl ⟨Nat.le_of_ble_eq_true rfl, Nat.le_of_ble_eq_true rfl⟩ (Nat.le_of_ble_eq_true rfl) (fun w10 hq hln_w10 => ?_)
  obtain ⟨h64, hsm⟩ := hq
  have h65 := hsm.keep h65 (by decide)
  have h67 := hsm.keep h67 (by decide)
  have hS := hS.call hsm (by decide)
  refine ww_aload_n K dX7_text_98 rfl ?_
  refine ww_get K dX7_text_99 lf_X7_86 h64 rfl ?_
  refine ww_if_ne (tgt := 190) K dX7_text_102 rfl (fun cc_ => absurd cc_ (by decide)) (fun _ => ?_)
  refine ww_aload_n K dX7_text_105 rfl ?_
  refine ww_get K dX7_text_106 lf_X7_63 h64 rfl ?_
  refine ww_if_eq (tgt := 190) K dX7_text_109 rfl (fun _ => ?_) (fun cc_ => absurd cc_ (by decide))
  refine ww_aload_n K dX7_text_190 rfl ?_
  refine ww_get K dX7_text_191 lf_X7_7 h64 rfl ?_
  refine ww_bipush (v := 7) K dX7_text_194 rfl ?_
  refine ww_iald K dX7_text_196 h65 (wc_vin (by decide)) ?_
  rw [show (upd (upd (upd (upd (fun _ => 0) 8 (-1)) (6 : Int32).toNatClampNeg 0) (7 : Int32).toNatClampNeg 0) (8 : Int32).toNatClampNeg (-1)) (7 : Int32).toNatClampNeg = 0 from rfl]
  refine ww_if_ne (tgt := 226) K dX7_text_197 rfl (fun cc_ => absurd cc_ (by decide)) (fun _ => ?_)
  refine ww_iload_n K dX7_text_200 rfl ?_
  refine ww_if_ne (tgt := 226) K dX7_text_201 rfl (fun _ => ?_) (fun cc_ => absurd cc_ (by decide))
  refine ww_aload_n K dX7_text_226 rfl ?_
  refine ww_get K dX7_text_227 lf_X7_7 h64 rfl ?_
  refine ww_bipush (v := 7) K dX7_text_230 rfl ?_
  refine ww_iald K dX7_text_232 h65 (wc_vin (by decide)) ?_
  rw [show (upd (upd (upd (upd (fun _ => 0) 8 (-1)) (6 : Int32).toNatClampNeg 0) (7 : Int32).toNatClampNeg 0) (8 : Int32).toNatClampNeg (-1)) (7 : Int32).toNatClampNeg = 0 from rfl]
  refine ww_if_eq (tgt := 238) K dX7_text_233 rfl (fun _ => ?_) (fun cc_ => absurd cc_ (by decide))
  refine ww_iload_n K dX7_text_238 rfl ?_
  refine ww_iconst (v := (-1)) K dX7_text_239 rfl ?_
  refine ww_icmp_ne (tgt := 252) K dX7_text_240 rfl (fun cc_ => absurd cc_ (by decide)) (fun _ => ?_)
  refine ww_aload_n K dX7_text_243 rfl ?_
  refine ww_get K dX7_text_244 lf_X7_7 h64 rfl ?_
  refine ww_iload_n K dX7_text_247 rfl ?_
  refine ww_iald K dX7_text_248 h65 (wc_vin (by decide)) ?_
  rw [show (upd (upd (upd (upd (fun _ => 0) 8 (-1)) (6 : Int32).toNatClampNeg 0) (7 : Int32).toNatClampNeg 0) (8 : Int32).toNatClampNeg (-1)) (3 : Int32).toNatClampNeg = 0 from rfl]
  refine ww_goto (tgt := 253) K dX7_text_249 rfl ?_
  refine ww_istore_n (ls2 := [some (eR (64)), some (eI (3)), some (eI ((-1))), some (eI (0)), none]) K dX7_text_253 (by decide) rfl ?_
  refine ww_iload_n K dX7_text_254 rfl ?_
  refine ww_iconst (v := (-1)) K dX7_text_255 rfl ?_
  refine ww_icmp_ne (tgt := 269) K dX7_text_256 rfl (fun cc_ => absurd cc_ (by decide)) (fun _ => ?_)
  refine ww_aload_n K dX7_text_259 rfl ?_
  refine ww_get K dX7_text_260 lf_X7_7 h64 rfl ?_
  refine ww_iload_n K dX7_text_263 rfl ?_
  refine ww_dup2 K dX7_text_264 trivial trivial ?_
  refine ww_iald K dX7_text_265 h65 (wc_vin (by decide)) ?_
  rw [show (upd (upd (upd (upd (fun _ => 0) 8 (-1)) (6 : Int32).toNatClampNeg 0) (7 : Int32).toNatClampNeg 0) (8 : Int32).toNatClampNeg (-1)) (3 : Int32).toNatClampNeg = 0 from rfl]
  refine ww_iconst (v := 1) K dX7_text_266 rfl ?_
  refine ww_iadd K dX7_text_267 ?_
  rw [show ((0 : Int32) + 1) = 1 from rfl]
  refine ww_iastX K dX7_text_268 h65 (wc_vin (by decide)) (fun w11 hln_w11 h65 hne_w11 => ?_)
  have h64 := (hne_w11 64 (by decide)).trans h64
  have h67 := (hne_w11 67 (by decide)).trans h67
  have hS := hS.put (k := 65) (by decide) hne_w11
  refine ww_iconst (v := 0) K dX7_text_269 rfl ?_
  refine ww_istore (ls2 := [some (eR (64)), some (eI (3)), some (eI ((-1))), some (eI (0)), some (eI (0))]) K dX7_text_270 (by decide) rfl ?_
  have loop : ∀ (dd i : Nat), i + dd = 17 → ∀ (wl : EW) (A1 : Nat → Int32), wl[64]? = some (cO 7 [eR (65), eR (66), eI (0), eI (0), eI (0), eI (0), eI (0), eI (0), eI (0), eI ((-1)), eR (67), eI (0), eI (0), eI (0), eI (0), eI (0), eI (0), eI (0), eI (0), eI (0), eI (0), eI (0), eI (0), eI (0), eI (0), eI (0), eI (0), eR (68), eR (69), eI (0), eI (0), eR (70), eR (71), eI (0), eI (0)]) → wl[65]? = some (cI 0 5768 A1) → wl[67]? = some (cI 0 201 F8) → wc_same [64, 65, 67] w wl → WW p_ l e_ (wc_rm 2 0 0) s_ m_ a_ b_ t_ c_ (MQ b_ (wc_Q G w 0 0 (fun r w2 => (∃ x : Int32, r = some (eI x) ∧ (x = 0 ∧ wc_same [64, 65, 67] w w2)))) a_ s_ 0 0 (wc_A G)) G 5 w.length (wc_SL w) 0 0 272 [some (eR (64)), some (eI (3)), some (eI ((-1))), some (eI (0)), some (eI ((nI i)))] [] wl := by
    intro dd
    induction dd with
    | zero =>
      intro i hi wl A1 h64 h65 h67  hS
      have hh : i = 17 := by omega
      subst hh
      refine ww_iload K dX7_text_272 rfl ?_
      refine ww_iload_n K dX7_text_274 rfl ?_
      refine ww_cS K dX7_text_275 lc_X7_169 (ct_X7_sizeOf_3 G l) rfl ⟨Nat.le_of_ble_eq_true rfl, Nat.le_of_ble_eq_true rfl⟩ (Nat.le_of_ble_eq_true rfl) ?_
      refine ww_icmp_ge (tgt := 307) K dX7_text_278 rfl (fun _ => ?_) (fun cc_ => absurd (by decide) cc_)
      refine ww_iload_n K dX7_text_307 rfl ?_
      exact ww_iret K dX7_text_308 hr ⟨_, rfl, rfl, hS⟩
    | succ dd ih =>
      intro i hi wl A1 h64 h65 h67  hS
      have hlt : i < 17 := by omega
      refine ww_iload K dX7_text_272 rfl ?_
      refine ww_iload_n K dX7_text_274 rfl ?_
      refine ww_cS K dX7_text_275 lc_X7_169 (ct_X7_sizeOf_3 G l) rfl ⟨Nat.le_of_ble_eq_true rfl, Nat.le_of_ble_eq_true rfl⟩ (Nat.le_of_ble_eq_true rfl) ?_
      refine ww_icmp_ge (tgt := 307) K dX7_text_278 rfl (fun cc_ => absurd cc_ (nI_ge hlt (by decide))) (fun _ => ?_)
      refine ww_aload_n K dX7_text_281 rfl ?_
      refine ww_get K dX7_text_282 lf_X7_7 h64 rfl ?_
      refine ww_iload_n K dX7_text_285 rfl ?_
      refine ww_iload_n K dX7_text_286 rfl ?_
      refine ww_cS K dX7_text_287 lc_X7_172 (ct_X7_placeOf_3 G l) rfl ⟨Nat.le_of_ble_eq_true rfl, Nat.le_of_ble_eq_true rfl⟩ (Nat.le_of_ble_eq_true rfl) ?_
      refine ww_iload K dX7_text_290 rfl ?_
      refine ww_iadd K dX7_text_292 ?_
      rw [show (1330 + (nI i)) = (nI (1330 + i)) from nI_add 1330 i]
      refine ww_aload_n K dX7_text_293 rfl ?_
      refine ww_get K dX7_text_294 lf_X7_17 h64 rfl ?_
      refine ww_iload K dX7_text_297 rfl ?_
      refine ww_iald K dX7_text_299 h67 (vp_in_nI (by omega) (by decide)) ?_
      refine ww_iastX K dX7_text_300 h65 (vp_in_nI (by omega) (by decide)) (fun wa hlna h65 hnea => ?_)
      have h64 := (hnea 64 (by decide)).trans h64
      have h67 := (hnea 67 (by decide)).trans h67
      have hS := hS.put (k := 65) (by decide) hnea
      refine ww_iinc (ls2 := [some (eR (64)), some (eI (3)), some (eI ((-1))), some (eI (0)), some (eI (((nI i) + 1)))]) K dX7_text_301 (by decide) rfl rfl ?_
      refine ww_goto (tgt := 272) K dX7_text_304 rfl ?_
      rw [show (nI i + 1) = nI (i + 1) from nI_1 i]
      exact ih (i + 1) (by omega) _ _ h64 h65 h67  hS
  exact loop 17 0 rfl _ _ h64 h65 h67  hS
set_option maxRecDepth 100000 in
set_option maxHeartbeats 4000000 in
theorem ct_X7_text_4 (G : EG) (l : Launch) {w : EW} {f1 : Nat → Int32} (h64 : w[64]? = some (cO 7 [eR (65), eR (66), eI (0), eI (0), eI (0), eI (0), eI (0), eI (0), eI (0), eI (0), eR (67), eI (0), eI (0), eI (0), eI (0), eI (0), eI (0), eI (0), eI (0), eI (0), eI (0), eI (0), eI (0), eI (0), eI (0), eI (0), eI (0), eR (68), eR (69), eI (0), eI (0), eR (70), eR (71), eI (0), eI (0)])) (h65 : w[65]? = some (cI 0 5768 (upd (fun _ => 0) 8 (-1)))) (h67 : w[67]? = some (cI 0 201 f1)) : Ct G l yX7_text cX7_text 5 (some .int) 2 0 0 [eR (64), eI (4), eI ((-1))] w (fun r w2 => (∃ x : Int32, r = some (eI x) ∧ (x = 0 ∧ wc_same [64, 65, 67] w w2))) := by
  refine Ct_of (by decide +kernel) (Nat.le_of_ble_eq_true rfl) ?_
  intro p_ e_ s_ m_ a_ b_ t_ c_ K0 hr hin
  have K : wc_C p_ s_ m_ a_ t_ c_ G RX7 cX7_text 5 w.length := K0
  clear K0
  refine WW_ls (ls2 := [some (eR (64)), some (eI (4)), some (eI ((-1))), none, none]) rfl ?_
  have hS : wc_same [64, 65, 67] w w := wc_same.rf
  refine ww_aload_n K dX7_text_0 rfl ?_
  refine ww_aload_n K dX7_text_1 rfl ?_
  refine ww_get K dX7_text_2 lf_X7_7 h64 rfl ?_
  refine ww_bipush (v := 6) K dX7_text_5 rfl ?_
  refine ww_iald K dX7_text_7 h65 (wc_vin (by decide)) ?_
  rw [show (upd (fun _ => 0) 8 (-1)) (6 : Int32).toNatClampNeg = 0 from rfl]
  refine ww_putX K dX7_text_8 lp_X7_32 h64 (Nat.le_of_ble_eq_true rfl) rfl rfl (fun w1 hln_w1 h64 hne_w1 => ?_)
  have h64 : w1[64]? = some (cO 7 [eR (65), eR (66), eI (0), eI (0), eI (0), eI (0), eI (0), eI (0), eI (0), eI (0), eR (67), eI (0), eI (0), eI (0), eI (0), eI (0), eI (0), eI (0), eI (0), eI (0), eI (0), eI (0), eI (0), eI (0), eI (0), eI (0), eI (0), eR (68), eR (69), eI (0), eI (0), eR (70), eR (71), eI (0), eI (0)]) := h64
  have h65 := (hne_w1 65 (by decide)).trans h65
  have h67 := (hne_w1 67 (by decide)).trans h67
  have hS := hS.put (k := 64) (by decide) hne_w1
  refine ww_aload_n K dX7_text_11 rfl ?_
  refine ww_get K dX7_text_12 lf_X7_7 h64 rfl ?_
  refine ww_bipush (v := 6) K dX7_text_15 rfl ?_
  refine ww_iconst (v := 0) K dX7_text_17 rfl ?_
  refine ww_iastX K dX7_text_18 h65 (wc_vin (by decide)) (fun w2 hln_w2 h65 hne_w2 => ?_)
  have h64 := (hne_w2 64 (by decide)).trans h64
  have h67 := (hne_w2 67 (by decide)).trans h67
  have hS := hS.put (k := 65) (by decide) hne_w2
  refine ww_aload_n K dX7_text_19 rfl ?_
  refine ww_get K dX7_text_20 lf_X7_7 h64 rfl ?_
  refine ww_bipush (v := 7) K dX7_text_23 rfl ?_
  refine ww_iconst (v := 0) K dX7_text_25 rfl ?_
  refine ww_iastX K dX7_text_26 h65 (wc_vin (by decide)) (fun w3 hln_w3 h65 hne_w3 => ?_)
  have h64 := (hne_w3 64 (by decide)).trans h64
  have h67 := (hne_w3 67 (by decide)).trans h67
  have hS := hS.put (k := 65) (by decide) hne_w3
  refine ww_aload_n K dX7_text_27 rfl ?_
  refine ww_get K dX7_text_28 lf_X7_7 h64 rfl ?_
  refine ww_bipush (v := 8) K dX7_text_31 rfl ?_
  refine ww_iconst (v := (-1)) K dX7_text_33 rfl ?_
  refine ww_iastX K dX7_text_34 h65 (wc_vin (by decide)) (fun w4 hln_w4 h65 hne_w4 => ?_)
  have h64 := (hne_w4 64 (by decide)).trans h64
  have h67 := (hne_w4 67 (by decide)).trans h67
  have hS := hS.put (k := 65) (by decide) hne_w4
  refine ww_iload_n K dX7_text_35 rfl ?_
  refine ww_iconst (v := 0) K dX7_text_36 rfl ?_
  refine ww_iconst (v := 5) K dX7_text_37 rfl ?_
  refine ww_cS K dX7_text_38 lc_X7_93 (ct_X7_isIn G l (a := 4) (b := 0) (c := 5)) rfl ⟨Nat.le_of_ble_eq_true rfl, Nat.le_of_ble_eq_true rfl⟩ (Nat.le_of_ble_eq_true rfl) ?_
  rw [show (if (4 : Int32) < 0 then 0 else if (5 : Int32) < 4 then 0 else (1 : Int32)) = 1 from rfl]
  refine ww_if_eq (tgt := 71) K dX7_text_41 rfl (fun cc_ => absurd cc_ (by decide)) (fun _ => ?_)
  refine ww_iload_n K dX7_text_44 rfl ?_
  refine ww_iconst (v := (-1)) K dX7_text_45 rfl ?_
  refine ww_icmp_ne (tgt := 62) K dX7_text_46 rfl (fun cc_ => absurd cc_ (by decide)) (fun _ => ?_)
  refine ww_aload_n K dX7_text_49 rfl ?_
  refine ww_get K dX7_text_50 lf_X7_7 h64 rfl ?_
  refine ww_iload_n K dX7_text_53 rfl ?_
  refine ww_iald K dX7_text_54 h65 (wc_vin (by decide)) ?_
  rw [show (upd (upd (upd (upd (fun _ => 0) 8 (-1)) (6 : Int32).toNatClampNeg 0) (7 : Int32).toNatClampNeg 0) (8 : Int32).toNatClampNeg (-1)) (4 : Int32).toNatClampNeg = 0 from rfl]
  refine ww_iconst (v := 2) K dX7_text_55 rfl ?_
  refine ww_icmp_lt (tgt := 74) K dX7_text_56 rfl (fun _ => ?_) (fun cc_ => absurd cc_ (by decide))
  refine ww_aload_n K dX7_text_74 rfl ?_
  refine ww_iconst (v := 0) K dX7_text_75 rfl ?_
  refine ww_putX K dX7_text_76 lp_X7_53 h64 (Nat.le_of_ble_eq_true rfl) rfl rfl (fun w5 hln_w5 h64 hne_w5 => ?_)
  have h64 : w5[64]? = some (cO 7 [eR (65), eR (66), eI (0), eI (0), eI (0), eI (0), eI (0), eI (0), eI (0), eI (0), eR (67), eI (0), eI (0), eI (0), eI (0), eI (0), eI (0), eI (0), eI (0), eI (0), eI (0), eI (0), eI (0), eI (0), eI (0), eI (0), eI (0), eR (68), eR (69), eI (0), eI (0), eR (70), eR (71), eI (0), eI (0)]) := h64
  have h65 := (hne_w5 65 (by decide)).trans h65
  have h67 := (hne_w5 67 (by decide)).trans h67
  have hS := hS.put (k := 64) (by decide) hne_w5
  refine ww_aload_n K dX7_text_79 rfl ?_
  refine ww_iconst (v := 0) K dX7_text_80 rfl ?_
  refine ww_putX K dX7_text_81 lp_X7_86 h64 (Nat.le_of_ble_eq_true rfl) rfl rfl (fun w6 hln_w6 h64 hne_w6 => ?_)
  have h64 : w6[64]? = some (cO 7 [eR (65), eR (66), eI (0), eI (0), eI (0), eI (0), eI (0), eI (0), eI (0), eI (0), eR (67), eI (0), eI (0), eI (0), eI (0), eI (0), eI (0), eI (0), eI (0), eI (0), eI (0), eI (0), eI (0), eI (0), eI (0), eI (0), eI (0), eR (68), eR (69), eI (0), eI (0), eR (70), eR (71), eI (0), eI (0)]) := h64
  have h65 := (hne_w6 65 (by decide)).trans h65
  have h67 := (hne_w6 67 (by decide)).trans h67
  have hS := hS.put (k := 64) (by decide) hne_w6
  refine ww_aload_n K dX7_text_84 rfl ?_
  refine ww_iconst (v := (-1)) K dX7_text_85 rfl ?_
  refine ww_putX K dX7_text_86 lp_X7_111 h64 (Nat.le_of_ble_eq_true rfl) rfl rfl (fun w7 hln_w7 h64 hne_w7 => ?_)
  have h64 : w7[64]? = some (cO 7 [eR (65), eR (66), eI (0), eI (0), eI (0), eI (0), eI (0), eI (0), eI (0), eI ((-1)), eR (67), eI (0), eI (0), eI (0), eI (0), eI (0), eI (0), eI (0), eI (0), eI (0), eI (0), eI (0), eI (0), eI (0), eI (0), eI (0), eI (0), eR (68), eR (69), eI (0), eI (0), eR (70), eR (71), eI (0), eI (0)]) := h64
  have h65 := (hne_w7 65 (by decide)).trans h65
  have h67 := (hne_w7 67 (by decide)).trans h67
  have hS := hS.put (k := 64) (by decide) hne_w7
  refine ww_aload_n K dX7_text_89 rfl ?_
  refine ww_iload_n K dX7_text_90 rfl ?_
  refine ww_xVv K dX7_text_91 lc_X7_148 h64 ⟨_, rfl, rfl⟩ (ct_X7_clears_4 G l h64 h67) rfl ⟨Nat.le_of_ble_eq_true rfl, Nat.le_of_ble_eq_true rfl⟩ (Nat.le_of_ble_eq_true rfl) (fun w9 hq hln_w9 => ?_)
  obtain ⟨⟨F8, e67, h67⟩, hsm⟩ := hq
  have h64 := hsm.keep h64 (by decide)
  have h65 := hsm.keep h65 (by decide)
  have hS := hS.call hsm (by decide)
  refine ww_aload_n K dX7_text_94 rfl ?_
  refine ww_xVv K dX7_text_95 lc_X7_101 h64 ⟨_, rfl, rfl⟩ (ct_X7_advance_0 G l h64) rfl ⟨Nat.le_of_ble_eq_true rfl, Nat.le_of_ble_eq_true rfl⟩ (Nat.le_of_ble_eq_true rfl) (fun w10 hq hln_w10 => ?_)
  obtain ⟨h64, hsm⟩ := hq
  have h65 := hsm.keep h65 (by decide)
  have h67 := hsm.keep h67 (by decide)
  have hS := hS.call hsm (by decide)
  refine ww_aload_n K dX7_text_98 rfl ?_
  refine ww_get K dX7_text_99 lf_X7_86 h64 rfl ?_
  refine ww_if_ne (tgt := 190) K dX7_text_102 rfl (fun cc_ => absurd cc_ (by decide)) (fun _ => ?_)
  refine ww_aload_n K dX7_text_105 rfl ?_
  refine ww_get K dX7_text_106 lf_X7_63 h64 rfl ?_
  refine ww_if_eq (tgt := 190) K dX7_text_109 rfl (fun _ => ?_) (fun cc_ => absurd cc_ (by decide))
  refine ww_aload_n K dX7_text_190 rfl ?_
  refine ww_get K dX7_text_191 lf_X7_7 h64 rfl ?_
  refine ww_bipush (v := 7) K dX7_text_194 rfl ?_
  refine ww_iald K dX7_text_196 h65 (wc_vin (by decide)) ?_
  rw [show (upd (upd (upd (upd (fun _ => 0) 8 (-1)) (6 : Int32).toNatClampNeg 0) (7 : Int32).toNatClampNeg 0) (8 : Int32).toNatClampNeg (-1)) (7 : Int32).toNatClampNeg = 0 from rfl]
  refine ww_if_ne (tgt := 226) K dX7_text_197 rfl (fun cc_ => absurd cc_ (by decide)) (fun _ => ?_)
  refine ww_iload_n K dX7_text_200 rfl ?_
  refine ww_if_ne (tgt := 226) K dX7_text_201 rfl (fun _ => ?_) (fun cc_ => absurd cc_ (by decide))
  refine ww_aload_n K dX7_text_226 rfl ?_
  refine ww_get K dX7_text_227 lf_X7_7 h64 rfl ?_
  refine ww_bipush (v := 7) K dX7_text_230 rfl ?_
  refine ww_iald K dX7_text_232 h65 (wc_vin (by decide)) ?_
  rw [show (upd (upd (upd (upd (fun _ => 0) 8 (-1)) (6 : Int32).toNatClampNeg 0) (7 : Int32).toNatClampNeg 0) (8 : Int32).toNatClampNeg (-1)) (7 : Int32).toNatClampNeg = 0 from rfl]
  refine ww_if_eq (tgt := 238) K dX7_text_233 rfl (fun _ => ?_) (fun cc_ => absurd cc_ (by decide))
  refine ww_iload_n K dX7_text_238 rfl ?_
  refine ww_iconst (v := (-1)) K dX7_text_239 rfl ?_
  refine ww_icmp_ne (tgt := 252) K dX7_text_240 rfl (fun cc_ => absurd cc_ (by decide)) (fun _ => ?_)
  refine ww_aload_n K dX7_text_243 rfl ?_
  refine ww_get K dX7_text_244 lf_X7_7 h64 rfl ?_
  refine ww_iload_n K dX7_text_247 rfl ?_
  refine ww_iald K dX7_text_248 h65 (wc_vin (by decide)) ?_
  rw [show (upd (upd (upd (upd (fun _ => 0) 8 (-1)) (6 : Int32).toNatClampNeg 0) (7 : Int32).toNatClampNeg 0) (8 : Int32).toNatClampNeg (-1)) (4 : Int32).toNatClampNeg = 0 from rfl]
  refine ww_goto (tgt := 253) K dX7_text_249 rfl ?_
  refine ww_istore_n (ls2 := [some (eR (64)), some (eI (4)), some (eI ((-1))), some (eI (0)), none]) K dX7_text_253 (by decide) rfl ?_
  refine ww_iload_n K dX7_text_254 rfl ?_
  refine ww_iconst (v := (-1)) K dX7_text_255 rfl ?_
  refine ww_icmp_ne (tgt := 269) K dX7_text_256 rfl (fun cc_ => absurd cc_ (by decide)) (fun _ => ?_)
  refine ww_aload_n K dX7_text_259 rfl ?_
  refine ww_get K dX7_text_260 lf_X7_7 h64 rfl ?_
  refine ww_iload_n K dX7_text_263 rfl ?_
  refine ww_dup2 K dX7_text_264 trivial trivial ?_
  refine ww_iald K dX7_text_265 h65 (wc_vin (by decide)) ?_
  rw [show (upd (upd (upd (upd (fun _ => 0) 8 (-1)) (6 : Int32).toNatClampNeg 0) (7 : Int32).toNatClampNeg 0) (8 : Int32).toNatClampNeg (-1)) (4 : Int32).toNatClampNeg = 0 from rfl]
  refine ww_iconst (v := 1) K dX7_text_266 rfl ?_
  refine ww_iadd K dX7_text_267 ?_
  rw [show ((0 : Int32) + 1) = 1 from rfl]
  refine ww_iastX K dX7_text_268 h65 (wc_vin (by decide)) (fun w11 hln_w11 h65 hne_w11 => ?_)
  have h64 := (hne_w11 64 (by decide)).trans h64
  have h67 := (hne_w11 67 (by decide)).trans h67
  have hS := hS.put (k := 65) (by decide) hne_w11
  refine ww_iconst (v := 0) K dX7_text_269 rfl ?_
  refine ww_istore (ls2 := [some (eR (64)), some (eI (4)), some (eI ((-1))), some (eI (0)), some (eI (0))]) K dX7_text_270 (by decide) rfl ?_
  have loop : ∀ (dd i : Nat), i + dd = 33 → ∀ (wl : EW) (A1 : Nat → Int32), wl[64]? = some (cO 7 [eR (65), eR (66), eI (0), eI (0), eI (0), eI (0), eI (0), eI (0), eI (0), eI ((-1)), eR (67), eI (0), eI (0), eI (0), eI (0), eI (0), eI (0), eI (0), eI (0), eI (0), eI (0), eI (0), eI (0), eI (0), eI (0), eI (0), eI (0), eR (68), eR (69), eI (0), eI (0), eR (70), eR (71), eI (0), eI (0)]) → wl[65]? = some (cI 0 5768 A1) → wl[67]? = some (cI 0 201 F8) → wc_same [64, 65, 67] w wl → WW p_ l e_ (wc_rm 2 0 0) s_ m_ a_ b_ t_ c_ (MQ b_ (wc_Q G w 0 0 (fun r w2 => (∃ x : Int32, r = some (eI x) ∧ (x = 0 ∧ wc_same [64, 65, 67] w w2)))) a_ s_ 0 0 (wc_A G)) G 5 w.length (wc_SL w) 0 0 272 [some (eR (64)), some (eI (4)), some (eI ((-1))), some (eI (0)), some (eI ((nI i)))] [] wl := by
    intro dd
    induction dd with
    | zero =>
      intro i hi wl A1 h64 h65 h67  hS
      have hh : i = 33 := by omega
      subst hh
      refine ww_iload K dX7_text_272 rfl ?_
      refine ww_iload_n K dX7_text_274 rfl ?_
      refine ww_cS K dX7_text_275 lc_X7_169 (ct_X7_sizeOf_4 G l) rfl ⟨Nat.le_of_ble_eq_true rfl, Nat.le_of_ble_eq_true rfl⟩ (Nat.le_of_ble_eq_true rfl) ?_
      refine ww_icmp_ge (tgt := 307) K dX7_text_278 rfl (fun _ => ?_) (fun cc_ => absurd (by decide) cc_)
      refine ww_iload_n K dX7_text_307 rfl ?_
      exact ww_iret K dX7_text_308 hr ⟨_, rfl, rfl, hS⟩
    | succ dd ih =>
      intro i hi wl A1 h64 h65 h67  hS
      have hlt : i < 33 := by omega
      refine ww_iload K dX7_text_272 rfl ?_
      refine ww_iload_n K dX7_text_274 rfl ?_
      refine ww_cS K dX7_text_275 lc_X7_169 (ct_X7_sizeOf_4 G l) rfl ⟨Nat.le_of_ble_eq_true rfl, Nat.le_of_ble_eq_true rfl⟩ (Nat.le_of_ble_eq_true rfl) ?_
      refine ww_icmp_ge (tgt := 307) K dX7_text_278 rfl (fun cc_ => absurd cc_ (nI_ge hlt (by decide))) (fun _ => ?_)
      refine ww_aload_n K dX7_text_281 rfl ?_
      refine ww_get K dX7_text_282 lf_X7_7 h64 rfl ?_
      refine ww_iload_n K dX7_text_285 rfl ?_
      refine ww_iload_n K dX7_text_286 rfl ?_
      refine ww_cS K dX7_text_287 lc_X7_172 (ct_X7_placeOf_4 G l) rfl ⟨Nat.le_of_ble_eq_true rfl, Nat.le_of_ble_eq_true rfl⟩ (Nat.le_of_ble_eq_true rfl) ?_
      refine ww_iload K dX7_text_290 rfl ?_
      refine ww_iadd K dX7_text_292 ?_
      rw [show (1364 + (nI i)) = (nI (1364 + i)) from nI_add 1364 i]
      refine ww_aload_n K dX7_text_293 rfl ?_
      refine ww_get K dX7_text_294 lf_X7_17 h64 rfl ?_
      refine ww_iload K dX7_text_297 rfl ?_
      refine ww_iald K dX7_text_299 h67 (vp_in_nI (by omega) (by decide)) ?_
      refine ww_iastX K dX7_text_300 h65 (vp_in_nI (by omega) (by decide)) (fun wa hlna h65 hnea => ?_)
      have h64 := (hnea 64 (by decide)).trans h64
      have h67 := (hnea 67 (by decide)).trans h67
      have hS := hS.put (k := 65) (by decide) hnea
      refine ww_iinc (ls2 := [some (eR (64)), some (eI (4)), some (eI ((-1))), some (eI (0)), some (eI (((nI i) + 1)))]) K dX7_text_301 (by decide) rfl rfl ?_
      refine ww_goto (tgt := 272) K dX7_text_304 rfl ?_
      rw [show (nI i + 1) = nI (i + 1) from nI_1 i]
      exact ih (i + 1) (by omega) _ _ h64 h65 h67  hS
  exact loop 33 0 rfl _ _ h64 h65 h67  hS
set_option maxRecDepth 100000 in
set_option maxHeartbeats 4000000 in
theorem ct_X7_text_5 (G : EG) (l : Launch) {w : EW} {f1 : Nat → Int32} (h64 : w[64]? = some (cO 7 [eR (65), eR (66), eI (0), eI (0), eI (0), eI (0), eI (0), eI (0), eI (0), eI (0), eR (67), eI (0), eI (0), eI (0), eI (0), eI (0), eI (0), eI (0), eI (0), eI (0), eI (0), eI (0), eI (0), eI (0), eI (0), eI (0), eI (0), eR (68), eR (69), eI (0), eI (0), eR (70), eR (71), eI (0), eI (0)])) (h65 : w[65]? = some (cI 0 5768 (upd (fun _ => 0) 8 (-1)))) (h67 : w[67]? = some (cI 0 201 f1)) : Ct G l yX7_text cX7_text 5 (some .int) 2 0 0 [eR (64), eI (5), eI ((-1))] w (fun r w2 => (∃ x : Int32, r = some (eI x) ∧ (x = 0 ∧ wc_same [64, 65, 67] w w2))) := by
  refine Ct_of (by decide +kernel) (Nat.le_of_ble_eq_true rfl) ?_
  intro p_ e_ s_ m_ a_ b_ t_ c_ K0 hr hin
  have K : wc_C p_ s_ m_ a_ t_ c_ G RX7 cX7_text 5 w.length := K0
  clear K0
  refine WW_ls (ls2 := [some (eR (64)), some (eI (5)), some (eI ((-1))), none, none]) rfl ?_
  have hS : wc_same [64, 65, 67] w w := wc_same.rf
  refine ww_aload_n K dX7_text_0 rfl ?_
  refine ww_aload_n K dX7_text_1 rfl ?_
  refine ww_get K dX7_text_2 lf_X7_7 h64 rfl ?_
  refine ww_bipush (v := 6) K dX7_text_5 rfl ?_
  refine ww_iald K dX7_text_7 h65 (wc_vin (by decide)) ?_
  rw [show (upd (fun _ => 0) 8 (-1)) (6 : Int32).toNatClampNeg = 0 from rfl]
  refine ww_putX K dX7_text_8 lp_X7_32 h64 (Nat.le_of_ble_eq_true rfl) rfl rfl (fun w1 hln_w1 h64 hne_w1 => ?_)
  have h64 : w1[64]? = some (cO 7 [eR (65), eR (66), eI (0), eI (0), eI (0), eI (0), eI (0), eI (0), eI (0), eI (0), eR (67), eI (0), eI (0), eI (0), eI (0), eI (0), eI (0), eI (0), eI (0), eI (0), eI (0), eI (0), eI (0), eI (0), eI (0), eI (0), eI (0), eR (68), eR (69), eI (0), eI (0), eR (70), eR (71), eI (0), eI (0)]) := h64
  have h65 := (hne_w1 65 (by decide)).trans h65
  have h67 := (hne_w1 67 (by decide)).trans h67
  have hS := hS.put (k := 64) (by decide) hne_w1
  refine ww_aload_n K dX7_text_11 rfl ?_
  refine ww_get K dX7_text_12 lf_X7_7 h64 rfl ?_
  refine ww_bipush (v := 6) K dX7_text_15 rfl ?_
  refine ww_iconst (v := 0) K dX7_text_17 rfl ?_
  refine ww_iastX K dX7_text_18 h65 (wc_vin (by decide)) (fun w2 hln_w2 h65 hne_w2 => ?_)
  have h64 := (hne_w2 64 (by decide)).trans h64
  have h67 := (hne_w2 67 (by decide)).trans h67
  have hS := hS.put (k := 65) (by decide) hne_w2
  refine ww_aload_n K dX7_text_19 rfl ?_
  refine ww_get K dX7_text_20 lf_X7_7 h64 rfl ?_
  refine ww_bipush (v := 7) K dX7_text_23 rfl ?_
  refine ww_iconst (v := 0) K dX7_text_25 rfl ?_
  refine ww_iastX K dX7_text_26 h65 (wc_vin (by decide)) (fun w3 hln_w3 h65 hne_w3 => ?_)
  have h64 := (hne_w3 64 (by decide)).trans h64
  have h67 := (hne_w3 67 (by decide)).trans h67
  have hS := hS.put (k := 65) (by decide) hne_w3
  refine ww_aload_n K dX7_text_27 rfl ?_
  refine ww_get K dX7_text_28 lf_X7_7 h64 rfl ?_
  refine ww_bipush (v := 8) K dX7_text_31 rfl ?_
  refine ww_iconst (v := (-1)) K dX7_text_33 rfl ?_
  refine ww_iastX K dX7_text_34 h65 (wc_vin (by decide)) (fun w4 hln_w4 h65 hne_w4 => ?_)
  have h64 := (hne_w4 64 (by decide)).trans h64
  have h67 := (hne_w4 67 (by decide)).trans h67
  have hS := hS.put (k := 65) (by decide) hne_w4
  refine ww_iload_n K dX7_text_35 rfl ?_
  refine ww_iconst (v := 0) K dX7_text_36 rfl ?_
  refine ww_iconst (v := 5) K dX7_text_37 rfl ?_
  refine ww_cS K dX7_text_38 lc_X7_93 (ct_X7_isIn G l (a := 5) (b := 0) (c := 5)) rfl ⟨Nat.le_of_ble_eq_true rfl, Nat.le_of_ble_eq_true rfl⟩ (Nat.le_of_ble_eq_true rfl) ?_
  rw [show (if (5 : Int32) < 0 then 0 else if (5 : Int32) < 5 then 0 else (1 : Int32)) = 1 from rfl]
  refine ww_if_eq (tgt := 71) K dX7_text_41 rfl (fun cc_ => absurd cc_ (by decide)) (fun _ => ?_)
  refine ww_iload_n K dX7_text_44 rfl ?_
  refine ww_iconst (v := (-1)) K dX7_text_45 rfl ?_
  refine ww_icmp_ne (tgt := 62) K dX7_text_46 rfl (fun cc_ => absurd cc_ (by decide)) (fun _ => ?_)
  refine ww_aload_n K dX7_text_49 rfl ?_
  refine ww_get K dX7_text_50 lf_X7_7 h64 rfl ?_
  refine ww_iload_n K dX7_text_53 rfl ?_
  refine ww_iald K dX7_text_54 h65 (wc_vin (by decide)) ?_
  rw [show (upd (upd (upd (upd (fun _ => 0) 8 (-1)) (6 : Int32).toNatClampNeg 0) (7 : Int32).toNatClampNeg 0) (8 : Int32).toNatClampNeg (-1)) (5 : Int32).toNatClampNeg = 0 from rfl]
  refine ww_iconst (v := 2) K dX7_text_55 rfl ?_
  refine ww_icmp_lt (tgt := 74) K dX7_text_56 rfl (fun _ => ?_) (fun cc_ => absurd cc_ (by decide))
  refine ww_aload_n K dX7_text_74 rfl ?_
  refine ww_iconst (v := 0) K dX7_text_75 rfl ?_
  refine ww_putX K dX7_text_76 lp_X7_53 h64 (Nat.le_of_ble_eq_true rfl) rfl rfl (fun w5 hln_w5 h64 hne_w5 => ?_)
  have h64 : w5[64]? = some (cO 7 [eR (65), eR (66), eI (0), eI (0), eI (0), eI (0), eI (0), eI (0), eI (0), eI (0), eR (67), eI (0), eI (0), eI (0), eI (0), eI (0), eI (0), eI (0), eI (0), eI (0), eI (0), eI (0), eI (0), eI (0), eI (0), eI (0), eI (0), eR (68), eR (69), eI (0), eI (0), eR (70), eR (71), eI (0), eI (0)]) := h64
  have h65 := (hne_w5 65 (by decide)).trans h65
  have h67 := (hne_w5 67 (by decide)).trans h67
  have hS := hS.put (k := 64) (by decide) hne_w5
  refine ww_aload_n K dX7_text_79 rfl ?_
  refine ww_iconst (v := 0) K dX7_text_80 rfl ?_
  refine ww_putX K dX7_text_81 lp_X7_86 h64 (Nat.le_of_ble_eq_true rfl) rfl rfl (fun w6 hln_w6 h64 hne_w6 => ?_)
  have h64 : w6[64]? = some (cO 7 [eR (65), eR (66), eI (0), eI (0), eI (0), eI (0), eI (0), eI (0), eI (0), eI (0), eR (67), eI (0), eI (0), eI (0), eI (0), eI (0), eI (0), eI (0), eI (0), eI (0), eI (0), eI (0), eI (0), eI (0), eI (0), eI (0), eI (0), eR (68), eR (69), eI (0), eI (0), eR (70), eR (71), eI (0), eI (0)]) := h64
  have h65 := (hne_w6 65 (by decide)).trans h65
  have h67 := (hne_w6 67 (by decide)).trans h67
  have hS := hS.put (k := 64) (by decide) hne_w6
  refine ww_aload_n K dX7_text_84 rfl ?_
  refine ww_iconst (v := (-1)) K dX7_text_85 rfl ?_
  refine ww_putX K dX7_text_86 lp_X7_111 h64 (Nat.le_of_ble_eq_true rfl) rfl rfl (fun w7 hln_w7 h64 hne_w7 => ?_)
  have h64 : w7[64]? = some (cO 7 [eR (65), eR (66), eI (0), eI (0), eI (0), eI (0), eI (0), eI (0), eI (0), eI ((-1)), eR (67), eI (0), eI (0), eI (0), eI (0), eI (0), eI (0), eI (0), eI (0), eI (0), eI (0), eI (0), eI (0), eI (0), eI (0), eI (0), eI (0), eR (68), eR (69), eI (0), eI (0), eR (70), eR (71), eI (0), eI (0)]) := h64
  have h65 := (hne_w7 65 (by decide)).trans h65
  have h67 := (hne_w7 67 (by decide)).trans h67
  have hS := hS.put (k := 64) (by decide) hne_w7
  refine ww_aload_n K dX7_text_89 rfl ?_
  refine ww_iload_n K dX7_text_90 rfl ?_
  refine ww_xVv K dX7_text_91 lc_X7_148 h64 ⟨_, rfl, rfl⟩ (ct_X7_clears_5 G l h64 h67) rfl ⟨Nat.le_of_ble_eq_true rfl, Nat.le_of_ble_eq_true rfl⟩ (Nat.le_of_ble_eq_true rfl) (fun w9 hq hln_w9 => ?_)
  obtain ⟨⟨F8, e67, h67⟩, hsm⟩ := hq
  have h64 := hsm.keep h64 (by decide)
  have h65 := hsm.keep h65 (by decide)
  have hS := hS.call hsm (by decide)
  refine ww_aload_n K dX7_text_94 rfl ?_
  refine ww_xVv K dX7_text_95 lc_X7_101 h64 ⟨_, rfl, rfl⟩ (ct_X7_advance_0 G l h64) rfl ⟨Nat.le_of_ble_eq_true rfl, Nat.le_of_ble_eq_true rfl⟩ (Nat.le_of_ble_eq_true rfl) (fun w10 hq hln_w10 => ?_)
  obtain ⟨h64, hsm⟩ := hq
  have h65 := hsm.keep h65 (by decide)
  have h67 := hsm.keep h67 (by decide)
  have hS := hS.call hsm (by decide)
  refine ww_aload_n K dX7_text_98 rfl ?_
  refine ww_get K dX7_text_99 lf_X7_86 h64 rfl ?_
  refine ww_if_ne (tgt := 190) K dX7_text_102 rfl (fun cc_ => absurd cc_ (by decide)) (fun _ => ?_)
  refine ww_aload_n K dX7_text_105 rfl ?_
  refine ww_get K dX7_text_106 lf_X7_63 h64 rfl ?_
  refine ww_if_eq (tgt := 190) K dX7_text_109 rfl (fun _ => ?_) (fun cc_ => absurd cc_ (by decide))
  refine ww_aload_n K dX7_text_190 rfl ?_
  refine ww_get K dX7_text_191 lf_X7_7 h64 rfl ?_
  refine ww_bipush (v := 7) K dX7_text_194 rfl ?_
  refine ww_iald K dX7_text_196 h65 (wc_vin (by decide)) ?_
  rw [show (upd (upd (upd (upd (fun _ => 0) 8 (-1)) (6 : Int32).toNatClampNeg 0) (7 : Int32).toNatClampNeg 0) (8 : Int32).toNatClampNeg (-1)) (7 : Int32).toNatClampNeg = 0 from rfl]
  refine ww_if_ne (tgt := 226) K dX7_text_197 rfl (fun cc_ => absurd cc_ (by decide)) (fun _ => ?_)
  refine ww_iload_n K dX7_text_200 rfl ?_
  refine ww_if_ne (tgt := 226) K dX7_text_201 rfl (fun _ => ?_) (fun cc_ => absurd cc_ (by decide))
  refine ww_aload_n K dX7_text_226 rfl ?_
  refine ww_get K dX7_text_227 lf_X7_7 h64 rfl ?_
  refine ww_bipush (v := 7) K dX7_text_230 rfl ?_
  refine ww_iald K dX7_text_232 h65 (wc_vin (by decide)) ?_
  rw [show (upd (upd (upd (upd (fun _ => 0) 8 (-1)) (6 : Int32).toNatClampNeg 0) (7 : Int32).toNatClampNeg 0) (8 : Int32).toNatClampNeg (-1)) (7 : Int32).toNatClampNeg = 0 from rfl]
  refine ww_if_eq (tgt := 238) K dX7_text_233 rfl (fun _ => ?_) (fun cc_ => absurd cc_ (by decide))
  refine ww_iload_n K dX7_text_238 rfl ?_
  refine ww_iconst (v := (-1)) K dX7_text_239 rfl ?_
  refine ww_icmp_ne (tgt := 252) K dX7_text_240 rfl (fun cc_ => absurd cc_ (by decide)) (fun _ => ?_)
  refine ww_aload_n K dX7_text_243 rfl ?_
  refine ww_get K dX7_text_244 lf_X7_7 h64 rfl ?_
  refine ww_iload_n K dX7_text_247 rfl ?_
  refine ww_iald K dX7_text_248 h65 (wc_vin (by decide)) ?_
  rw [show (upd (upd (upd (upd (fun _ => 0) 8 (-1)) (6 : Int32).toNatClampNeg 0) (7 : Int32).toNatClampNeg 0) (8 : Int32).toNatClampNeg (-1)) (5 : Int32).toNatClampNeg = 0 from rfl]
  refine ww_goto (tgt := 253) K dX7_text_249 rfl ?_
  refine ww_istore_n (ls2 := [some (eR (64)), some (eI (5)), some (eI ((-1))), some (eI (0)), none]) K dX7_text_253 (by decide) rfl ?_
  refine ww_iload_n K dX7_text_254 rfl ?_
  refine ww_iconst (v := (-1)) K dX7_text_255 rfl ?_
  refine ww_icmp_ne (tgt := 269) K dX7_text_256 rfl (fun cc_ => absurd cc_ (by decide)) (fun _ => ?_)
  refine ww_aload_n K dX7_text_259 rfl ?_
  refine ww_get K dX7_text_260 lf_X7_7 h64 rfl ?_
  refine ww_iload_n K dX7_text_263 rfl ?_
  refine ww_dup2 K dX7_text_264 trivial trivial ?_
  refine ww_iald K dX7_text_265 h65 (wc_vin (by decide)) ?_
  rw [show (upd (upd (upd (upd (fun _ => 0) 8 (-1)) (6 : Int32).toNatClampNeg 0) (7 : Int32).toNatClampNeg 0) (8 : Int32).toNatClampNeg (-1)) (5 : Int32).toNatClampNeg = 0 from rfl]
  refine ww_iconst (v := 1) K dX7_text_266 rfl ?_
  refine ww_iadd K dX7_text_267 ?_
  rw [show ((0 : Int32) + 1) = 1 from rfl]
  refine ww_iastX K dX7_text_268 h65 (wc_vin (by decide)) (fun w11 hln_w11 h65 hne_w11 => ?_)
  have h64 := (hne_w11 64 (by decide)).trans h64
  have h67 := (hne_w11 67 (by decide)).trans h67
  have hS := hS.put (k := 65) (by decide) hne_w11
  refine ww_iconst (v := 0) K dX7_text_269 rfl ?_
  refine ww_istore (ls2 := [some (eR (64)), some (eI (5)), some (eI ((-1))), some (eI (0)), some (eI (0))]) K dX7_text_270 (by decide) rfl ?_
  have loop : ∀ (dd i : Nat), i + dd = 6 → ∀ (wl : EW) (A1 : Nat → Int32), wl[64]? = some (cO 7 [eR (65), eR (66), eI (0), eI (0), eI (0), eI (0), eI (0), eI (0), eI (0), eI ((-1)), eR (67), eI (0), eI (0), eI (0), eI (0), eI (0), eI (0), eI (0), eI (0), eI (0), eI (0), eI (0), eI (0), eI (0), eI (0), eI (0), eI (0), eR (68), eR (69), eI (0), eI (0), eR (70), eR (71), eI (0), eI (0)]) → wl[65]? = some (cI 0 5768 A1) → wl[67]? = some (cI 0 201 F8) → wc_same [64, 65, 67] w wl → WW p_ l e_ (wc_rm 2 0 0) s_ m_ a_ b_ t_ c_ (MQ b_ (wc_Q G w 0 0 (fun r w2 => (∃ x : Int32, r = some (eI x) ∧ (x = 0 ∧ wc_same [64, 65, 67] w w2)))) a_ s_ 0 0 (wc_A G)) G 5 w.length (wc_SL w) 0 0 272 [some (eR (64)), some (eI (5)), some (eI ((-1))), some (eI (0)), some (eI ((nI i)))] [] wl := by
    intro dd
    induction dd with
    | zero =>
      intro i hi wl A1 h64 h65 h67  hS
      have hh : i = 6 := by omega
      subst hh
      refine ww_iload K dX7_text_272 rfl ?_
      refine ww_iload_n K dX7_text_274 rfl ?_
      refine ww_cS K dX7_text_275 lc_X7_169 (ct_X7_sizeOf_5 G l) rfl ⟨Nat.le_of_ble_eq_true rfl, Nat.le_of_ble_eq_true rfl⟩ (Nat.le_of_ble_eq_true rfl) ?_
      refine ww_icmp_ge (tgt := 307) K dX7_text_278 rfl (fun _ => ?_) (fun cc_ => absurd (by decide) cc_)
      refine ww_iload_n K dX7_text_307 rfl ?_
      exact ww_iret K dX7_text_308 hr ⟨_, rfl, rfl, hS⟩
    | succ dd ih =>
      intro i hi wl A1 h64 h65 h67  hS
      have hlt : i < 6 := by omega
      refine ww_iload K dX7_text_272 rfl ?_
      refine ww_iload_n K dX7_text_274 rfl ?_
      refine ww_cS K dX7_text_275 lc_X7_169 (ct_X7_sizeOf_5 G l) rfl ⟨Nat.le_of_ble_eq_true rfl, Nat.le_of_ble_eq_true rfl⟩ (Nat.le_of_ble_eq_true rfl) ?_
      refine ww_icmp_ge (tgt := 307) K dX7_text_278 rfl (fun cc_ => absurd cc_ (nI_ge hlt (by decide))) (fun _ => ?_)
      refine ww_aload_n K dX7_text_281 rfl ?_
      refine ww_get K dX7_text_282 lf_X7_7 h64 rfl ?_
      refine ww_iload_n K dX7_text_285 rfl ?_
      refine ww_iload_n K dX7_text_286 rfl ?_
      refine ww_cS K dX7_text_287 lc_X7_172 (ct_X7_placeOf_5 G l) rfl ⟨Nat.le_of_ble_eq_true rfl, Nat.le_of_ble_eq_true rfl⟩ (Nat.le_of_ble_eq_true rfl) ?_
      refine ww_iload K dX7_text_290 rfl ?_
      refine ww_iadd K dX7_text_292 ?_
      rw [show (1430 + (nI i)) = (nI (1430 + i)) from nI_add 1430 i]
      refine ww_aload_n K dX7_text_293 rfl ?_
      refine ww_get K dX7_text_294 lf_X7_17 h64 rfl ?_
      refine ww_iload K dX7_text_297 rfl ?_
      refine ww_iald K dX7_text_299 h67 (vp_in_nI (by omega) (by decide)) ?_
      refine ww_iastX K dX7_text_300 h65 (vp_in_nI (by omega) (by decide)) (fun wa hlna h65 hnea => ?_)
      have h64 := (hnea 64 (by decide)).trans h64
      have h67 := (hnea 67 (by decide)).trans h67
      have hS := hS.put (k := 65) (by decide) hnea
      refine ww_iinc (ls2 := [some (eR (64)), some (eI (5)), some (eI ((-1))), some (eI (0)), some (eI (((nI i) + 1)))]) K dX7_text_301 (by decide) rfl rfl ?_
      refine ww_goto (tgt := 272) K dX7_text_304 rfl ?_
      rw [show (nI i + 1) = nI (i + 1) from nI_1 i]
      exact ih (i + 1) (by omega) _ _ h64 h65 h67  hS
  exact loop 6 0 rfl _ _ h64 h65 h67  hS
theorem wc_A3 {A : Nat → Int32} (hA : ∀ k, k < 6 → A k = 0) (x y z : Int32) : ∀ k, k < 6 → upd (upd (upd A (6 : Int32).toNatClampNeg x) (7 : Int32).toNatClampNeg y) (8 : Int32).toNatClampNeg z k = 0 := by
  intro k hk
  have e6 : (6 : Int32).toNatClampNeg = 6 := rfl
  have e7 : (7 : Int32).toNatClampNeg = 7 := rfl
  have e8 : (8 : Int32).toNatClampNeg = 8 := rfl
  rw [e6, e7, e8, pk_un (by omega), pk_un (by omega), pk_un (by omega)]
  exact hA k hk
set_option maxRecDepth 100000 in
set_option maxHeartbeats 4000000 in
theorem ct_X7_isOf_z (G : EG) (l : Launch) {w : EW} {A : Nat → Int32} {j a : Int32} (hj : vp_in j 6) (hz : ∀ k, k < 6 → A k = 0) (h64 : w[64]? = some (cO 7 [eR (65), eR (66), eI (0), eI (0), eI (0), eI (0), eI (0), eI (0), eI (0), eI (0), eR (67), eI (0), eI (0), eI (0), eI (0), eI (0), eI (0), eI (0), eI (0), eI (0), eI (0), eI (0), eI (0), eI (0), eI (0), eI (0), eI (0), eR (68), eR (69), eI (0), eI (0), eR (70), eR (71), eI (0), eI (0)])) (h65 : w[65]? = some (cI 0 5768 A)) : Ct G l yX7_isOf cX7_isOf 3 (some .boolean) 1 0 0 [eR (64), eI (j), eI (a)] w (fun r w2 => r = some (eI 0) ∧ w2 = w) := by
  refine Ct_of (by decide +kernel) (Nat.le_of_ble_eq_true rfl) ?_
  intro p_ e_ s_ m_ a_ b_ t_ c_ K0 hr hin
  have K : wc_C p_ s_ m_ a_ t_ c_ G RX7 cX7_isOf 3 w.length := K0
  clear K0
  refine WW_ls (ls2 := [some (eR (64)), some (eI (j)), some (eI (a))]) rfl ?_
  have hS : wc_same [0] w w := wc_same.rf
  refine ww_iload_n K dX7_isOf_0 rfl ?_
  refine ww_iconst (v := 0) K dX7_isOf_1 rfl ?_
  refine ww_aload_n K dX7_isOf_2 rfl ?_
  refine ww_get K dX7_isOf_3 lf_X7_7 h64 rfl ?_
  refine ww_iload_n K dX7_isOf_6 rfl ?_
  refine ww_iald K dX7_isOf_7 h65 (wc_in_le hj (by decide)) ?_
  rw [show A j.toNatClampNeg = 0 from hz _ (wc_cl_lt hj)]
  refine ww_iconst (v := 1) K dX7_isOf_8 rfl ?_
  refine ww_isub K dX7_isOf_9 ?_
  rw [show ((0 : Int32) - 1) = (-1) from rfl]
  refine ww_cS K dX7_isOf_10 lc_X7_93 (ct_X7_isIn G l (a := a) (b := 0) (c := (-1))) rfl ⟨Nat.le_of_ble_eq_true rfl, Nat.le_of_ble_eq_true rfl⟩ (Nat.le_of_ble_eq_true rfl) ?_
  rw [wc_none]
  exact ww_zret K rfl dX7_isOf_13 hr ⟨rfl, rfl⟩
set_option maxRecDepth 100000 in
set_option maxHeartbeats 4000000 in
theorem ct_X7_text_bad (G : EG) (l : Launch) {w : EW} {a b : Int32} (hb : a < 0 ∨ 5 < a ∨ ¬ b = -1) (h64 : w[64]? = some (cO 7 [eR (65), eR (66), eI (0), eI (0), eI (0), eI (0), eI (0), eI (0), eI (0), eI (0), eR (67), eI (0), eI (0), eI (0), eI (0), eI (0), eI (0), eI (0), eI (0), eI (0), eI (0), eI (0), eI (0), eI (0), eI (0), eI (0), eI (0), eR (68), eR (69), eI (0), eI (0), eR (70), eR (71), eI (0), eI (0)])) (h65 : w[65]? = some (cI 0 5768 (upd (fun _ => 0) 8 (-1)))) : Ct G l yX7_text cX7_text 5 (some .int) 2 0 0 [eR (64), eI (a), eI (b)] w (fun r w2 => (∃ x : Int32, r = some (eI x) ∧ (x = -2 ∧ wc_same [64, 65] w w2))) := by
  refine Ct_of (by decide +kernel) (Nat.le_of_ble_eq_true rfl) ?_
  intro p_ e_ s_ m_ a_ b_ t_ c_ K0 hr hin
  have K : wc_C p_ s_ m_ a_ t_ c_ G RX7 cX7_text 5 w.length := K0
  clear K0
  refine WW_ls (ls2 := [some (eR (64)), some (eI (a)), some (eI (b)), none, none]) rfl ?_
  have hS : wc_same [64, 65] w w := wc_same.rf
  refine ww_aload_n K dX7_text_0 rfl ?_
  refine ww_aload_n K dX7_text_1 rfl ?_
  refine ww_get K dX7_text_2 lf_X7_7 h64 rfl ?_
  refine ww_bipush (v := 6) K dX7_text_5 rfl ?_
  refine ww_iald K dX7_text_7 h65 (wc_vin (by decide)) ?_
  rw [show (upd (fun _ => 0) 8 (-1)) (6 : Int32).toNatClampNeg = 0 from rfl]
  refine ww_putX K dX7_text_8 lp_X7_32 h64 (Nat.le_of_ble_eq_true rfl) rfl rfl (fun w1 hln_w1 h64 hne_w1 => ?_)
  have h64 : w1[64]? = some (cO 7 [eR (65), eR (66), eI (0), eI (0), eI (0), eI (0), eI (0), eI (0), eI (0), eI (0), eR (67), eI (0), eI (0), eI (0), eI (0), eI (0), eI (0), eI (0), eI (0), eI (0), eI (0), eI (0), eI (0), eI (0), eI (0), eI (0), eI (0), eR (68), eR (69), eI (0), eI (0), eR (70), eR (71), eI (0), eI (0)]) := h64
  have h65 := (hne_w1 65 (by decide)).trans h65
  have hS := hS.put (k := 64) (by decide) hne_w1
  refine ww_aload_n K dX7_text_11 rfl ?_
  refine ww_get K dX7_text_12 lf_X7_7 h64 rfl ?_
  refine ww_bipush (v := 6) K dX7_text_15 rfl ?_
  refine ww_iconst (v := 0) K dX7_text_17 rfl ?_
  refine ww_iastX K dX7_text_18 h65 (wc_vin (by decide)) (fun w2 hln_w2 h65 hne_w2 => ?_)
  have h64 := (hne_w2 64 (by decide)).trans h64
  have hS := hS.put (k := 65) (by decide) hne_w2
  refine ww_aload_n K dX7_text_19 rfl ?_
  refine ww_get K dX7_text_20 lf_X7_7 h64 rfl ?_
  refine ww_bipush (v := 7) K dX7_text_23 rfl ?_
  refine ww_iconst (v := 0) K dX7_text_25 rfl ?_
  refine ww_iastX K dX7_text_26 h65 (wc_vin (by decide)) (fun w3 hln_w3 h65 hne_w3 => ?_)
  have h64 := (hne_w3 64 (by decide)).trans h64
  have hS := hS.put (k := 65) (by decide) hne_w3
  refine ww_aload_n K dX7_text_27 rfl ?_
  refine ww_get K dX7_text_28 lf_X7_7 h64 rfl ?_
  refine ww_bipush (v := 8) K dX7_text_31 rfl ?_
  refine ww_iconst (v := (-1)) K dX7_text_33 rfl ?_
  refine ww_iastX K dX7_text_34 h65 (wc_vin (by decide)) (fun w4 hln_w4 h65 hne_w4 => ?_)
  have h64 := (hne_w4 64 (by decide)).trans h64
  have hS := hS.put (k := 65) (by decide) hne_w4
  refine ww_iload_n K dX7_text_35 rfl ?_
  refine ww_iconst (v := 0) K dX7_text_36 rfl ?_
  refine ww_iconst (v := 5) K dX7_text_37 rfl ?_
  refine ww_cS K dX7_text_38 lc_X7_93 (ct_X7_isIn G l (a := a) (b := 0) (c := 5)) rfl ⟨Nat.le_of_ble_eq_true rfl, Nat.le_of_ble_eq_true rfl⟩ (Nat.le_of_ble_eq_true rfl) ?_
  refine ww_if_eq (tgt := 71) K dX7_text_41 rfl (fun c_41 => ?_) (fun c_41 => ?_)
  · refine ww_bipush (v := (-2)) K dX7_text_71 rfl ?_
    exact ww_iret K dX7_text_73 hr ⟨_, rfl, rfl, hS⟩
  · refine ww_iload_n K dX7_text_44 rfl ?_
    refine ww_iconst (v := (-1)) K dX7_text_45 rfl ?_
    refine ww_icmp_ne (tgt := 62) K dX7_text_46 rfl (fun _ => ?_) (fun cc_ => absurd cc_ ((hb.resolve_left (fun q => c_41 ((wc_z a 5).mpr (Or.inl q)))).resolve_left (fun q => c_41 ((wc_z a 5).mpr (Or.inr q)))))
    refine ww_aload_n K dX7_text_62 rfl ?_
    refine ww_iload_n K dX7_text_63 rfl ?_
    refine ww_iload_n K dX7_text_64 rfl ?_
    refine ww_cV K dX7_text_65 lc_X7_144 h64 ⟨_, rfl, rfl⟩ (ct_X7_isOf_z G l (j := a) (a := b) (wc_inN (n := 6) rfl c_41) (wc_A3 (fun k hk => wc_A0 hk) _ _ _) h64 h65) rfl ⟨Nat.le_of_ble_eq_true rfl, Nat.le_of_ble_eq_true rfl⟩ (Nat.le_of_ble_eq_true rfl) ?_
    refine ww_if_ne (tgt := 74) K dX7_text_68 rfl (fun cc_ => absurd cc_ (by decide)) (fun _ => ?_)
    refine ww_bipush (v := (-2)) K dX7_text_71 rfl ?_
    exact ww_iret K dX7_text_73 hr ⟨_, rfl, rfl, hS⟩
set_option maxRecDepth 100000 in
set_option maxHeartbeats 4000000 in
theorem ct_X7_image_0 (G : EG) (l : Launch) {w : EW}  (h64 : w[64]? = some (cO 7 [eR (65), eR (66), eI (0), eI (0), eI (0), eI (0), eI (0), eI (0), eI (0), eI (0), eR (67), eI (0), eI (0), eI (0), eI (0), eI (0), eI (0), eI (0), eI (0), eI (0), eI (0), eI (0), eI (0), eI (0), eI (0), eI (0), eI (0), eR (68), eR (69), eI (0), eI (0), eR (70), eR (71), eI (0), eI (0)])) (h65 : w[65]? = some (cI 0 5768 (upd (fun _ => 0) 8 (-1)))) (h66 : w[66]? = some (cI 1 3 (fun _ => 0))) : Ct G l yX7_image cX7_image 3 (some .boolean) 1 0 0 [eR (64), eI (0)] w (fun r w2 => (∃ x : Int32, r = some (eI x) ∧ (x = 1 ∧ wc_same [65, 66] w w2))) := by
  refine Ct_of (by decide +kernel) (Nat.le_of_ble_eq_true rfl) ?_
  intro p_ e_ s_ m_ a_ b_ t_ c_ K0 hr hin
  have K : wc_C p_ s_ m_ a_ t_ c_ G RX7 cX7_image 3 w.length := K0
  clear K0
  refine WW_ls (ls2 := [some (eR (64)), some (eI (0)), none]) rfl ?_
  have hS : wc_same [65, 66] w w := wc_same.rf
  refine ww_iload_n K dX7_image_0 rfl ?_
  refine ww_iconst (v := 0) K dX7_image_1 rfl ?_
  refine ww_iconst (v := 2) K dX7_image_2 rfl ?_
  refine ww_cS K dX7_image_3 lc_X7_93 (ct_X7_isIn G l (a := 0) (b := 0) (c := 2)) rfl ⟨Nat.le_of_ble_eq_true rfl, Nat.le_of_ble_eq_true rfl⟩ (Nat.le_of_ble_eq_true rfl) ?_
  rw [show (if (0 : Int32) < 0 then 0 else if (2 : Int32) < 0 then 0 else (1 : Int32)) = 1 from rfl]
  refine ww_if_ne (tgt := 11) K dX7_image_6 rfl (fun _ => ?_) (fun cc_ => absurd cc_ (by decide))
  refine ww_aload_n K dX7_image_11 rfl ?_
  refine ww_get K dX7_image_12 lf_X7_13 h64 rfl ?_
  refine ww_iload_n K dX7_image_15 rfl ?_
  refine ww_iconst (v := 1) K dX7_image_16 rfl ?_
  refine ww_zastX K dX7_image_17 h66 (wc_vin (by decide)) (fun w1 hln_w1 h66 hne_w1 => ?_)
  have h64 := (hne_w1 64 (by decide)).trans h64
  have h65 := (hne_w1 65 (by decide)).trans h65
  have hS := hS.put (k := 66) (by decide) hne_w1
  refine ww_iconst (v := 0) K dX7_image_18 rfl ?_
  refine ww_istore_n (ls2 := [some (eR (64)), some (eI (0)), some (eI (0))]) K dX7_image_19 (by decide) rfl ?_
  have loop : ∀ (dd i : Nat), i + dd = 1442 → ∀ (wl : EW) (A1 : Nat → Int32), wl[64]? = some (cO 7 [eR (65), eR (66), eI (0), eI (0), eI (0), eI (0), eI (0), eI (0), eI (0), eI (0), eR (67), eI (0), eI (0), eI (0), eI (0), eI (0), eI (0), eI (0), eI (0), eI (0), eI (0), eI (0), eI (0), eI (0), eI (0), eI (0), eI (0), eR (68), eR (69), eI (0), eI (0), eR (70), eR (71), eI (0), eI (0)]) → wl[65]? = some (cI 0 5768 A1) → wl[66]? = some (cI 1 3 (upd (fun _ => 0) (0 : Int32).toNatClampNeg (vp_nar .boolean 1))) → wc_same [65, 66] w wl → WW p_ l e_ (wc_rm 1 0 0) s_ m_ a_ b_ t_ c_ (MQ b_ (wc_Q G w 0 0 (fun r w2 => (∃ x : Int32, r = some (eI x) ∧ (x = 1 ∧ wc_same [65, 66] w w2)))) a_ s_ 0 0 (wc_A G)) G 3 w.length (wc_SL w) 0 0 20 [some (eR (64)), some (eI (0)), some (eI ((nI i)))] [] wl := by
    intro dd
    induction dd with
    | zero =>
      intro i hi wl A1 h64 h65 h66  hS
      have hh : i = 1442 := by omega
      subst hh
      refine ww_iload_n K dX7_image_20 rfl ?_
      refine ww_sipush (v := 1442) K dX7_image_21 rfl ?_
      refine ww_icmp_ge (tgt := 53) K dX7_image_24 rfl (fun _ => ?_) (fun cc_ => absurd (by decide) cc_)
      refine ww_iconst (v := 1) K dX7_image_53 rfl ?_
      exact ww_zret K rfl dX7_image_54 hr ⟨_, rfl, rfl, hS⟩
    | succ dd ih =>
      intro i hi wl A1 h64 h65 h66  hS
      have hlt : i < 1442 := by omega
      refine ww_iload_n K dX7_image_20 rfl ?_
      refine ww_sipush (v := 1442) K dX7_image_21 rfl ?_
      refine ww_icmp_ge (tgt := 53) K dX7_image_24 rfl (fun cc_ => absurd cc_ (nI_ge hlt (by decide))) (fun _ => ?_)
      refine ww_aload_n K dX7_image_27 rfl ?_
      refine ww_get K dX7_image_28 lf_X7_7 h64 rfl ?_
      refine ww_sipush (v := 1442) K dX7_image_31 rfl ?_
      refine ww_iload_n K dX7_image_34 rfl ?_
      refine ww_iconst (v := 1) K dX7_image_35 rfl ?_
      refine ww_iadd K dX7_image_36 ?_
      rw [show ((0 : Int32) + 1) = 1 from rfl]
      refine ww_imul K dX7_image_37 ?_
      rw [show ((1442 : Int32) * 1) = 1442 from rfl]
      refine ww_iload_n K dX7_image_38 rfl ?_
      refine ww_iadd K dX7_image_39 ?_
      rw [show (1442 + (nI i)) = (nI (1442 + i)) from nI_add 1442 i]
      refine ww_aload_n K dX7_image_40 rfl ?_
      refine ww_get K dX7_image_41 lf_X7_7 h64 rfl ?_
      refine ww_iload_n K dX7_image_44 rfl ?_
      refine ww_iald K dX7_image_45 h65 (vp_in_nI (by omega) (by decide)) ?_
      refine ww_iastX K dX7_image_46 h65 (vp_in_nI (by omega) (by decide)) (fun wa hlna h65 hnea => ?_)
      have h64 := (hnea 64 (by decide)).trans h64
      have h66 := (hnea 66 (by decide)).trans h66
      have hS := hS.put (k := 65) (by decide) hnea
      refine ww_iinc (ls2 := [some (eR (64)), some (eI (0)), some (eI (((nI i) + 1)))]) K dX7_image_47 (by decide) rfl rfl ?_
      refine ww_goto (tgt := 20) K dX7_image_50 rfl ?_
      rw [show (nI i + 1) = nI (i + 1) from nI_1 i]
      exact ih (i + 1) (by omega) _ _ h64 h65 h66  hS
  exact loop 1442 0 rfl _ _ h64 h65 h66  hS
set_option maxRecDepth 100000 in
set_option maxHeartbeats 4000000 in
theorem ct_X7_image_1 (G : EG) (l : Launch) {w : EW}  (h64 : w[64]? = some (cO 7 [eR (65), eR (66), eI (0), eI (0), eI (0), eI (0), eI (0), eI (0), eI (0), eI (0), eR (67), eI (0), eI (0), eI (0), eI (0), eI (0), eI (0), eI (0), eI (0), eI (0), eI (0), eI (0), eI (0), eI (0), eI (0), eI (0), eI (0), eR (68), eR (69), eI (0), eI (0), eR (70), eR (71), eI (0), eI (0)])) (h65 : w[65]? = some (cI 0 5768 (upd (fun _ => 0) 8 (-1)))) (h66 : w[66]? = some (cI 1 3 (fun _ => 0))) : Ct G l yX7_image cX7_image 3 (some .boolean) 1 0 0 [eR (64), eI (1)] w (fun r w2 => (∃ x : Int32, r = some (eI x) ∧ (x = 1 ∧ wc_same [65, 66] w w2))) := by
  refine Ct_of (by decide +kernel) (Nat.le_of_ble_eq_true rfl) ?_
  intro p_ e_ s_ m_ a_ b_ t_ c_ K0 hr hin
  have K : wc_C p_ s_ m_ a_ t_ c_ G RX7 cX7_image 3 w.length := K0
  clear K0
  refine WW_ls (ls2 := [some (eR (64)), some (eI (1)), none]) rfl ?_
  have hS : wc_same [65, 66] w w := wc_same.rf
  refine ww_iload_n K dX7_image_0 rfl ?_
  refine ww_iconst (v := 0) K dX7_image_1 rfl ?_
  refine ww_iconst (v := 2) K dX7_image_2 rfl ?_
  refine ww_cS K dX7_image_3 lc_X7_93 (ct_X7_isIn G l (a := 1) (b := 0) (c := 2)) rfl ⟨Nat.le_of_ble_eq_true rfl, Nat.le_of_ble_eq_true rfl⟩ (Nat.le_of_ble_eq_true rfl) ?_
  rw [show (if (1 : Int32) < 0 then 0 else if (2 : Int32) < 1 then 0 else (1 : Int32)) = 1 from rfl]
  refine ww_if_ne (tgt := 11) K dX7_image_6 rfl (fun _ => ?_) (fun cc_ => absurd cc_ (by decide))
  refine ww_aload_n K dX7_image_11 rfl ?_
  refine ww_get K dX7_image_12 lf_X7_13 h64 rfl ?_
  refine ww_iload_n K dX7_image_15 rfl ?_
  refine ww_iconst (v := 1) K dX7_image_16 rfl ?_
  refine ww_zastX K dX7_image_17 h66 (wc_vin (by decide)) (fun w1 hln_w1 h66 hne_w1 => ?_)
  have h64 := (hne_w1 64 (by decide)).trans h64
  have h65 := (hne_w1 65 (by decide)).trans h65
  have hS := hS.put (k := 66) (by decide) hne_w1
  refine ww_iconst (v := 0) K dX7_image_18 rfl ?_
  refine ww_istore_n (ls2 := [some (eR (64)), some (eI (1)), some (eI (0))]) K dX7_image_19 (by decide) rfl ?_
  have loop : ∀ (dd i : Nat), i + dd = 1442 → ∀ (wl : EW) (A1 : Nat → Int32), wl[64]? = some (cO 7 [eR (65), eR (66), eI (0), eI (0), eI (0), eI (0), eI (0), eI (0), eI (0), eI (0), eR (67), eI (0), eI (0), eI (0), eI (0), eI (0), eI (0), eI (0), eI (0), eI (0), eI (0), eI (0), eI (0), eI (0), eI (0), eI (0), eI (0), eR (68), eR (69), eI (0), eI (0), eR (70), eR (71), eI (0), eI (0)]) → wl[65]? = some (cI 0 5768 A1) → wl[66]? = some (cI 1 3 (upd (fun _ => 0) (1 : Int32).toNatClampNeg (vp_nar .boolean 1))) → wc_same [65, 66] w wl → WW p_ l e_ (wc_rm 1 0 0) s_ m_ a_ b_ t_ c_ (MQ b_ (wc_Q G w 0 0 (fun r w2 => (∃ x : Int32, r = some (eI x) ∧ (x = 1 ∧ wc_same [65, 66] w w2)))) a_ s_ 0 0 (wc_A G)) G 3 w.length (wc_SL w) 0 0 20 [some (eR (64)), some (eI (1)), some (eI ((nI i)))] [] wl := by
    intro dd
    induction dd with
    | zero =>
      intro i hi wl A1 h64 h65 h66  hS
      have hh : i = 1442 := by omega
      subst hh
      refine ww_iload_n K dX7_image_20 rfl ?_
      refine ww_sipush (v := 1442) K dX7_image_21 rfl ?_
      refine ww_icmp_ge (tgt := 53) K dX7_image_24 rfl (fun _ => ?_) (fun cc_ => absurd (by decide) cc_)
      refine ww_iconst (v := 1) K dX7_image_53 rfl ?_
      exact ww_zret K rfl dX7_image_54 hr ⟨_, rfl, rfl, hS⟩
    | succ dd ih =>
      intro i hi wl A1 h64 h65 h66  hS
      have hlt : i < 1442 := by omega
      refine ww_iload_n K dX7_image_20 rfl ?_
      refine ww_sipush (v := 1442) K dX7_image_21 rfl ?_
      refine ww_icmp_ge (tgt := 53) K dX7_image_24 rfl (fun cc_ => absurd cc_ (nI_ge hlt (by decide))) (fun _ => ?_)
      refine ww_aload_n K dX7_image_27 rfl ?_
      refine ww_get K dX7_image_28 lf_X7_7 h64 rfl ?_
      refine ww_sipush (v := 1442) K dX7_image_31 rfl ?_
      refine ww_iload_n K dX7_image_34 rfl ?_
      refine ww_iconst (v := 1) K dX7_image_35 rfl ?_
      refine ww_iadd K dX7_image_36 ?_
      rw [show ((1 : Int32) + 1) = 2 from rfl]
      refine ww_imul K dX7_image_37 ?_
      rw [show ((1442 : Int32) * 2) = 2884 from rfl]
      refine ww_iload_n K dX7_image_38 rfl ?_
      refine ww_iadd K dX7_image_39 ?_
      rw [show (2884 + (nI i)) = (nI (2884 + i)) from nI_add 2884 i]
      refine ww_aload_n K dX7_image_40 rfl ?_
      refine ww_get K dX7_image_41 lf_X7_7 h64 rfl ?_
      refine ww_iload_n K dX7_image_44 rfl ?_
      refine ww_iald K dX7_image_45 h65 (vp_in_nI (by omega) (by decide)) ?_
      refine ww_iastX K dX7_image_46 h65 (vp_in_nI (by omega) (by decide)) (fun wa hlna h65 hnea => ?_)
      have h64 := (hnea 64 (by decide)).trans h64
      have h66 := (hnea 66 (by decide)).trans h66
      have hS := hS.put (k := 65) (by decide) hnea
      refine ww_iinc (ls2 := [some (eR (64)), some (eI (1)), some (eI (((nI i) + 1)))]) K dX7_image_47 (by decide) rfl rfl ?_
      refine ww_goto (tgt := 20) K dX7_image_50 rfl ?_
      rw [show (nI i + 1) = nI (i + 1) from nI_1 i]
      exact ih (i + 1) (by omega) _ _ h64 h65 h66  hS
  exact loop 1442 0 rfl _ _ h64 h65 h66  hS
set_option maxRecDepth 100000 in
set_option maxHeartbeats 4000000 in
theorem ct_X7_image_2 (G : EG) (l : Launch) {w : EW}  (h64 : w[64]? = some (cO 7 [eR (65), eR (66), eI (0), eI (0), eI (0), eI (0), eI (0), eI (0), eI (0), eI (0), eR (67), eI (0), eI (0), eI (0), eI (0), eI (0), eI (0), eI (0), eI (0), eI (0), eI (0), eI (0), eI (0), eI (0), eI (0), eI (0), eI (0), eR (68), eR (69), eI (0), eI (0), eR (70), eR (71), eI (0), eI (0)])) (h65 : w[65]? = some (cI 0 5768 (upd (fun _ => 0) 8 (-1)))) (h66 : w[66]? = some (cI 1 3 (fun _ => 0))) : Ct G l yX7_image cX7_image 3 (some .boolean) 1 0 0 [eR (64), eI (2)] w (fun r w2 => (∃ x : Int32, r = some (eI x) ∧ (x = 1 ∧ wc_same [65, 66] w w2))) := by
  refine Ct_of (by decide +kernel) (Nat.le_of_ble_eq_true rfl) ?_
  intro p_ e_ s_ m_ a_ b_ t_ c_ K0 hr hin
  have K : wc_C p_ s_ m_ a_ t_ c_ G RX7 cX7_image 3 w.length := K0
  clear K0
  refine WW_ls (ls2 := [some (eR (64)), some (eI (2)), none]) rfl ?_
  have hS : wc_same [65, 66] w w := wc_same.rf
  refine ww_iload_n K dX7_image_0 rfl ?_
  refine ww_iconst (v := 0) K dX7_image_1 rfl ?_
  refine ww_iconst (v := 2) K dX7_image_2 rfl ?_
  refine ww_cS K dX7_image_3 lc_X7_93 (ct_X7_isIn G l (a := 2) (b := 0) (c := 2)) rfl ⟨Nat.le_of_ble_eq_true rfl, Nat.le_of_ble_eq_true rfl⟩ (Nat.le_of_ble_eq_true rfl) ?_
  rw [show (if (2 : Int32) < 0 then 0 else if (2 : Int32) < 2 then 0 else (1 : Int32)) = 1 from rfl]
  refine ww_if_ne (tgt := 11) K dX7_image_6 rfl (fun _ => ?_) (fun cc_ => absurd cc_ (by decide))
  refine ww_aload_n K dX7_image_11 rfl ?_
  refine ww_get K dX7_image_12 lf_X7_13 h64 rfl ?_
  refine ww_iload_n K dX7_image_15 rfl ?_
  refine ww_iconst (v := 1) K dX7_image_16 rfl ?_
  refine ww_zastX K dX7_image_17 h66 (wc_vin (by decide)) (fun w1 hln_w1 h66 hne_w1 => ?_)
  have h64 := (hne_w1 64 (by decide)).trans h64
  have h65 := (hne_w1 65 (by decide)).trans h65
  have hS := hS.put (k := 66) (by decide) hne_w1
  refine ww_iconst (v := 0) K dX7_image_18 rfl ?_
  refine ww_istore_n (ls2 := [some (eR (64)), some (eI (2)), some (eI (0))]) K dX7_image_19 (by decide) rfl ?_
  have loop : ∀ (dd i : Nat), i + dd = 1442 → ∀ (wl : EW) (A1 : Nat → Int32), wl[64]? = some (cO 7 [eR (65), eR (66), eI (0), eI (0), eI (0), eI (0), eI (0), eI (0), eI (0), eI (0), eR (67), eI (0), eI (0), eI (0), eI (0), eI (0), eI (0), eI (0), eI (0), eI (0), eI (0), eI (0), eI (0), eI (0), eI (0), eI (0), eI (0), eR (68), eR (69), eI (0), eI (0), eR (70), eR (71), eI (0), eI (0)]) → wl[65]? = some (cI 0 5768 A1) → wl[66]? = some (cI 1 3 (upd (fun _ => 0) (2 : Int32).toNatClampNeg (vp_nar .boolean 1))) → wc_same [65, 66] w wl → WW p_ l e_ (wc_rm 1 0 0) s_ m_ a_ b_ t_ c_ (MQ b_ (wc_Q G w 0 0 (fun r w2 => (∃ x : Int32, r = some (eI x) ∧ (x = 1 ∧ wc_same [65, 66] w w2)))) a_ s_ 0 0 (wc_A G)) G 3 w.length (wc_SL w) 0 0 20 [some (eR (64)), some (eI (2)), some (eI ((nI i)))] [] wl := by
    intro dd
    induction dd with
    | zero =>
      intro i hi wl A1 h64 h65 h66  hS
      have hh : i = 1442 := by omega
      subst hh
      refine ww_iload_n K dX7_image_20 rfl ?_
      refine ww_sipush (v := 1442) K dX7_image_21 rfl ?_
      refine ww_icmp_ge (tgt := 53) K dX7_image_24 rfl (fun _ => ?_) (fun cc_ => absurd (by decide) cc_)
      refine ww_iconst (v := 1) K dX7_image_53 rfl ?_
      exact ww_zret K rfl dX7_image_54 hr ⟨_, rfl, rfl, hS⟩
    | succ dd ih =>
      intro i hi wl A1 h64 h65 h66  hS
      have hlt : i < 1442 := by omega
      refine ww_iload_n K dX7_image_20 rfl ?_
      refine ww_sipush (v := 1442) K dX7_image_21 rfl ?_
      refine ww_icmp_ge (tgt := 53) K dX7_image_24 rfl (fun cc_ => absurd cc_ (nI_ge hlt (by decide))) (fun _ => ?_)
      refine ww_aload_n K dX7_image_27 rfl ?_
      refine ww_get K dX7_image_28 lf_X7_7 h64 rfl ?_
      refine ww_sipush (v := 1442) K dX7_image_31 rfl ?_
      refine ww_iload_n K dX7_image_34 rfl ?_
      refine ww_iconst (v := 1) K dX7_image_35 rfl ?_
      refine ww_iadd K dX7_image_36 ?_
      rw [show ((2 : Int32) + 1) = 3 from rfl]
      refine ww_imul K dX7_image_37 ?_
      rw [show ((1442 : Int32) * 3) = 4326 from rfl]
      refine ww_iload_n K dX7_image_38 rfl ?_
      refine ww_iadd K dX7_image_39 ?_
      rw [show (4326 + (nI i)) = (nI (4326 + i)) from nI_add 4326 i]
      refine ww_aload_n K dX7_image_40 rfl ?_
      refine ww_get K dX7_image_41 lf_X7_7 h64 rfl ?_
      refine ww_iload_n K dX7_image_44 rfl ?_
      refine ww_iald K dX7_image_45 h65 (vp_in_nI (by omega) (by decide)) ?_
      refine ww_iastX K dX7_image_46 h65 (vp_in_nI (by omega) (by decide)) (fun wa hlna h65 hnea => ?_)
      have h64 := (hnea 64 (by decide)).trans h64
      have h66 := (hnea 66 (by decide)).trans h66
      have hS := hS.put (k := 65) (by decide) hnea
      refine ww_iinc (ls2 := [some (eR (64)), some (eI (2)), some (eI (((nI i) + 1)))]) K dX7_image_47 (by decide) rfl rfl ?_
      refine ww_goto (tgt := 20) K dX7_image_50 rfl ?_
      rw [show (nI i + 1) = nI (i + 1) from nI_1 i]
      exact ih (i + 1) (by omega) _ _ h64 h65 h66  hS
  exact loop 1442 0 rfl _ _ h64 h65 h66  hS
