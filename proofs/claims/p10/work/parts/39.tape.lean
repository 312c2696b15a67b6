section XCO
variable {sc : Nat × (Nat → Int32)} {d : Nat} {K : List KD} {r q t a B m : Nat} {w : EW}
/-! the tape, copies, texts -/
theorem up_bn {s : SG} {k i j : Nat} {x : Int32} (h : i ≠ j) : up s k j x k i = s k i := by rw [up_s, pk_un h]
def bytI (x k : Int32) : Int32 := (Int32.toUInt32 x >>> (Int32.toUInt32 k &&& Int32.toUInt32 31)).toInt32 &&& 255
def fd1 (s : SG) (v : Int32) : SG := up (pt 600 s 2 (s 1 1) v) 1 1 (s 1 1 + 1)
def fdnS (s : SG) (x : Int32) : SG := fd1 (fd1 (fd1 (fd1 s (bytI x 24)) (bytI x 16)) (bytI x 8)) (bytI x 0)
theorem s_feedNumber {s : SG} {x y : Int32} {k : Nat} (h : SH K) (hy : ¬ y < 0) {R : XR} (e : fW sc 6 0 false 3 (xN sc (d + 1)) (ex sc 6 0 false 3 (xN sc (d + 1)) kX6_feedNumber_0 k) kX6_feedNumber_3 3 [some (.inr (.inr (.inl (some 0)))), some (.inl x), some (.inl (y + -8))] [] (wl K (fd1 s (bytI x y))) = R) : fW sc 6 0 false 3 (xN sc (d + 1)) (ex sc 6 0 false 3 (xN sc (d + 1)) kX6_feedNumber_0 (k + 1)) kX6_feedNumber_3 3 [some (.inr (.inr (.inl (some 0)))), some (.inl x), some (.inl y)] [] (wl K s) = R := by
  unfold fd1 bytI at e
  simp only [uX6_feedNumber_3, qX6_feedNumber_3, jX6_feedNumber_7_50, jX6_feedNumber_0_3, if_neg hy]
  simp (decide := true) only [uX6_feedNumber_7, qX6_feedNumber_7, jX6_feedNumber_7_50, jX6_feedNumber_0_3, c0_g0 h, c1_g0 h, c1_g1 h, bd_eq, kc2 h, xcv_eq, pt_c, c1_p1 h, eX_eq]
  exact e
theorem c_feedNumber {s : SG} {x : Int32} (h : SH K) : xN sc (d + 2) 73 [.inr (.inr (.inl (some 0))), .inl x] (wl K s) = some (none, wl K (fdnS s x)) := by
  obtain ⟨k, hk⟩ : ∃ k, xF = k + 1 + 1 + 1 + 1 := ⟨xF - 4, by have := xF_ge; omega⟩
  have a1 : (24 : Int32) + -8 = 16 := by decide
  have a2 : (16 : Int32) + -8 = 8 := by decide
  have a3 : (8 : Int32) + -8 = 0 := by decide
  have a4 : (0 : Int32) + -8 = -8 := by decide
  rw [mX6_feedNumber, hk]
  simp only [uX6_feedNumber_0, qX6_feedNumber_0, jX6_feedNumber_7_50, jX6_feedNumber_0_3]
  refine s_feedNumber h (by decide) ?_
  rw [a1]
  refine s_feedNumber h (by decide) ?_
  rw [a2]
  refine s_feedNumber h (by decide) ?_
  rw [a3]
  refine s_feedNumber h (by decide) ?_
  rw [a4]
  simp only [uX6_feedNumber_3, qX6_feedNumber_3, jX6_feedNumber_7_50, jX6_feedNumber_0_3]
  rw [if_pos (by decide)]
  simp only [uX6_feedNumber_50, qX6_feedNumber_50, jX6_feedNumber_7_50, jX6_feedNumber_0_3]
  unfold fdnS
  rfl
theorem fdnS_n {s : SG} {x : Int32} {c : Nat} (h1 : c ≠ 1) (h2 : c ≠ 2) : fdnS s x c = s c := by
  unfold fdnS fd1
  simp only [up_n h1, pt_n h2]
theorem fdnS_len {s : SG} {x : Int32} {l : Nat} (h : s 1 1 = nI l) : fdnS s x 1 1 = nI (l + 4) := by
  have e : ∀ (s : SG) (v : Int32) (l : Nat), s 1 1 = nI l → fd1 s v 1 1 = nI (l + 1) := by
    intro s v l h
    unfold fd1
    rw [up_a, h, nI_succ]
  exact e _ _ _ (e _ _ _ (e _ _ _ (e _ _ _ h)))
def feeP (s : SG) (x : Int32) (y : Int32) (z : Int32) (u : Int32) (v : Int32) : Int32 × SG := if ((s 1 1) + 20) ≤ 600 then ((fdnS (fdnS (fdnS (fdnS (fdnS s x) y) z) u) v) 1 1, fdnS (fdnS (fdnS (fdnS (fdnS s x) y) z) u) v) else (-1, s)
theorem c_feed {s : SG} {x : Int32} {y : Int32} {z : Int32} {u : Int32} {v : Int32}  (h : SH K) : xN sc (d + 3) 72 [.inr (.inr (.inl (some 0))), .inl x, .inl y, .inl z, .inl u, .inl v] (wl K s) = some (some (.inl (feeP s x y z u v).1), wl K (feeP s x y z u v).2) := by
  rw [mX6_feed]
  simp (decide := true) (maxDischargeDepth := 40) only [uX6_feed_0, uX6_feed_16, uX6_feed_18, qX6_feed_0, qX6_feed_16, qX6_feed_18, jX6_feed_16_18, c0_g0 h, bd_eq, c1_g1 h, c0_v h, cond_true, c_feedNumber h, xcv_eq, RS_43, RS_up, RS_pt, RS_fl, RS_cp, IR_up, IR_44, IR_52, IR_pt, IR_fl, IR_cp, advS_IR, RS_adv, admS_IR, adwS_IR, adwS_RS, clrS_RS, clwS_RS, admS_RS, setNW_RS, setNW_IR, setN_RS, setN_IR, takSL_RS, takSL_IR, takSW_RS, takSW_IR, takS_RS, takS_IR, stwS_RS, stwS_IR, notS_RS, notS_IR, refP_RS, refP_IR, couS_RS, couS_IR, ttoS_RS, ttoS_IR, tkoS_RS, tkoS_IR, tkeSW_RS, tkeSW_IR, tkeS_RS, tkeS_IR, resP_RS, resP_IR, rnuP_RS, rnuP_IR, reaP_RS, reaP_IR, rpaP_RS, rpaP_IR, rlT_RS, rlT_IR, rlL_RS, rlL_IR, up_a, up_b, up_c, pt_c, fl_c, cp_c]
  first | done | (unfold feeP; first | done | with_reducible_and_instances rfl | ((repeat' split) <;> first | with_reducible_and_instances rfl | contradiction | exact absurd ‹(1 : Int32) = 0› (by decide) | exact absurd rfl ‹¬ (0 : Int32) = 0› | exact absurd rfl ‹¬ (1 : Int32) = 1› | (exfalso; rename_i h1 h2; exact h1 (by rw [h2]; exact Int32.le_refl _))))
def endP (s : SG) (n : Int32) : Int32 × SG := if n < 0 then (-1, s) else if n ≤ (s 1 1) then (n, up s 1 1 n) else (-1, s)
theorem c_end {s : SG} {n : Int32}  (h : SH K) : xN sc (d + 1) 74 [.inr (.inr (.inl (some 0))), .inl n] (wl K s) = some (some (.inl (endP s n).1), wl K (endP s n).2) := by
  rw [mX6_end]
  simp (decide := true) (maxDischargeDepth := 40) only [uX6_end_0, uX6_end_4, uX6_end_15, uX6_end_17, qX6_end_0, qX6_end_4, qX6_end_15, qX6_end_17, jX6_end_4_15, jX6_end_15_17, c0_g0 h, bd_eq, c1_g1 h, c1_p1 h, RS_43, RS_up, RS_pt, RS_fl, RS_cp, IR_up, IR_44, IR_52, IR_pt, IR_fl, IR_cp, advS_IR, RS_adv, admS_IR, adwS_IR, adwS_RS, clrS_RS, clwS_RS, admS_RS, setNW_RS, setNW_IR, setN_RS, setN_IR, takSL_RS, takSL_IR, takSW_RS, takSW_IR, takS_RS, takS_IR, stwS_RS, stwS_IR, notS_RS, notS_IR, refP_RS, refP_IR, couS_RS, couS_IR, ttoS_RS, ttoS_IR, tkoS_RS, tkoS_IR, tkeSW_RS, tkeSW_IR, tkeS_RS, tkeS_IR, resP_RS, resP_IR, rnuP_RS, rnuP_IR, reaP_RS, reaP_IR, rpaP_RS, rpaP_IR, rlT_RS, rlT_IR, rlL_RS, rlL_IR, up_a, up_b, up_c, pt_c, fl_c, cp_c]
  first | done | (unfold endP; first | done | with_reducible_and_instances rfl | ((repeat' split) <;> first | with_reducible_and_instances rfl | contradiction | exact absurd ‹(1 : Int32) = 0› (by decide) | exact absurd rfl ‹¬ (0 : Int32) = 0› | exact absurd rfl ‹¬ (1 : Int32) = 1› | (exfalso; rename_i h1 h2; exact h1 (by rw [h2]; exact Int32.le_refl _))))
def plaI (s : SG) (so : Int32) (at_ : Int32) : Int32 := if so < 0 then -1 else if so < 6 then (if at_ = (-1) then (if 2 ≤ (cl 6 (s 3) so) then -1 else cl 6 (s 3) so) else if at_ < 0 then -1 else if (cl 6 (s 3) so) ≤ at_ then -1 else at_) else -1
theorem c_placeFor {s : SG} {so : Int32} {at_ : Int32}  (h : SH K) : xN sc (d + 2) 76 [.inr (.inr (.inl (some 0))), .inl so, .inl at_] (wl K s) = some (some (.inl (plaI s so at_)), wl K s) := by
  rw [mX6_placeFor]
  simp (decide := true) (maxDischargeDepth := 40) only [uX6_placeFor_0, uX6_placeFor_4, uX6_placeFor_10, uX6_placeFor_12, uX6_placeFor_29, uX6_placeFor_34, uX6_placeFor_38, uX6_placeFor_39, uX6_placeFor_40, uX6_placeFor_44, uX6_placeFor_49, uX6_placeFor_53, uX6_placeFor_54, qX6_placeFor_0, qX6_placeFor_4, qX6_placeFor_10, qX6_placeFor_12, qX6_placeFor_29, qX6_placeFor_34, qX6_placeFor_38, qX6_placeFor_39, qX6_placeFor_40, qX6_placeFor_44, qX6_placeFor_49, qX6_placeFor_53, qX6_placeFor_54, jX6_placeFor_4_10, jX6_placeFor_10_12, jX6_placeFor_29_40, jX6_placeFor_34_38, jX6_placeFor_38_39, jX6_placeFor_44_53, jX6_placeFor_49_53, jX6_placeFor_53_54, c0_g0 h, bd_eq, c1_g4 h, xci_eq, lc3 h, RS_43, RS_up, RS_pt, RS_fl, RS_cp, IR_up, IR_44, IR_52, IR_pt, IR_fl, IR_cp, advS_IR, RS_adv, admS_IR, adwS_IR, adwS_RS, clrS_RS, clwS_RS, admS_RS, setNW_RS, setNW_IR, setN_RS, setN_IR, takSL_RS, takSL_IR, takSW_RS, takSW_IR, takS_RS, takS_IR, stwS_RS, stwS_IR, notS_RS, notS_IR, refP_RS, refP_IR, couS_RS, couS_IR, ttoS_RS, ttoS_IR, tkoS_RS, tkoS_IR, tkeSW_RS, tkeSW_IR, tkeS_RS, tkeS_IR, resP_RS, resP_IR, rnuP_RS, rnuP_IR, reaP_RS, reaP_IR, rpaP_RS, rpaP_IR, rlT_RS, rlT_IR, rlL_RS, rlL_IR, up_a, up_b, up_c, pt_c, fl_c, cp_c]
  first | done | (unfold plaI; first | done | with_reducible_and_instances rfl | ((repeat' split) <;> first | with_reducible_and_instances rfl | contradiction | exact absurd ‹(1 : Int32) = 0› (by decide) | exact absurd rfl ‹¬ (0 : Int32) = 0› | exact absurd rfl ‹¬ (1 : Int32) = 1› | (exfalso; rename_i h1 h2; exact h1 (by rw [h2]; exact Int32.le_refl _))))
def cprS (s : SG) (r t : Nat) : SG := up (up (up (up (up (up (cpS 3 (cpS 6 (cpS 72 (cpS 6 (cpS 6 (cpS 6 (cpS 6 (up (s) r 0 (s t 0)) (t + 1) (r + 1)) (t + 2) (r + 2)) (t + 3) (r + 3)) (t + 4) (r + 4)) (t + 5) (r + 5)) (t + 6) (r + 6)) (t + 7) (r + 7)) r 8 (s t 8)) r 9 (s t 9)) r 10 (s t 10)) r 11 (s t 11)) r 12 (s t 12)) r 13 (s t 13)
theorem c_copyRepublic {s : SG} (hr : RP K r) (ht : RP K t) (hd : r + 8 ≤ t ∨ t + 8 ≤ r) : xN sc (d + 2) 42 [.inr (.inr (.inl (some r))), .inr (.inr (.inl (some t)))] (wl K s) = some (none, wl K (cprS s r t)) := by
  rw [mX2_copyRepublic]
  simp (disch := omega) only [uX2_copyRepublic_0, qX2_copyRepublic_0, cR_g0 ht, cR_p0 hr, cR_g8 ht, cR_p8 hr, cR_g9 ht, cR_p9 hr, cR_g10 ht, cR_p10 hr, cR_g11 ht, cR_p11 hr, cR_g12 ht, cR_p12 hr, cR_g13 ht, cR_p13 hr, cR_g1 ht, cR_g1 hr, cR_g2 ht, cR_g2 hr, cR_g3 ht, cR_g3 hr, cR_g4 ht, cR_g4 hr, cR_g5 ht, cR_g5 hr, cR_g6 ht, cR_g6 hr, cR_g7 ht, cR_g7 hr, c_copy6 (ht.2.1) (hr.2.1), c_copy6 (ht.2.2.1) (hr.2.2.1), c_copy6 (ht.2.2.2.1) (hr.2.2.2.1), c_copy6 (ht.2.2.2.2.1) (hr.2.2.2.2.1), c_copy72 (ht.2.2.2.2.2.1) (hr.2.2.2.2.2.1), c_copy6 (ht.2.2.2.2.2.2.1) (hr.2.2.2.2.2.2.1), c_copy3 (ht.2.2.2.2.2.2.2) (hr.2.2.2.2.2.2.2), bd_eq, xcv_eq, up_n, cp_n, up_bn]
  rfl
theorem cprS_n {s : SG} {c : Nat} (h : c < r ∨ r + 8 ≤ c) : cprS s r t c = s c := by
  unfold cprS
  simp (disch := omega) only [up_n, cp_n]
theorem cprS_0 {s : SG} : cprS s r t r 0 = s t 0 := by
  unfold cprS
  simp (disch := omega) only [up_bn, cp_n, up_a]
theorem cprS_SZ {s : SG} (h : SZ s t) : SZ (cprS s r t) r := by
  unfold SZ sz at *
  rw [cprS_0]; exact h
def cpwS (s : SG) (q t : Nat) : SG := cpS 200 (up s q 0 (s t 0)) (t + 1) (q + 1)
theorem c_copyRows {s : SG} (hq : RW K q) (ht : RW K t) (hd : q + 2 ≤ t ∨ t + 2 ≤ q) : xN sc (d + 2) 58 [.inr (.inr (.inl (some q))), .inr (.inr (.inl (some t)))] (wl K s) = some (none, wl K (cpwS s q t)) := by
  rw [mX3_copyRows]
  simp only [uX3_copyRows_0, qX3_copyRows_0, cW_g0 ht, cW_p0 hq, cW_g1 ht, cW_g1 hq, bd_eq, c_copy200 ht.2 hq.2, xcv_eq]
  rfl
theorem cpwS_n {s : SG} {c : Nat} (h : c < q ∨ q + 2 ≤ c) : cpwS s q t c = s c := by
  unfold cpwS
  simp (disch := omega) only [up_n, cp_n]
theorem cpwS_0 {s : SG} : cpwS s q t q 0 = s t 0 := by
  unfold cpwS
  rw [cp_n (by omega), up_a]
theorem cpwS_RZ {s : SG} (h : RZ s t) : RZ (cpwS s q t) q := by
  unfold RZ rz at *
  rw [cpwS_0]; exact h
/-- what is told at B is as a text can tell it -/
def TB (s : SG) (B : Nat) : Prop := SZ s (B + 5) ∧ SZ s (B + 13) ∧ (∀ j, j < 10 → RZ s (B + 21 + 2 * j)) ∧ ∃ l, s B 1 = nI l ∧ l ≤ 600
theorem TB_TV {s : SG} (h : TB s 1) : TV s := ⟨h.1, h.2.1, h.2.2.1⟩
theorem SZ_of {s t : SG} {r : Nat} (e : t r = s r) (h : SZ s r) : SZ t r := by unfold SZ sz at *; rw [e]; exact h
theorem RZ_of {s t : SG} {r : Nat} (e : t r = s r) (h : RZ s r) : RZ t r := by unfold RZ rz at *; rw [e]; exact h
theorem TB_of {s t : SG} {B : Nat} (e : ∀ c, B ≤ c → c < B + 41 → t c = s c) (h : TB s B) : TB t B := by
  obtain ⟨h1, h2, h3, l, h4, h5⟩ := h
  refine ⟨SZ_of (e _ (by omega) (by omega)) h1, SZ_of (e _ (by omega) (by omega)) h2, fun j hj => RZ_of (e _ (by omega) (by omega)) (h3 j hj), l, ?_, h5⟩
  rw [e _ (by omega) (by omega)]; exact h4
/-- a text is kept -/
def kee1 (s : SG) (so p : Int32) : SG := if so = 0 then (match kepO p with
    | none => s
    | some r => cprS s r 44) else (match rkpO ((so - 1) * 2 + p) with
    | none => s
    | some q => cpwS s q 52)
def keeS (s : SG) (so p : Int32) : SG := pt 6 (kee1 s so p) 3 so (if cl 6 (kee1 s so p 3) so < p + 1 then p + 1 else cl 6 (kee1 s so p 3) so)
theorem c_keep {s : SG} {so p : Int32} (h : SH K) : xN sc (d + 3) 77 [.inr (.inr (.inl (some 0))), .inl so, .inl p] (wl K s) = some (none, wl K (keeS s so p)) := by
  rw [mX6_keep]
  have T : ∀ (s : SG) (z : Option Nat), fW sc 6 0 false 4 (xN sc (d + 2)) (ex sc 6 0 false 4 (xN sc (d + 2)) kX6_keep_0 xF) kX6_keep_56 56 [some (.inr (.inr (.inl (some 0)))), some (.inl so), some (.inl p), some (.inr (.inr (.inl z)))] [] (wl K s) = some (none, wl K (pt 6 s 3 so (if cl 6 (s 3) so < p + 1 then p + 1 else cl 6 (s 3) so))) := by
    intro s z
    simp only [uX6_keep_56, qX6_keep_56, jX6_keep_4_31, jX6_keep_17_28, jX6_keep_31_56, jX6_keep_45_56, c0_g0 h, c1_g4 h, bd_eq, lc3 h, kc3 h, xci_eq, xcv_eq]
  unfold keeS
  by_cases c1 : so = 0
  · have e : kee1 s so p = (match kepO p with
      | none => s
      | some r => cprS s r 44) := by unfold kee1; rw [if_pos c1]
    rw [e]
    simp only [uX6_keep_0, qX6_keep_0, jX6_keep_4_31, jX6_keep_17_28, jX6_keep_31_56, jX6_keep_45_56, if_pos c1]
    rcases kepO_c (x := p) with g | g | g
    · simp only [uX6_keep_4, qX6_keep_4, jX6_keep_4_31, jX6_keep_17_28, jX6_keep_31_56, jX6_keep_45_56, uX6_keep_17, uX6_keep_28, uX6_keep_31, qX6_keep_17, qX6_keep_28, qX6_keep_31, jX6_keep_4_31, jX6_keep_17_28, jX6_keep_31_56, jX6_keep_45_56, c0_g0 h, c1_v h, bd_eq, cond_true, c_republicKept h, g, xco_eq, Option.isNone_none, T]
    · have u : xN sc (d + 2) 42 [.inr (.inr (.inl (some 6))), .inr (.inr (.inl (some 44)))] (wl K s) = some (none, wl K (cprS s 6 44)) := c_copyRepublic (RP6 h) (cS_r h) (by omega)
      have u2 : xrv (wl K s) 2 (.inr (.inr (.inl (some 6)))) = true := cR_v (RP6 h)
      simp only [uX6_keep_4, qX6_keep_4, jX6_keep_4_31, jX6_keep_17_28, jX6_keep_31_56, jX6_keep_45_56, uX6_keep_17, uX6_keep_28, uX6_keep_31, qX6_keep_17, qX6_keep_28, qX6_keep_31, jX6_keep_4_31, jX6_keep_17_28, jX6_keep_31_56, jX6_keep_45_56, c0_g0 h, c0_g2 h, c43_g0 h, c1_v h, bd_eq, cond_true, cond_false, c_republicKept h, g, xco_eq, Option.isNone_some, u, u2, xcv_eq, T]
    · have u : xN sc (d + 2) 42 [.inr (.inr (.inl (some 14))), .inr (.inr (.inl (some 44)))] (wl K s) = some (none, wl K (cprS s 14 44)) := c_copyRepublic (RP14 h) (cS_r h) (by omega)
      have u2 : xrv (wl K s) 2 (.inr (.inr (.inl (some 14)))) = true := cR_v (RP14 h)
      simp only [uX6_keep_4, qX6_keep_4, jX6_keep_4_31, jX6_keep_17_28, jX6_keep_31_56, jX6_keep_45_56, uX6_keep_17, uX6_keep_28, uX6_keep_31, qX6_keep_17, qX6_keep_28, qX6_keep_31, jX6_keep_4_31, jX6_keep_17_28, jX6_keep_31_56, jX6_keep_45_56, c0_g0 h, c0_g2 h, c43_g0 h, c1_v h, bd_eq, cond_true, cond_false, c_republicKept h, g, xco_eq, Option.isNone_some, u, u2, xcv_eq, T]
  · have e : kee1 s so p = (match rkpO ((so - 1) * 2 + p) with
      | none => s
      | some q => cpwS s q 52) := by unfold kee1; rw [if_neg c1]
    rw [e]
    simp only [uX6_keep_0, qX6_keep_0, jX6_keep_4_31, jX6_keep_17_28, jX6_keep_31_56, jX6_keep_45_56, if_neg c1]
    rcases rkpO_c (x := (so - 1) * 2 + p) with g | ⟨j, hj, g⟩
    · simp only [uX6_keep_31, qX6_keep_31, jX6_keep_4_31, jX6_keep_17_28, jX6_keep_31_56, jX6_keep_45_56, uX6_keep_45, qX6_keep_45, jX6_keep_4_31, jX6_keep_17_28, jX6_keep_31_56, jX6_keep_45_56, c0_g0 h, c1_v h, bd_eq, cond_true, c_rowsKept h, g, xco_eq, Option.isNone_none, T]
    · have u : xN sc (d + 2) 58 [.inr (.inr (.inl (some (22 + 2 * j)))), .inr (.inr (.inl (some 52)))] (wl K s) = some (none, wl K (cpwS s (22 + 2 * j) 52)) := c_copyRows (RW2 h j hj) (cS_w h) (by omega)
      have u2 := cW_v (s := s) (RW2 h j hj)
      simp only [uX6_keep_31, qX6_keep_31, jX6_keep_4_31, jX6_keep_17_28, jX6_keep_31_56, jX6_keep_45_56, uX6_keep_45, qX6_keep_45, jX6_keep_4_31, jX6_keep_17_28, jX6_keep_31_56, jX6_keep_45_56, c0_g0 h, c0_g2 h, c43_g1 h, c1_v h, bd_eq, cond_true, cond_false, c_rowsKept h, g, xco_eq, Option.isNone_some, u, u2, xcv_eq, T]
theorem keeS_n {s : SG} {so p : Int32} {c : Nat} (hc : c < 3 ∨ 42 ≤ c) : keeS s so p c = s c := by
  unfold keeS
  rw [pt_n (by omega)]
  unfold kee1
  split
  · rcases kepO_c (x := p) with g | g | g <;> simp only [g]
    · exact cprS_n (by omega)
    · exact cprS_n (by omega)
  · rcases rkpO_c (x := (so - 1) * 2 + p) with g | ⟨j, hj, g⟩ <;> simp only [g]
    exact cpwS_n (by omega)
theorem keeS_TB {s : SG} {so p : Int32} (i : IR s) (h : TB s 1) : TB (keeS s so p) 1 := by
  have hp : TB (kee1 s so p) 1 := by
    unfold kee1
    split
    · rcases kepO_c (x := p) with g | g | g <;> simp only [g]
      · exact h
      · obtain ⟨h1, h2, h3, l, h4, h5⟩ := h
        exact ⟨cprS_SZ i.1, SZ_of (cprS_n (by omega)) h2, fun j hj => RZ_of (cprS_n (by omega)) (h3 j hj), l, by rw [cprS_n (by omega)]; exact h4, h5⟩
      · obtain ⟨h1, h2, h3, l, h4, h5⟩ := h
        exact ⟨SZ_of (cprS_n (by omega)) h1, cprS_SZ i.1, fun j hj => RZ_of (cprS_n (by omega)) (h3 j hj), l, by rw [cprS_n (by omega)]; exact h4, h5⟩
    · rcases rkpO_c (x := (so - 1) * 2 + p) with g | ⟨k, hk, g⟩ <;> simp only [g]
      · exact h
      · obtain ⟨h1, h2, h3, l, h4, h5⟩ := h
        refine ⟨SZ_of (cpwS_n (by omega)) h1, SZ_of (cpwS_n (by omega)) h2, fun j hj => ?_, l, by rw [cpwS_n (by omega)]; exact h4, h5⟩
        by_cases e : j = k
        · subst e; exact cpwS_RZ i.2
        · exact RZ_of (cpwS_n (by omega)) (h3 j hj)
  unfold keeS
  obtain ⟨h1, h2, h3, l, h4, h5⟩ := hp
  exact ⟨SZ_of (pt_n (by omega)) h1, SZ_of (pt_n (by omega)) h2, fun j hj => RZ_of (pt_n (by omega)) (h3 j hj), l, by rw [pt_n (by omega)]; exact h4, h5⟩
/-- a text is read -/
def le (s : SG) : Nat := (s 1 1).toNatClampNeg
def txt1 (s : SG) : SG := up (up (up s 1 1 0) 1 2 0) 1 3 (-1)
def txt2 (s : SG) (so : Int32) : SG := up (up (redS (txt1 s) 2 (le s) so) 1 2 (redS (txt1 s) 2 (le s) so 43 2)) 1 3 (redS (txt1 s) 2 (le s) so 43 3)
def texP (s : SG) (so at_ : Int32) : Int32 × SG := if plaI s so at_ = -1 then (-2, txt1 s) else if txt2 s so 43 2 = 0 then (plaI s so at_, keeS (txt2 s so) so (plaI s so at_)) else (-1, txt2 s so)
theorem c_text {s : SG} {so at_ : Int32} (h : SH K) (tb : TB s 1) : xN sc (d + 10) 75 [.inr (.inr (.inl (some 0))), .inl so, .inl at_] (wl K s) = some (some (.inl (texP s so at_).1), wl K (texP s so at_).2) := by
  obtain ⟨h1, h2, h3, l, h4, h5⟩ := tb
  have e : le s = l := by unfold le; rw [h4, nI_clamp (by omega)]
  have e4 : s 1 1 = nI (le s) := by rw [e]; exact h4
  have R := c_read (sc := sc) (d := d) (s := txt1 s) (so := so) (u := 2) (m := le s) h (K2 h) (by omega)
  unfold txt1 at R
  rw [mX6_text]
  simp only [uX6_text_0, qX6_text_0, jX6_text_45_48, jX6_text_103_105, c0_v h, cond_true, c_placeFor h, xci_eq, c0_g0 h, c1_g1 h, c1_p1 h, c1_p2 h, c1_p3 h, bd_eq, e4]
  unfold texP
  by_cases c1 : plaI s so at_ = -1
  · rw [if_pos c1, if_pos c1]
    simp only [uX6_text_45, qX6_text_45, jX6_text_45_48, jX6_text_103_105]
    rfl
  · rw [if_neg c1, if_neg c1]
    simp (decide := true) only [uX6_text_48, qX6_text_48, jX6_text_45_48, jX6_text_103_105, c0_g0 h, c0_g2 h, c1_g0 h, bd_eq, c43_v h, cond_true, R, xcv_eq, c43_g2 h, c43_g3 h, c1_p2 h, c1_p3 h, up_c]
    have e2 : txt2 s so 43 2 = redS (up (up (up s 1 1 0) 1 2 0) 1 3 (-1)) 2 (le s) so 43 2 := by unfold txt2 txt1; rw [up_c (by decide), up_c (by decide)]
    rw [← e2]
    by_cases c2 : txt2 s so 43 2 = 0
    · rw [if_pos c2, if_pos c2]
      simp only [uX6_text_105, qX6_text_105, jX6_text_45_48, jX6_text_103_105, c0_v h, cond_true, c_keep h, xcv_eq]
      rfl
    · rw [if_neg c2, if_neg c2]
      simp only [uX6_text_103, qX6_text_103, jX6_text_45_48, jX6_text_103_105]
      rfl
theorem txt2_n {s : SG} {so : Int32} {c : Nat} (hc : c ≠ 1) (ha : c < 42 ∨ 64 ≤ c) : txt2 s so c = s c := by
  unfold txt2 txt1
  rw [up_n hc, up_n hc, redS_lo ha, up_n hc, up_n hc, up_n hc]
theorem texP_n {s : SG} {so at_ : Int32} {c : Nat} (hc : 64 ≤ c) : (texP s so at_).2 c = s c := by
  unfold texP
  repeat' split
  · show txt1 s c = s c
    unfold txt1
    rw [up_n (by omega), up_n (by omega), up_n (by omega)]
  · show keeS _ _ _ c = s c
    rw [keeS_n (by omega), txt2_n (by omega) (by omega)]
  · exact txt2_n (by omega) (by omega)
theorem texP_TB {s : SG} {so at_ : Int32} (h : TB s 1) : TB (texP s so at_).2 1 := by
  have h2 : TB (txt2 s so) 1 := by
    obtain ⟨h1, h2, h3, l, h4, h5⟩ := h
    refine ⟨SZ_of (txt2_n (by omega) (by omega)) h1, SZ_of (txt2_n (by omega) (by omega)) h2, fun j hj => RZ_of (txt2_n (by omega) (by omega)) (h3 j hj), 0, ?_, by omega⟩
    unfold txt2 txt1
    simp (decide := true) only [up_b]
    rw [redS_lo (by omega)]
    simp (decide := true) only [up_a, up_b]
  unfold texP
  repeat' split
  · obtain ⟨h1, h2, h3, l, h4, h5⟩ := h
    show TB (up (up (up s 1 1 0) 1 2 0) 1 3 (-1)) 1
    refine ⟨SZ_of (by rw [up_n (by omega), up_n (by omega), up_n (by omega)]) h1, SZ_of (by rw [up_n (by omega), up_n (by omega), up_n (by omega)]) h2, fun j hj => RZ_of (by rw [up_n (by omega), up_n (by omega), up_n (by omega)]) (h3 j hj), 0, ?_, by omega⟩
    simp (decide := true) only [up_a, up_b]
  · refine keeS_TB ?_ h2
    have i : IR (redS (txt1 s) 2 (le s) so) := redS_IR
    unfold txt2
    exact IR_up (by decide) (by decide) (IR_up (by decide) (by decide) i)
  · exact h2
theorem feeP_TB {s : SG} {x y z u v : Int32} (h : TB s 1) : TB (feeP s x y z u v).2 1 := by
  obtain ⟨h1, h2, h3, l, h4, h5⟩ := h
  unfold feeP
  split
  · rename_i hc
    refine ⟨SZ_of (by simp (disch := omega) only [fdnS_n]) h1, SZ_of (by simp (disch := omega) only [fdnS_n]) h2, fun j hj => RZ_of (by simp (disch := omega) only [fdnS_n]) (h3 j hj), l + 20, ?_, ?_⟩
    · exact fdnS_len (fdnS_len (fdnS_len (fdnS_len (fdnS_len h4))))
    · rw [h4, show (20 : Int32) = nI 20 from rfl, nI_add, Int32.le_iff_toInt_le, nI_toInt (by omega)] at hc
      have : (600 : Int32).toInt = 600 := by decide
      omega
  · exact ⟨h1, h2, h3, l, h4, h5⟩
theorem feeP_n {s : SG} {x y z u v : Int32} {c : Nat} (hc : 42 ≤ c) : (feeP s x y z u v).2 c = s c := by
  unfold feeP
  split
  · simp (disch := omega) only [fdnS_n]
  · rfl
theorem endP_TB {s : SG} {n : Int32} (h : TB s 1) : TB (endP s n).2 1 := by
  obtain ⟨h1, h2, h3, l, h4, h5⟩ := h
  unfold endP
  repeat' split
  · exact ⟨h1, h2, h3, l, h4, h5⟩
  · rename_i c1 c2
    show TB (up s 1 1 n) 1
    refine ⟨SZ_of (up_n (by omega)) h1, SZ_of (up_n (by omega)) h2, fun j hj => RZ_of (up_n (by omega)) (h3 j hj), n.toNatClampNeg, ?_, ?_⟩
    · show up s 1 1 n 1 1 = _
      rw [up_a]
      exact (Int32.ofNat_toNatClampNeg n (Int32.not_lt.mp c1)).symm
    · rw [h4, Int32.le_iff_toInt_le, nI_toInt (by omega)] at c2
      have : (n.toNatClampNeg : Int) = n.toInt := Int32.cast_toNatClampNeg n (Int32.not_lt.mp c1)
      omega
  · exact ⟨h1, h2, h3, l, h4, h5⟩
theorem endP_n {s : SG} {n : Int32} {c : Nat} (hc : 42 ≤ c) : (endP s n).2 c = s c := by
  unfold endP
  repeat' split
  all_goals first | rfl | exact up_n (by omega)
end XCO
