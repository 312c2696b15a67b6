section
section XCO
variable {sc : Nat × (Nat → Int32)} {d : Nat} {K : List KD} {r q t a B m : Nat} {w : EW}
/-! the tape, copies, texts -/
theorem up_bn {s : SG} {k i j : Nat} {x : Int32} (h : i ≠ j) : up s k j x k i = s k i := by rw [up_s, pk_un h]
def bytI (x k : Int32) : Int32 := (Int32.toUInt32 x >>> (Int32.toUInt32 k &&& Int32.toUInt32 31)).toInt32 &&& 255
def fd1 (s : SG) (v : Int32) : SG := up (pt 600 s 2 (s 1 1) v) 1 1 (s 1 1 + 1)
def fdnS (s : SG) (x : Int32) : SG := fd1 (fd1 (fd1 (fd1 s (bytI x 24)) (bytI x 16)) (bytI x 8)) (bytI x 0)
theorem s_feedNumber {s : SG} {x y : Int32} {k : Nat} (h : SH K) (hy : ¬ y < 0) {R : XR} (e : fW sc 6 0 false 3 (xN sc (d + 1)) (ex sc 6 0 false 3 (xN sc (d + 1)) kX6_feedNumber_0 k) kX6_feedNumber_3 3 [some (.inr (.inr (.inl (some 0)))), some (.inl x), some (.inl (y + -8))] [] (wl K (fd1 s (bytI x y))) = R) : fW sc 6 0 false 3 (xN sc (d + 1)) (ex sc 6 0 false 3 (xN sc (d + 1)) kX6_feedNumber_0 (k + 1)) kX6_feedNumber_3 3 [some (.inr (.inr (.inl (some 0)))), some (.inl x), some (.inl y)] [] (wl K s) = R := by
  unfold fd1 bytI at e
  simp only [uX6_feedNumber_3, qX6_feedNumber_3, jX6_feedNumber_7_50, jX6_feedNumber_0_3, if_neg hy]
  simp (decide := true) only [uX6_feedNumber_7, qX6_feedNumber_7, jX6_feedNumber_7_50, jX6_feedNumber_0_3, c0_g0 h, c1_g0 h, c1_g1 h, bd_eq, kc2 h, xcv_eq, pt_c, c1_p1 h, eX_eq]
  exact e
theorem c_feedNumber {s : SG} {x : Int32} (h : SH K) : xN sc (d + 2) 73 [.inr (.inr (.inl (some 0))), .inl x] (wl K s) = some (none, wl K (fdnS s x)) := by
  obtain ⟨k, hk⟩ : ∃ k, xF = k + 1 + 1 + 1 + 1 := ⟨xF - 4, by have := xF_ge; omega⟩
  have a1 : (24 : Int32) + -8 = 16 := by decide
  have a2 : (16 : Int32) + -8 = 8 := by decide
  have a3 : (8 : Int32) + -8 = 0 := by decide
  have a4 : (0 : Int32) + -8 = -8 := by decide
  rw [mX6_feedNumber, hk]
  simp only [uX6_feedNumber_0, qX6_feedNumber_0, jX6_feedNumber_7_50, jX6_feedNumber_0_3]
  refine s_feedNumber h (by decide) ?_
  rw [a1]
  refine s_feedNumber h (by decide) ?_
  rw [a2]
  refine s_feedNumber h (by decide) ?_
  rw [a3]
  refine s_feedNumber h (by decide) ?_
  rw [a4]
  simp only [uX6_feedNumber_3, qX6_feedNumber_3, jX6_feedNumber_7_50, jX6_feedNumber_0_3]
  rw [if_pos (by decide)]
  simp only [uX6_feedNumber_50, qX6_feedNumber_50, jX6_feedNumber_7_50, jX6_feedNumber_0_3]
  unfold fdnS
  rfl
theorem fdnS_n {s : SG} {x : Int32} {c : Nat} (h1 : c ≠ 1) (h2 : c ≠ 2) : fdnS s x c = s c := by
  unfold fdnS fd1
  simp only [up_n h1, pt_n h2]
theorem fdnS_len {s : SG} {x : Int32} {l : Nat} (h : s 1 1 = nI l) : fdnS s x 1 1 = nI (l + 4) := by
  have e : ∀ (s : SG) (v : Int32) (l : Nat), s 1 1 = nI l → fd1 s v 1 1 = nI (l + 1) := by
    intro s v l h
    unfold fd1
    rw [up_a, h, nI_succ]
  exact e _ _ _ (e _ _ _ (e _ _ _ (e _ _ _ h)))
def feeP (s : SG) (x : Int32) (y : Int32) (z : Int32) (u : Int32) (v : Int32) : Int32 × SG := if ((s 1 1) + 20) ≤ 600 then ((fdnS (fdnS (fdnS (fdnS (fdnS s x) y) z) u) v) 1 1, fdnS (fdnS (fdnS (fdnS (fdnS s x) y) z) u) v) else (-1, s)
theorem c_feed {s : SG} {x : Int32} {y : Int32} {z : Int32} {u : Int32} {v : Int32}  (h : SH K) : xN sc (d + 3) 72 [.inr (.inr (.inl (some 0))), .inl x, .inl y, .inl z, .inl u, .inl v] (wl K s) = some (some (.inl (feeP s x y z u v).1), wl K (feeP s x y z u v).2) := by
  rw [mX6_feed]
  simp (decide := true) (maxDischargeDepth := 40) only [uX6_feed_0, uX6_feed_16, uX6_feed_18, qX6_feed_0, qX6_feed_16, qX6_feed_18, jX6_feed_16_18, c0_g0 h, bd_eq, c1_g1 h, c0_v h, cond_true, c_feedNumber h, xcv_eq, RS_43, RS_up, RS_pt, RS_fl, RS_cp, IR_up, IR_44, IR_52, IR_pt, IR_fl, IR_cp, advS_IR, RS_adv, admS_IR, adwS_IR, adwS_RS, clrS_RS, clwS_RS, admS_RS, setNW_RS, setNW_IR, setN_RS, setN_IR, takSL_RS, takSL_IR, takSW_RS, takSW_IR, takS_RS, takS_IR, stwS_RS, stwS_IR, notS_RS, notS_IR, refP_RS, refP_IR, couS_RS, couS_IR, ttoS_RS, ttoS_IR, tkoS_RS, tkoS_IR, tkeSW_RS, tkeSW_IR, tkeS_RS, tkeS_IR, resP_RS, resP_IR, rnuP_RS, rnuP_IR, reaP_RS, reaP_IR, rpaP_RS, rpaP_IR, rlT_RS, rlT_IR, rlL_RS, rlL_IR, up_a, up_b, up_c, pt_c, fl_c, cp_c]
  first | done | (unfold feeP; first | done | with_reducible_and_instances rfl | ((repeat' split) <;> first | with_reducible_and_instances rfl | contradiction | exact absurd ‹(1 : Int32) = 0› (by decide) | exact absurd rfl ‹¬ (0 : Int32) = 0› | exact absurd rfl ‹¬ (1 : Int32) = 1› | (exfalso; rename_i h1 h2; exact h1 (by rw [h2]; exact Int32.le_refl _))))
def endP (s : SG) (n : Int32) : Int32 × SG := if n < 0 then (-1, s) else if n ≤ (s 1 1) then (n, up s 1 1 n) else (-1, s)
theorem c_end {s : SG} {n : Int32}  (h : SH K) : xN sc (d + 1) 74 [.inr (.inr (.inl (some 0))), .inl n] (wl K s) = some (some (.inl (endP s n).1), wl K (endP s n).2) := by
  rw [mX6_end]
  simp (decide := true) (maxDischargeDepth := 40) only [uX6_end_0, uX6_end_4, uX6_end_15, uX6_end_17, qX6_end_0, qX6_end_4, qX6_end_15, qX6_end_17, jX6_end_4_15, jX6_end_15_17, c0_g0 h, bd_eq, c1_g1 h, c1_p1 h, RS_43, RS_up, RS_pt, RS_fl, RS_cp, IR_up, IR_44, IR_52, IR_pt, IR_fl, IR_cp, advS_IR, RS_adv, admS_IR, adwS_IR, adwS_RS, clrS_RS, clwS_RS, admS_RS, setNW_RS, setNW_IR, setN_RS, setN_IR, takSL_RS, takSL_IR, takSW_RS, takSW_IR, takS_RS, takS_IR, stwS_RS, stwS_IR, notS_RS, notS_IR, refP_RS, refP_IR, couS_RS, couS_IR, ttoS_RS, ttoS_IR, tkoS_RS, tkoS_IR, tkeSW_RS, tkeSW_IR, tkeS_RS, tkeS_IR, resP_RS, resP_IR, rnuP_RS, rnuP_IR, reaP_RS, reaP_IR, rpaP_RS, rpaP_IR, rlT_RS, rlT_IR, rlL_RS, rlL_IR, up_a, up_b, up_c, pt_c, fl_c, cp_c]
  first | done | (unfold endP; first | done | with_reducible_and_instances rfl | ((repeat' split) <;> first | with_reducible_and_instances rfl | contradiction | exact absurd ‹(1 : Int32) = 0› (by decide) | exact absurd rfl ‹¬ (0 : Int32) = 0› | exact absurd rfl ‹¬ (1 : Int32) = 1› | (exfalso; rename_i h1 h2; exact h1 (by rw [h2]; exact Int32.le_refl _))))
def plaI (s : SG) (so : Int32) (at_ : Int32) : Int32 := if so < 0 then -1 else if so < 6 then (if at_ = (-1) then (if 2 ≤ (cl 6 (s 3) so) then -1 else cl 6 (s 3) so) else if at_ < 0 then -1 else if (cl 6 (s 3) so) ≤ at_ then -1 else at_) else -1
theorem c_placeFor {s : SG} {so : Int32} {at_ : Int32}  (h : SH K) : xN sc (d + 2) 76 [.inr (.inr (.inl (some 0))), .inl so, .inl at_] (wl K s) = some (some (.inl (plaI s so at_)), wl K s) := by
  rw [mX6_placeFor]
  simp (decide := true) (maxDischargeDepth := 40) only [uX6_placeFor_0, uX6_placeFor_4, uX6_placeFor_10, uX6_placeFor_12, uX6_placeFor_29, uX6_placeFor_34, uX6_placeFor_38, uX6_placeFor_39, uX6_placeFor_40, uX6_placeFor_44, uX6_placeFor_49, uX6_placeFor_53, uX6_placeFor_54, qX6_placeFor_0, qX6_placeFor_4, qX6_placeFor_10, qX6_placeFor_12, qX6_placeFor_29, qX6_placeFor_34, qX6_placeFor_38, qX6_placeFor_39, qX6_placeFor_40, qX6_placeFor_44, qX6_placeFor_49, qX6_placeFor_53, qX6_placeFor_54, jX6_placeFor_4_10, jX6_placeFor_10_12, jX6_placeFor_29_40, jX6_placeFor_34_38, jX6_placeFor_38_39, jX6_placeFor_44_53, jX6_placeFor_49_53, jX6_placeFor_53_54, c0_g0 h, bd_eq, c1_g4 h, xci_eq, lc3 h, RS_43, RS_up, RS_pt, RS_fl, RS_cp, IR_up, IR_44, IR_52, IR_pt, IR_fl, IR_cp, advS_IR, RS_adv, admS_IR, adwS_IR, adwS_RS, clrS_RS, clwS_RS, admS_RS, setNW_RS, setNW_IR, setN_RS, setN_IR, takSL_RS, takSL_IR, takSW_RS, takSW_IR, takS_RS, takS_IR, stwS_RS, stwS_IR, notS_RS, notS_IR, refP_RS, refP_IR, couS_RS, couS_IR, ttoS_RS, ttoS_IR, tkoS_RS, tkoS_IR, tkeSW_RS, tkeSW_IR, tkeS_RS, tkeS_IR, resP_RS, resP_IR, rnuP_RS, rnuP_IR, reaP_RS, reaP_IR, rpaP_RS, rpaP_IR, rlT_RS, rlT_IR, rlL_RS, rlL_IR, up_a, up_b, up_c, pt_c, fl_c, cp_c]
  first | done | (unfold plaI; first | done | with_reducible_and_instances rfl | ((repeat' split) <;> first | with_reducible_and_instances rfl | contradiction | exact absurd ‹(1 : Int32) = 0› (by decide) | exact absurd rfl ‹¬ (0 : Int32) = 0› | exact absurd rfl ‹¬ (1 : Int32) = 1› | (exfalso; rename_i h1 h2; exact h1 (by rw [h2]; exact Int32.le_refl _))))
def cprS (s : SG) (r t : Nat) : SG := up (up (up (up (up (up (cpS 3 (cpS 6 (cpS 72 (cpS 6 (cpS 6 (cpS 6 (cpS 6 (up (s) r 0 (s t 0)) (t + 1) (r + 1)) (t + 2) (r + 2)) (t + 3) (r + 3)) (t + 4) (r + 4)) (t + 5) (r + 5)) (t + 6) (r + 6)) (t + 7) (r + 7)) r 8 (s t 8)) r 9 (s t 9)) r 10 (s t 10)) r 11 (s t 11)) r 12 (s t 12)) r 13 (s t 13)
theorem c_copyRepublic {s : SG} (hr : RP K r) (ht : RP K t) (hd : r + 8 ≤ t ∨ t + 8 ≤ r) : xN sc (d + 2) 42 [.inr (.inr (.inl (some r))), .inr (.inr (.inl (some t)))] (wl K s) = some (none, wl K (cprS s r t)) := by
  rw [mX2_copyRepublic]
  simp (disch := omega) only [uX2_copyRepublic_0, qX2_copyRepublic_0, cR_g0 ht, cR_p0 hr, cR_g8 ht, cR_p8 hr, cR_g9 ht, cR_p9 hr, cR_g10 ht, cR_p10 hr, cR_g11 ht, cR_p11 hr, cR_g12 ht, cR_p12 hr, cR_g13 ht, cR_p13 hr, cR_g1 ht, cR_g1 hr, cR_g2 ht, cR_g2 hr, cR_g3 ht, cR_g3 hr, cR_g4 ht, cR_g4 hr, cR_g5 ht, cR_g5 hr, cR_g6 ht, cR_g6 hr, cR_g7 ht, cR_g7 hr, c_copy6 (ht.2.1) (hr.2.1), c_copy6 (ht.2.2.1) (hr.2.2.1), c_copy6 (ht.2.2.2.1) (hr.2.2.2.1), c_copy6 (ht.2.2.2.2.1) (hr.2.2.2.2.1), c_copy72 (ht.2.2.2.2.2.1) (hr.2.2.2.2.2.1), c_copy6 (ht.2.2.2.2.2.2.1) (hr.2.2.2.2.2.2.1), c_copy3 (ht.2.2.2.2.2.2.2) (hr.2.2.2.2.2.2.2), bd_eq, xcv_eq, up_n, cp_n, up_bn]
  rfl
theorem cprS_n {s : SG} {c : Nat} (h : c < r ∨ r + 8 ≤ c) : cprS s r t c = s c := by
  unfold cprS
  simp (disch := omega) only [up_n, cp_n]
theorem cprS_0 {s : SG} : cprS s r t r 0 = s t 0 := by
  unfold cprS
  simp (disch := omega) only [up_bn, cp_n, up_a]
theorem cprS_SZ {s : SG} (h : SZ s t) : SZ (cprS s r t) r := by
  unfold SZ sz at *
  rw [cprS_0]; exact h
def cpwS (s : SG) (q t : Nat) : SG := cpS 200 (up s q 0 (s t 0)) (t + 1) (q + 1)
theorem c_copyRows {s : SG} (hq : RW K q) (ht : RW K t) (hd : q + 2 ≤ t ∨ t + 2 ≤ q) : xN sc (d + 2) 58 [.inr (.inr (.inl (some q))), .inr (.inr (.inl (some t)))] (wl K s) = some (none, wl K (cpwS s q t)) := by
  rw [mX3_copyRows]
  simp only [uX3_copyRows_0, qX3_copyRows_0, cW_g0 ht, cW_p0 hq, cW_g1 ht, cW_g1 hq, bd_eq, c_copy200 ht.2 hq.2, xcv_eq]
  rfl
theorem cpwS_n {s : SG} {c : Nat} (h : c < q ∨ q + 2 ≤ c) : cpwS s q t c = s c := by
  unfold cpwS
  simp (disch := omega) only [up_n, cp_n]
theorem cpwS_0 {s : SG} : cpwS s q t q 0 = s t 0 := by
  unfold cpwS
  rw [cp_n (by omega), up_a]
theorem cpwS_RZ {s : SG} (h : RZ s t) : RZ (cpwS s q t) q := by
  unfold RZ rz at *
  rw [cpwS_0]; exact h
/-- what is told at B is as a text can tell it -/
def TB (s : SG) (B : Nat) : Prop := SZ s (B + 5) ∧ SZ s (B + 13) ∧ (∀ j, j < 10 → RZ s (B + 21 + 2 * j)) ∧ ∃ l, s B 1 = nI l ∧ l ≤ 600
theorem TB_TV {s : SG} (h : TB s 1) : TV s := ⟨h.1, h.2.1, h.2.2.1⟩
theorem SZ_of {s t : SG} {r : Nat} (e : t r = s r) (h : SZ s r) : SZ t r := by unfold SZ sz at *; rw [e]; exact h
theorem RZ_of {s t : SG} {r : Nat} (e : t r = s r) (h : RZ s r) : RZ t r := by unfold RZ rz at *; rw [e]; exact h
theorem TB_of {s t : SG} {B : Nat} (e : ∀ c, B ≤ c → c < B + 41 → t c = s c) (h : TB s B) : TB t B := by
  obtain ⟨h1, h2, h3, l, h4, h5⟩ := h
  refine ⟨SZ_of (e _ (by omega) (by omega)) h1, SZ_of (e _ (by omega) (by omega)) h2, fun j hj => RZ_of (e _ (by omega) (by omega)) (h3 j hj), l, ?_, h5⟩
  rw [e _ (by omega) (by omega)]; exact h4
/-- a text is kept -/
def kee1 (s : SG) (so p : Int32) : SG := if so = 0 then (match kepO p with
    | none => s
    | some r => cprS s r 44) else (match rkpO ((so - 1) * 2 + p) with
    | none => s
    | some q => cpwS s q 52)
def keeS (s : SG) (so p : Int32) : SG := pt 6 (kee1 s so p) 3 so (if cl 6 (kee1 s so p 3) so < p + 1 then p + 1 else cl 6 (kee1 s so p 3) so)
theorem c_keep {s : SG} {so p : Int32} (h : SH K) : xN sc (d + 3) 77 [.inr (.inr (.inl (some 0))), .inl so, .inl p] (wl K s) = some (none, wl K (keeS s so p)) := by
  rw [mX6_keep]
  have T : ∀ (s : SG) (z : Option Nat), fW sc 6 0 false 4 (xN sc (d + 2)) (ex sc 6 0 false 4 (xN sc (d + 2)) kX6_keep_0 xF) kX6_keep_56 56 [some (.inr (.inr (.inl (some 0)))), some (.inl so), some (.inl p), some (.inr (.inr (.inl z)))] [] (wl K s) = some (none, wl K (pt 6 s 3 so (if cl 6 (s 3) so < p + 1 then p + 1 else cl 6 (s 3) so))) := by
    intro s z
    simp only [uX6_keep_56, qX6_keep_56, jX6_keep_4_31, jX6_keep_17_28, jX6_keep_31_56, jX6_keep_45_56, c0_g0 h, c1_g4 h, bd_eq, lc3 h, kc3 h, xci_eq, xcv_eq]
  unfold keeS
  by_cases c1 : so = 0
  · have e : kee1 s so p = (match kepO p with
      | none => s
      | some r => cprS s r 44) := by unfold kee1; rw [if_pos c1]
    rw [e]
    simp only [uX6_keep_0, qX6_keep_0, jX6_keep_4_31, jX6_keep_17_28, jX6_keep_31_56, jX6_keep_45_56, if_pos c1]
    rcases kepO_c (x := p) with g | g | g
    · simp only [uX6_keep_4, qX6_keep_4, jX6_keep_4_31, jX6_keep_17_28, jX6_keep_31_56, jX6_keep_45_56, uX6_keep_17, uX6_keep_28, uX6_keep_31, qX6_keep_17, qX6_keep_28, qX6_keep_31, jX6_keep_4_31, jX6_keep_17_28, jX6_keep_31_56, jX6_keep_45_56, c0_g0 h, c1_v h, bd_eq, cond_true, c_republicKept h, g, xco_eq, Option.isNone_none, T]
    · have u : xN sc (d + 2) 42 [.inr (.inr (.inl (some 6))), .inr (.inr (.inl (some 44)))] (wl K s) = some (none, wl K (cprS s 6 44)) := c_copyRepublic (RP6 h) (cS_r h) (by omega)
      have u2 : xrv (wl K s) 2 (.inr (.inr (.inl (some 6)))) = true := cR_v (RP6 h)
      simp only [uX6_keep_4, qX6_keep_4, jX6_keep_4_31, jX6_keep_17_28, jX6_keep_31_56, jX6_keep_45_56, uX6_keep_17, uX6_keep_28, uX6_keep_31, qX6_keep_17, qX6_keep_28, qX6_keep_31, jX6_keep_4_31, jX6_keep_17_28, jX6_keep_31_56, jX6_keep_45_56, c0_g0 h, c0_g2 h, c43_g0 h, c1_v h, bd_eq, cond_true, cond_false, c_republicKept h, g, xco_eq, Option.isNone_some, u, u2, xcv_eq, T]
    · have u : xN sc (d + 2) 42 [.inr (.inr (.inl (some 14))), .inr (.inr (.inl (some 44)))] (wl K s) = some (none, wl K (cprS s 14 44)) := c_copyRepublic (RP14 h) (cS_r h) (by omega)
      have u2 : xrv (wl K s) 2 (.inr (.inr (.inl (some 14)))) = true := cR_v (RP14 h)
      simp only [uX6_keep_4, qX6_keep_4, jX6_keep_4_31, jX6_keep_17_28, jX6_keep_31_56, jX6_keep_45_56, uX6_keep_17, uX6_keep_28, uX6_keep_31, qX6_keep_17, qX6_keep_28, qX6_keep_31, jX6_keep_4_31, jX6_keep_17_28, jX6_keep_31_56, jX6_keep_45_56, c0_g0 h, c0_g2 h, c43_g0 h, c1_v h, bd_eq, cond_true, cond_false, c_republicKept h, g, xco_eq, Option.isNone_some, u, u2, xcv_eq, T]
  · have e : kee1 s so p = (match rkpO ((so - 1) * 2 + p) with
      | none => s
      | some q => cpwS s q 52) := by unfold kee1; rw [if_neg c1]
    rw [e]
    simp only [uX6_keep_0, qX6_keep_0, jX6_keep_4_31, jX6_keep_17_28, jX6_keep_31_56, jX6_keep_45_56, if_neg c1]
    rcases rkpO_c (x := (so - 1) * 2 + p) with g | ⟨j, hj, g⟩
    · simp only [uX6_keep_31, qX6_keep_31, jX6_keep_4_31, jX6_keep_17_28, jX6_keep_31_56, jX6_keep_45_56, uX6_keep_45, qX6_keep_45, jX6_keep_4_31, jX6_keep_17_28, jX6_keep_31_56, jX6_keep_45_56, c0_g0 h, c1_v h, bd_eq, cond_true, c_rowsKept h, g, xco_eq, Option.isNone_none, T]
    · have u : xN sc (d + 2) 58 [.inr (.inr (.inl (some (22 + 2 * j)))), .inr (.inr (.inl (some 52)))] (wl K s) = some (none, wl K (cpwS s (22 + 2 * j) 52)) := c_copyRows (RW2 h j hj) (cS_w h) (by omega)
      have u2 := cW_v (s := s) (RW2 h j hj)
      simp only [uX6_keep_31, qX6_keep_31, jX6_keep_4_31, jX6_keep_17_28, jX6_keep_31_56, jX6_keep_45_56, uX6_keep_45, qX6_keep_45, jX6_keep_4_31, jX6_keep_17_28, jX6_keep_31_56, jX6_keep_45_56, c0_g0 h, c0_g2 h, c43_g1 h, c1_v h, bd_eq, cond_true, cond_false, c_rowsKept h, g, xco_eq, Option.isNone_some, u, u2, xcv_eq, T]
theorem keeS_n {s : SG} {so p : Int32} {c : Nat} (hc : c < 3 ∨ 42 ≤ c) : keeS s so p c = s c := by
  unfold keeS
  rw [pt_n (by omega)]
  unfold kee1
  split
  · rcases kepO_c (x := p) with g | g | g <;> simp only [g]
    · exact cprS_n (by omega)
    · exact cprS_n (by omega)
  · rcases rkpO_c (x := (so - 1) * 2 + p) with g | ⟨j, hj, g⟩ <;> simp only [g]
    exact cpwS_n (by omega)
theorem keeS_TB {s : SG} {so p : Int32} (i : IR s) (h : TB s 1) : TB (keeS s so p) 1 := by
  have hp : TB (kee1 s so p) 1 := by
    unfold kee1
    split
    · rcases kepO_c (x := p) with g | g | g <;> simp only [g]
      · exact h
      · obtain ⟨h1, h2, h3, l, h4, h5⟩ := h
        exact ⟨cprS_SZ i.1, SZ_of (cprS_n (by omega)) h2, fun j hj => RZ_of (cprS_n (by omega)) (h3 j hj), l, by rw [cprS_n (by omega)]; exact h4, h5⟩
      · obtain ⟨h1, h2, h3, l, h4, h5⟩ := h
        exact ⟨SZ_of (cprS_n (by omega)) h1, cprS_SZ i.1, fun j hj => RZ_of (cprS_n (by omega)) (h3 j hj), l, by rw [cprS_n (by omega)]; exact h4, h5⟩
    · rcases rkpO_c (x := (so - 1) * 2 + p) with g | ⟨k, hk, g⟩ <;> simp only [g]
      · exact h
      · obtain ⟨h1, h2, h3, l, h4, h5⟩ := h
        refine ⟨SZ_of (cpwS_n (by omega)) h1, SZ_of (cpwS_n (by omega)) h2, fun j hj => ?_, l, by rw [cpwS_n (by omega)]; exact h4, h5⟩
        by_cases e : j = k
        · subst e; exact cpwS_RZ i.2
        · exact RZ_of (cpwS_n (by omega)) (h3 j hj)
  unfold keeS
  obtain ⟨h1, h2, h3, l, h4, h5⟩ := hp
  exact ⟨SZ_of (pt_n (by omega)) h1, SZ_of (pt_n (by omega)) h2, fun j hj => RZ_of (pt_n (by omega)) (h3 j hj), l, by rw [pt_n (by omega)]; exact h4, h5⟩
/-- a text is read -/
def le (s : SG) : Nat := (s 1 1).toNatClampNeg
def txt1 (s : SG) : SG := up (up (up s 1 1 0) 1 2 0) 1 3 (-1)
def txt2 (s : SG) (so : Int32) : SG := up (up (redS (txt1 s) 2 (le s) so) 1 2 (redS (txt1 s) 2 (le s) so 43 2)) 1 3 (redS (txt1 s) 2 (le s) so 43 3)
def texP (s : SG) (so at_ : Int32) : Int32 × SG := if plaI s so at_ = -1 then (-2, txt1 s) else if txt2 s so 43 2 = 0 then (plaI s so at_, keeS (txt2 s so) so (plaI s so at_)) else (-1, txt2 s so)
theorem c_text {s : SG} {so at_ : Int32} (h : SH K) (tb : TB s 1) : xN sc (d + 10) 75 [.inr (.inr (.inl (some 0))), .inl so, .inl at_] (wl K s) = some (some (.inl (texP s so at_).1), wl K (texP s so at_).2) := by
  obtain ⟨h1, h2, h3, l, h4, h5⟩ := tb
  have e : le s = l := by unfold le; rw [h4, nI_clamp (by omega)]
  have e4 : s 1 1 = nI (le s) := by rw [e]; exact h4
  have R := c_read (sc := sc) (d := d) (s := txt1 s) (so := so) (u := 2) (m := le s) h (K2 h) (by omega)
  unfold txt1 at R
  rw [mX6_text]
  simp only [uX6_text_0, qX6_text_0, jX6_text_45_48, jX6_text_103_105, c0_v h, cond_true, c_placeFor h, xci_eq, c0_g0 h, c1_g1 h, c1_p1 h, c1_p2 h, c1_p3 h, bd_eq, e4]
  unfold texP
  by_cases c1 : plaI s so at_ = -1
  · rw [if_pos c1, if_pos c1]
    simp only [uX6_text_45, qX6_text_45, jX6_text_45_48, jX6_text_103_105]
    rfl
  · rw [if_neg c1, if_neg c1]
    simp (decide := true) only [uX6_text_48, qX6_text_48, jX6_text_45_48, jX6_text_103_105, c0_g0 h, c0_g2 h, c1_g0 h, bd_eq, c43_v h, cond_true, R, xcv_eq, c43_g2 h, c43_g3 h, c1_p2 h, c1_p3 h, up_c]
    have e2 : txt2 s so 43 2 = redS (up (up (up s 1 1 0) 1 2 0) 1 3 (-1)) 2 (le s) so 43 2 := by unfold txt2 txt1; rw [up_c (by decide), up_c (by decide)]
    rw [← e2]
    by_cases c2 : txt2 s so 43 2 = 0
    · rw [if_pos c2, if_pos c2]
      simp only [uX6_text_105, qX6_text_105, jX6_text_45_48, jX6_text_103_105, c0_v h, cond_true, c_keep h, xcv_eq]
      rfl
    · rw [if_neg c2, if_neg c2]
      simp only [uX6_text_103, qX6_text_103, jX6_text_45_48, jX6_text_103_105]
      rfl
theorem txt2_n {s : SG} {so : Int32} {c : Nat} (hc : c ≠ 1) (ha : c < 42 ∨ 64 ≤ c) : txt2 s so c = s c := by
  unfold txt2 txt1
  rw [up_n hc, up_n hc, redS_lo ha, up_n hc, up_n hc, up_n hc]
theorem texP_n {s : SG} {so at_ : Int32} {c : Nat} (hc : 64 ≤ c) : (texP s so at_).2 c = s c := by
  unfold texP
  repeat' split
  · show txt1 s c = s c
    unfold txt1
    rw [up_n (by omega), up_n (by omega), up_n (by omega)]
  · show keeS _ _ _ c = s c
    rw [keeS_n (by omega), txt2_n (by omega) (by omega)]
  · exact txt2_n (by omega) (by omega)
theorem texP_TB {s : SG} {so at_ : Int32} (h : TB s 1) : TB (texP s so at_).2 1 := by
  have h2 : TB (txt2 s so) 1 := by
    obtain ⟨h1, h2, h3, l, h4, h5⟩ := h
    refine ⟨SZ_of (txt2_n (by omega) (by omega)) h1, SZ_of (txt2_n (by omega) (by omega)) h2, fun j hj => RZ_of (txt2_n (by omega) (by omega)) (h3 j hj), 0, ?_, by omega⟩
    unfold txt2 txt1
    simp (decide := true) only [up_b]
    rw [redS_lo (by omega)]
    simp (decide := true) only [up_a, up_b]
  unfold texP
  repeat' split
  · obtain ⟨h1, h2, h3, l, h4, h5⟩ := h
    show TB (up (up (up s 1 1 0) 1 2 0) 1 3 (-1)) 1
    refine ⟨SZ_of (by rw [up_n (by omega), up_n (by omega), up_n (by omega)]) h1, SZ_of (by rw [up_n (by omega), up_n (by omega), up_n (by omega)]) h2, fun j hj => RZ_of (by rw [up_n (by omega), up_n (by omega), up_n (by omega)]) (h3 j hj), 0, ?_, by omega⟩
    simp (decide := true) only [up_a, up_b]
  · refine keeS_TB ?_ h2
    have i : IR (redS (txt1 s) 2 (le s) so) := redS_IR
    unfold txt2
    exact IR_up (by decide) (by decide) (IR_up (by decide) (by decide) i)
  · exact h2
theorem feeP_TB {s : SG} {x y z u v : Int32} (h : TB s 1) : TB (feeP s x y z u v).2 1 := by
  obtain ⟨h1, h2, h3, l, h4, h5⟩ := h
  unfold feeP
  split
  · rename_i hc
    refine ⟨SZ_of (by simp (disch := omega) only [fdnS_n]) h1, SZ_of (by simp (disch := omega) only [fdnS_n]) h2, fun j hj => RZ_of (by simp (disch := omega) only [fdnS_n]) (h3 j hj), l + 20, ?_, ?_⟩
    · exact fdnS_len (fdnS_len (fdnS_len (fdnS_len (fdnS_len h4))))
    · rw [h4, show (20 : Int32) = nI 20 from rfl, nI_add, Int32.le_iff_toInt_le, nI_toInt (by omega)] at hc
      have : (600 : Int32).toInt = 600 := by decide
      omega
  · exact ⟨h1, h2, h3, l, h4, h5⟩
theorem feeP_n {s : SG} {x y z u v : Int32} {c : Nat} (hc : 42 ≤ c) : (feeP s x y z u v).2 c = s c := by
  unfold feeP
  split
  · simp (disch := omega) only [fdnS_n]
  · rfl
theorem endP_TB {s : SG} {n : Int32} (h : TB s 1) : TB (endP s n).2 1 := by
  obtain ⟨h1, h2, h3, l, h4, h5⟩ := h
  unfold endP
  repeat' split
  · exact ⟨h1, h2, h3, l, h4, h5⟩
  · rename_i c1 c2
    show TB (up s 1 1 n) 1
    refine ⟨SZ_of (up_n (by omega)) h1, SZ_of (up_n (by omega)) h2, fun j hj => RZ_of (up_n (by omega)) (h3 j hj), n.toNatClampNeg, ?_, ?_⟩
    · show up s 1 1 n 1 1 = _
      rw [up_a]
      exact (Int32.ofNat_toNatClampNeg n (Int32.not_lt.mp c1)).symm
    · rw [h4, Int32.le_iff_toInt_le, nI_toInt (by omega)] at c2
      have : (n.toNatClampNeg : Int) = n.toInt := Int32.cast_toNatClampNeg n (Int32.not_lt.mp c1)
      omega
  · exact ⟨h1, h2, h3, l, h4, h5⟩
theorem endP_n {s : SG} {n : Int32} {c : Nat} (hc : 42 ≤ c) : (endP s n).2 c = s c := by
  unfold endP
  repeat' split
  all_goals first | rfl | exact up_n (by omega)
end XCO
end
section
section XCP
variable {sc : Nat × (Nat → Int32)} {d : Nat} {K : List KD} {r q t a B m : Nat} {w : EW}
/-! new objects: what the constructors make behind a world -/
theorem xpA {w L : EW} {ci j k : Nat} {v : EV} {fs : List EV} (hk : L[k]? = some (cO ci fs)) (hj : Nat.blt j fs.length = true) : xp (w ++ L) ci j v (.inr (.inr (.inl (some (w.length + k))))) = some (w ++ L.set k (cO ci (fs.set j v))) := by
  have e : (w ++ L)[w.length + k]? = some (cO ci fs) := by
    rw [List.getElem?_append_right (by omega), Nat.add_sub_cancel_left]; exact hk
  unfold xp
  simp only [e, Nat.beq_refl, hj, Bool.and_self, cond_true, Option.some.injEq]
  rw [List.set_append_right _ _ (by omega), Nat.add_sub_cancel_left]
theorem xgaA {w L : EW} {ci j k : Nat} {u : Option Nat} {fs : List EV} (hk : L[k]? = some (cO ci fs)) (hj : fs[j]? = some (eO u)) : xga (w ++ L) ci j (.inr (.inr (.inl (some (w.length + k))))) = some u := by
  have e : (w ++ L)[w.length + k]? = some (cO ci fs) := by
    rw [List.getElem?_append_right (by omega), Nat.add_sub_cancel_left]; exact hk
  unfold xga
  simp only [e, Nat.beq_refl, cond_true, hj]
theorem xnnA {w L : EW} {k t n : Nat} {f : Nat → Option Nat} (hk : L[k]? = some (cQ t n f)) (ht : Nat.blt t 5 = true) : xnn sc (w ++ L) (.inr (.inr (.inl (some (w.length + k))))) = some n := by
  have e : (w ++ L)[w.length + k]? = some (cQ t n f) := by
    rw [List.getElem?_append_right (by omega), Nat.add_sub_cancel_left]; exact hk
  unfold xnn
  simp only [e, ht, cond_true]
theorem xtqA {w L : EW} {k t n ci q j : Nat} {f : Nat → Option Nat} {fs : List EV} (hk : L[k]? = some (cQ t n f)) (hq : L[q]? = some (cO ci fs)) (ht : (Nat.ble 2 t && Nat.ble t 4) = true) (hj : j < n) (hn : n < 2 ^ 31) (hc : Nat.beq ci (xco_of t) = true) : xtq (w ++ L) (nI j) (.inr (.inr (.inl (some (w.length + q))))) (.inr (.inr (.inl (some (w.length + k))))) = some (w ++ L.set k (cQ t n (va_up f j (some (w.length + q))))) := by
  have e : (w ++ L)[w.length + k]? = some (cQ t n f) := by
    rw [List.getElem?_append_right (by omega), Nat.add_sub_cancel_left]; exact hk
  have e2 : (w ++ L)[w.length + q]? = some (cO ci fs) := by
    rw [List.getElem?_append_right (by omega), Nat.add_sub_cancel_left]; exact hq
  unfold xtq
  simp only [e, e2, xvb_nI hj hn, hc, ht, Bool.and_self, cond_true, Option.some.injEq]
  rw [List.set_append_right _ _ (by omega), Nat.add_sub_cancel_left, nI_clamp (by omega)]
abbrev z0 : Nat → Int32 := fun _ => 0
def row0 (n : Nat) : EW := [cO 3 [eI 0, eR (n + 1)], cI 0 200 z0]
def rep0 (n : Nat) : EW := [cO 2 [eI 0, eR (n + 1), eR (n + 2), eR (n + 3), eR (n + 4), eR (n + 5), eR (n + 6), eR (n + 7), eI 0, eI 0, eI 0, eI 0, eI 0, eI 0], cI 0 6 z0, cI 0 6 z0, cI 0 6 z0, cI 0 6 z0, cI 0 72 z0, cI 0 6 z0, cI 0 3 z0]
theorem c_init3 {w : EW} : xN sc (d + 1) 56 [.inr (.inr (.inl (some w.length)))] (w ++ [cO 3 [eI 0, eN]]) = some (none, w ++ row0 w.length) := by
  rw [mX3_init]
  have e1 : xp (w ++ [cO 3 [eI 0, eN], cI 0 200 z0]) 3 1 (.inr (.inr (.inl (some (w.length + 1))))) (.inr (.inr (.inl (some w.length)))) = some (w ++ row0 w.length) := xpA (k := 0) (fs := [eI 0, eN]) rfl rfl
  simp only [uX3_init_0, qX3_init_0, List.append_assoc, List.cons_append, List.nil_append, List.length_append, List.length_cons, List.length_nil, Nat.zero_add, Nat.reduceAdd, e1, bd_eq]
theorem c_init2 {w : EW} : xN sc (d + 1) 40 [.inr (.inr (.inl (some w.length)))] (w ++ [cO 2 [eI 0, eN, eN, eN, eN, eN, eN, eN, eI 0, eI 0, eI 0, eI 0, eI 0, eI 0]]) = some (none, w ++ rep0 w.length) := by
  rw [mX2_init]
  have e1 : xp (w ++ [cO 2 [eI 0, eN, eN, eN, eN, eN, eN, eN, eI 0, eI 0, eI 0, eI 0, eI 0, eI 0], cI 0 6 z0]) 2 1 (.inr (.inr (.inl (some (w.length + 1))))) (.inr (.inr (.inl (some w.length)))) = some (w ++ [cO 2 [eI 0, eR (w.length + 1), eN, eN, eN, eN, eN, eN, eI 0, eI 0, eI 0, eI 0, eI 0, eI 0], cI 0 6 z0]) := xpA (k := 0) (fs := [eI 0, eN, eN, eN, eN, eN, eN, eN, eI 0, eI 0, eI 0, eI 0, eI 0, eI 0]) rfl rfl
  have e2 : xp (w ++ [cO 2 [eI 0, eR (w.length + 1), eN, eN, eN, eN, eN, eN, eI 0, eI 0, eI 0, eI 0, eI 0, eI 0], cI 0 6 z0, cI 0 6 z0]) 2 2 (.inr (.inr (.inl (some (w.length + 2))))) (.inr (.inr (.inl (some w.length)))) = some (w ++ [cO 2 [eI 0, eR (w.length + 1), eR (w.length + 2), eN, eN, eN, eN, eN, eI 0, eI 0, eI 0, eI 0, eI 0, eI 0], cI 0 6 z0, cI 0 6 z0]) := xpA (k := 0) (fs := [eI 0, eR (w.length + 1), eN, eN, eN, eN, eN, eN, eI 0, eI 0, eI 0, eI 0, eI 0, eI 0]) rfl rfl
  have e3 : xp (w ++ [cO 2 [eI 0, eR (w.length + 1), eR (w.length + 2), eN, eN, eN, eN, eN, eI 0, eI 0, eI 0, eI 0, eI 0, eI 0], cI 0 6 z0, cI 0 6 z0, cI 0 6 z0]) 2 3 (.inr (.inr (.inl (some (w.length + 3))))) (.inr (.inr (.inl (some w.length)))) = some (w ++ [cO 2 [eI 0, eR (w.length + 1), eR (w.length + 2), eR (w.length + 3), eN, eN, eN, eN, eI 0, eI 0, eI 0, eI 0, eI 0, eI 0], cI 0 6 z0, cI 0 6 z0, cI 0 6 z0]) := xpA (k := 0) (fs := [eI 0, eR (w.length + 1), eR (w.length + 2), eN, eN, eN, eN, eN, eI 0, eI 0, eI 0, eI 0, eI 0, eI 0]) rfl rfl
  have e4 : xp (w ++ [cO 2 [eI 0, eR (w.length + 1), eR (w.length + 2), eR (w.length + 3), eN, eN, eN, eN, eI 0, eI 0, eI 0, eI 0, eI 0, eI 0], cI 0 6 z0, cI 0 6 z0, cI 0 6 z0, cI 0 6 z0]) 2 4 (.inr (.inr (.inl (some (w.length + 4))))) (.inr (.inr (.inl (some w.length)))) = some (w ++ [cO 2 [eI 0, eR (w.length + 1), eR (w.length + 2), eR (w.length + 3), eR (w.length + 4), eN, eN, eN, eI 0, eI 0, eI 0, eI 0, eI 0, eI 0], cI 0 6 z0, cI 0 6 z0, cI 0 6 z0, cI 0 6 z0]) := xpA (k := 0) (fs := [eI 0, eR (w.length + 1), eR (w.length + 2), eR (w.length + 3), eN, eN, eN, eN, eI 0, eI 0, eI 0, eI 0, eI 0, eI 0]) rfl rfl
  have e5 : xp (w ++ [cO 2 [eI 0, eR (w.length + 1), eR (w.length + 2), eR (w.length + 3), eR (w.length + 4), eN, eN, eN, eI 0, eI 0, eI 0, eI 0, eI 0, eI 0], cI 0 6 z0, cI 0 6 z0, cI 0 6 z0, cI 0 6 z0, cI 0 72 z0]) 2 5 (.inr (.inr (.inl (some (w.length + 5))))) (.inr (.inr (.inl (some w.length)))) = some (w ++ [cO 2 [eI 0, eR (w.length + 1), eR (w.length + 2), eR (w.length + 3), eR (w.length + 4), eR (w.length + 5), eN, eN, eI 0, eI 0, eI 0, eI 0, eI 0, eI 0], cI 0 6 z0, cI 0 6 z0, cI 0 6 z0, cI 0 6 z0, cI 0 72 z0]) := xpA (k := 0) (fs := [eI 0, eR (w.length + 1), eR (w.length + 2), eR (w.length + 3), eR (w.length + 4), eN, eN, eN, eI 0, eI 0, eI 0, eI 0, eI 0, eI 0]) rfl rfl
  have e6 : xp (w ++ [cO 2 [eI 0, eR (w.length + 1), eR (w.length + 2), eR (w.length + 3), eR (w.length + 4), eR (w.length + 5), eN, eN, eI 0, eI 0, eI 0, eI 0, eI 0, eI 0], cI 0 6 z0, cI 0 6 z0, cI 0 6 z0, cI 0 6 z0, cI 0 72 z0, cI 0 6 z0]) 2 6 (.inr (.inr (.inl (some (w.length + 6))))) (.inr (.inr (.inl (some w.length)))) = some (w ++ [cO 2 [eI 0, eR (w.length + 1), eR (w.length + 2), eR (w.length + 3), eR (w.length + 4), eR (w.length + 5), eR (w.length + 6), eN, eI 0, eI 0, eI 0, eI 0, eI 0, eI 0], cI 0 6 z0, cI 0 6 z0, cI 0 6 z0, cI 0 6 z0, cI 0 72 z0, cI 0 6 z0]) := xpA (k := 0) (fs := [eI 0, eR (w.length + 1), eR (w.length + 2), eR (w.length + 3), eR (w.length + 4), eR (w.length + 5), eN, eN, eI 0, eI 0, eI 0, eI 0, eI 0, eI 0]) rfl rfl
  have e7 : xp (w ++ [cO 2 [eI 0, eR (w.length + 1), eR (w.length + 2), eR (w.length + 3), eR (w.length + 4), eR (w.length + 5), eR (w.length + 6), eN, eI 0, eI 0, eI 0, eI 0, eI 0, eI 0], cI 0 6 z0, cI 0 6 z0, cI 0 6 z0, cI 0 6 z0, cI 0 72 z0, cI 0 6 z0, cI 0 3 z0]) 2 7 (.inr (.inr (.inl (some (w.length + 7))))) (.inr (.inr (.inl (some w.length)))) = some (w ++ [cO 2 [eI 0, eR (w.length + 1), eR (w.length + 2), eR (w.length + 3), eR (w.length + 4), eR (w.length + 5), eR (w.length + 6), eR (w.length + 7), eI 0, eI 0, eI 0, eI 0, eI 0, eI 0], cI 0 6 z0, cI 0 6 z0, cI 0 6 z0, cI 0 6 z0, cI 0 72 z0, cI 0 6 z0, cI 0 3 z0]) := xpA (k := 0) (fs := [eI 0, eR (w.length + 1), eR (w.length + 2), eR (w.length + 3), eR (w.length + 4), eR (w.length + 5), eR (w.length + 6), eN, eI 0, eI 0, eI 0, eI 0, eI 0, eI 0]) rfl rfl
  simp only [uX2_init_0, qX2_init_0, List.append_assoc, List.cons_append, List.nil_append, List.length_append, List.length_cons, List.length_nil, Nat.zero_add, Nat.reduceAdd, e1, e2, e3, e4, e5, e6, e7, bd_eq]
  rfl
def tlh (n j k : Nat) : EW := [cO 5 [eR (n + 1), eI 0, eI 0, eI (-1), eR (n + 2), eR (n + 3), eR (n + 4)], cI 0 600 z0, cI 0 6 z0, cQ 2 2 (fun i => if i < j then some (n + 5 + 8 * i) else none), cQ 3 10 (fun i => if i < k then some (n + 21 + 2 * i) else none)]
def rps (n : Nat) : Nat → EW
  | 0 => []
  | j + 1 => rps n j ++ rep0 (n + 5 + 8 * j)
def rws (n : Nat) : Nat → EW
  | 0 => []
  | j + 1 => rws n j ++ row0 (n + 21 + 2 * j)
theorem rps_len {n : Nat} : ∀ j, (rps n j).length = 8 * j := by
  intro j
  induction j with
  | zero => rfl
  | succ j ih => rw [rps, List.length_append, ih]; show 8 * j + 8 = _; omega
theorem rws_len {n : Nat} : ∀ j, (rws n j).length = 2 * j := by
  intro j
  induction j with
  | zero => rfl
  | succ j ih => rw [rws, List.length_append, ih]; show 2 * j + 2 = _; omega
theorem va_lt {g : Nat → Nat} {j : Nat} : va_up (fun i => if i < j then some (g i) else none) j (some (g j)) = (fun i => if i < j + 1 then some (g i) else none) := by
  funext i
  unfold va_up
  by_cases e : i = j
  · subst e; simp
  · by_cases h : i < j
    · simp [e, h, show i < j + 1 by omega]
    · simp [e, h, show ¬ i < j + 1 by omega]
theorem l_init5a {w : EW} : ∀ (n j k : Nat), j + n = 2 → n ≤ k → ∃ k', k ≤ k' + n ∧ fW sc 5 0 true 2 (xN sc (d + 1)) (ex sc 5 0 true 2 (xN sc (d + 1)) kX5_init_0 k) kX5_init_45 45 [some (.inr (.inr (.inl (some w.length)))), some (.inl (nI j))] [] (w ++ (tlh w.length j 0 ++ rps w.length j)) = fW sc 5 0 true 2 (xN sc (d + 1)) (ex sc 5 0 true 2 (xN sc (d + 1)) kX5_init_0 k') kX5_init_73 73 [some (.inr (.inr (.inl (some w.length)))), some (.inl (nI 2))] [] (w ++ (tlh w.length 2 0 ++ rps w.length 2)) := by
  intro n
  induction n with
  | zero =>
    intro j k hj hk
    have e : j = 2 := by omega
    subst e
    refine ⟨k, by omega, ?_⟩
    have e1 : xga (w ++ (tlh w.length 2 0 ++ rps w.length 2)) 5 5 (.inr (.inr (.inl (some w.length)))) = some (some (w.length + 3)) := xgaA (k := 0) rfl rfl
    have e2 : xnn sc (w ++ (tlh w.length 2 0 ++ rps w.length 2)) (.inr (.inr (.inl (some (w.length + 3))))) = some 2 := xnnA (k := 3) rfl rfl
    simp only [uX5_init_45, qX5_init_45, jX5_init_54_73, jX5_init_84_103, jX5_init_0_45, jX5_init_0_75, e1, e2, bd_eq, if_pos (Int32.le_refl (nI 2))]
  | succ n ih =>
    intro j k hj hk
    obtain ⟨k, rfl⟩ : ∃ k', k = k' + 1 := ⟨k - 1, by omega⟩
    obtain ⟨k2, hk2, e⟩ := ih (j + 1) k (by omega) (by omega)
    refine ⟨k2, by omega, ?_⟩
    rw [nI_succ] at e
    have hl : (w ++ (tlh w.length j 0 ++ rps w.length j)).length = w.length + (5 + 8 * j) := by
      rw [List.length_append, List.length_append, rps_len]; rfl
    have e1 : xga (w ++ (tlh w.length j 0 ++ rps w.length j)) 5 5 (.inr (.inr (.inl (some w.length)))) = some (some (w.length + 3)) := xgaA (k := 0) rfl rfl
    have e2 : xnn sc (w ++ (tlh w.length j 0 ++ rps w.length j)) (.inr (.inr (.inl (some (w.length + 3))))) = some 2 := xnnA (k := 3) rfl rfl
    have e3 := c_init2 (sc := sc) (d := d) (w := w ++ (tlh w.length j 0 ++ rps w.length j))
    rw [hl] at e3
    simp only [List.append_assoc] at e3
    have e4 : xtq (w ++ (tlh w.length j 0 ++ (rps w.length j ++ rep0 (w.length + (5 + 8 * j))))) (nI j) (.inr (.inr (.inl (some (w.length + (5 + 8 * j)))))) (.inr (.inr (.inl (some (w.length + 3))))) = some (w ++ (tlh w.length (j + 1) 0 ++ (rps w.length j ++ rep0 (w.length + (5 + 8 * j))))) := by
      refine (xtqA (k := 3) (q := 5 + 8 * j) (t := 2) (n := 2) (ci := 2) (f := fun i => if i < j then some (w.length + 5 + 8 * i) else none) (fs := [eI 0, eR (w.length + (5 + 8 * j) + 1), eR (w.length + (5 + 8 * j) + 2), eR (w.length + (5 + 8 * j) + 3), eR (w.length + (5 + 8 * j) + 4), eR (w.length + (5 + 8 * j) + 5), eR (w.length + (5 + 8 * j) + 6), eR (w.length + (5 + 8 * j) + 7), eI 0, eI 0, eI 0, eI 0, eI 0, eI 0]) rfl ?_ rfl (by omega) (by decide) rfl).trans ?_
      · rw [List.getElem?_append_right (by show 5 ≤ _; omega)]
        show (rps w.length j ++ rep0 (w.length + (5 + 8 * j)))[5 + 8 * j - 5]? = _
        rw [show 5 + 8 * j - 5 = 8 * j by omega, List.getElem?_append_right (by rw [rps_len]; omega), rps_len, Nat.sub_self]
        rfl
      · have ev := va_lt (g := fun i => w.length + 5 + 8 * i) (j := j)
        have ea : w.length + (5 + 8 * j) = w.length + 5 + 8 * j := by omega
        rw [ea, ev]
        rfl
    simp only [uX5_init_45, qX5_init_45, jX5_init_54_73, jX5_init_84_103, jX5_init_0_45, jX5_init_0_75, e1, e2, bd_eq, if_neg (k_lt hj (show 2 < 2 ^ 31 by decide))]
    simp only [uX5_init_54, qX5_init_54, jX5_init_54_73, jX5_init_84_103, jX5_init_0_45, jX5_init_0_75, e1, bd_eq, hl, e3, xcv_eq, List.append_assoc, e4, eX_eq]
    rw [rps, show w.length + 5 + 8 * j = w.length + (5 + 8 * j) by omega] at e
    exact e
theorem l_init5b {w : EW} : ∀ (n j k : Nat), j + n = 10 → n ≤ k → fW sc 5 0 true 2 (xN sc (d + 1)) (ex sc 5 0 true 2 (xN sc (d + 1)) kX5_init_0 k) kX5_init_75 75 [some (.inr (.inr (.inl (some w.length)))), some (.inl (nI j))] [] (w ++ (tlh w.length 2 j ++ (rps w.length 2 ++ rws w.length j))) = some (none, w ++ (tlh w.length 2 10 ++ (rps w.length 2 ++ rws w.length 10))) := by
  intro n
  induction n with
  | zero =>
    intro j k hj hk
    have e : j = 10 := by omega
    subst e
    have e1 : xga (w ++ (tlh w.length 2 10 ++ (rps w.length 2 ++ rws w.length 10))) 5 6 (.inr (.inr (.inl (some w.length)))) = some (some (w.length + 4)) := xgaA (k := 0) rfl rfl
    have e2 : xnn sc (w ++ (tlh w.length 2 10 ++ (rps w.length 2 ++ rws w.length 10))) (.inr (.inr (.inl (some (w.length + 4))))) = some 10 := xnnA (k := 4) rfl rfl
    simp only [uX5_init_75, qX5_init_75, jX5_init_54_73, jX5_init_84_103, jX5_init_0_45, jX5_init_0_75, e1, e2, bd_eq, if_pos (Int32.le_refl (nI 10))]
    simp only [uX5_init_103, qX5_init_103, jX5_init_54_73, jX5_init_84_103, jX5_init_0_45, jX5_init_0_75]
  | succ n ih =>
    intro j k hj hk
    obtain ⟨k, rfl⟩ : ∃ k', k = k' + 1 := ⟨k - 1, by omega⟩
    have e := ih (j + 1) k (by omega) (by omega)
    rw [nI_succ] at e
    have hl : (w ++ (tlh w.length 2 j ++ (rps w.length 2 ++ rws w.length j))).length = w.length + (21 + 2 * j) := by
      rw [List.length_append, List.length_append, List.length_append, rps_len, rws_len]
      show w.length + (5 + (8 * 2 + 2 * j)) = _
      omega
    have e1 : xga (w ++ (tlh w.length 2 j ++ (rps w.length 2 ++ rws w.length j))) 5 6 (.inr (.inr (.inl (some w.length)))) = some (some (w.length + 4)) := xgaA (k := 0) rfl rfl
    have e2 : xnn sc (w ++ (tlh w.length 2 j ++ (rps w.length 2 ++ rws w.length j))) (.inr (.inr (.inl (some (w.length + 4))))) = some 10 := xnnA (k := 4) rfl rfl
    have e3 := c_init3 (sc := sc) (d := d) (w := w ++ (tlh w.length 2 j ++ (rps w.length 2 ++ rws w.length j)))
    rw [hl] at e3
    simp only [List.append_assoc] at e3
    have e4 : xtq (w ++ (tlh w.length 2 j ++ (rps w.length 2 ++ (rws w.length j ++ row0 (w.length + (21 + 2 * j)))))) (nI j) (.inr (.inr (.inl (some (w.length + (21 + 2 * j)))))) (.inr (.inr (.inl (some (w.length + 4))))) = some (w ++ (tlh w.length 2 (j + 1) ++ (rps w.length 2 ++ (rws w.length j ++ row0 (w.length + (21 + 2 * j)))))) := by
      refine (xtqA (k := 4) (q := 21 + 2 * j) (t := 3) (n := 10) (ci := 3) (f := fun i => if i < j then some (w.length + 21 + 2 * i) else none) (fs := [eI 0, eR (w.length + (21 + 2 * j) + 1)]) rfl ?_ rfl (by omega) (by decide) rfl).trans ?_
      · rw [List.getElem?_append_right (by show 5 ≤ _; omega)]
        show (rps w.length 2 ++ (rws w.length j ++ row0 (w.length + (21 + 2 * j))))[21 + 2 * j - 5]? = _
        rw [List.getElem?_append_right (by rw [rps_len]; omega), rps_len, show 21 + 2 * j - 5 - 8 * 2 = 2 * j by omega, List.getElem?_append_right (by rw [rws_len]; omega), rws_len, Nat.sub_self]
        rfl
      · have ev := va_lt (g := fun i => w.length + 21 + 2 * i) (j := j)
        have ea : w.length + (21 + 2 * j) = w.length + 21 + 2 * j := by omega
        rw [ea, ev]
        rfl
    simp only [uX5_init_75, qX5_init_75, jX5_init_54_73, jX5_init_84_103, jX5_init_0_45, jX5_init_0_75, e1, e2, bd_eq, if_neg (k_lt hj (show 10 < 2 ^ 31 by decide))]
    simp only [uX5_init_84, qX5_init_84, jX5_init_54_73, jX5_init_84_103, jX5_init_0_45, jX5_init_0_75, e1, bd_eq, hl, e3, xcv_eq, List.append_assoc, e4, eX_eq]
    rw [rws, show w.length + 21 + 2 * j = w.length + (21 + 2 * j) by omega] at e
    exact e
def tld0 (n : Nat) : EW := tlh n 2 10 ++ (rps n 2 ++ rws n 10)
theorem c_init5 {w : EW} : xN sc (d + 2) 67 [.inr (.inr (.inl (some w.length)))] (w ++ [cO 5 [eN, eI 0, eI 0, eI 0, eN, eN, eN]]) = some (none, w ++ tld0 w.length) := by
  rw [mX5_init]
  have e1 : xp (w ++ [cO 5 [eN, eI 0, eI 0, eI 0, eN, eN, eN], cI 0 600 z0]) 5 0 (.inr (.inr (.inl (some (w.length + 1))))) (.inr (.inr (.inl (some w.length)))) = some (w ++ [cO 5 [eR (w.length + 1), eI 0, eI 0, eI 0, eN, eN, eN], cI 0 600 z0]) := xpA (k := 0) (fs := [eN, eI 0, eI 0, eI 0, eN, eN, eN]) rfl rfl
  have e2 : xp (w ++ [cO 5 [eR (w.length + 1), eI 0, eI 0, eI 0, eN, eN, eN], cI 0 600 z0]) 5 3 (.inl (-1)) (.inr (.inr (.inl (some w.length)))) = some (w ++ [cO 5 [eR (w.length + 1), eI 0, eI 0, eI (-1), eN, eN, eN], cI 0 600 z0]) := xpA (k := 0) (fs := [eR (w.length + 1), eI 0, eI 0, eI 0, eN, eN, eN]) rfl rfl
  have e3 : xp (w ++ [cO 5 [eR (w.length + 1), eI 0, eI 0, eI (-1), eN, eN, eN], cI 0 600 z0, cI 0 6 z0]) 5 4 (.inr (.inr (.inl (some (w.length + 2))))) (.inr (.inr (.inl (some w.length)))) = some (w ++ [cO 5 [eR (w.length + 1), eI 0, eI 0, eI (-1), eR (w.length + 2), eN, eN], cI 0 600 z0, cI 0 6 z0]) := xpA (k := 0) (fs := [eR (w.length + 1), eI 0, eI 0, eI (-1), eN, eN, eN]) rfl rfl
  have e4 : xp (w ++ [cO 5 [eR (w.length + 1), eI 0, eI 0, eI (-1), eR (w.length + 2), eN, eN], cI 0 600 z0, cI 0 6 z0, cQ 2 2 (fun _ => none)]) 5 5 (.inr (.inr (.inl (some (w.length + 3))))) (.inr (.inr (.inl (some w.length)))) = some (w ++ [cO 5 [eR (w.length + 1), eI 0, eI 0, eI (-1), eR (w.length + 2), eR (w.length + 3), eN], cI 0 600 z0, cI 0 6 z0, cQ 2 2 (fun _ => none)]) := xpA (k := 0) (fs := [eR (w.length + 1), eI 0, eI 0, eI (-1), eR (w.length + 2), eN, eN]) rfl rfl
  have e5 : xp (w ++ [cO 5 [eR (w.length + 1), eI 0, eI 0, eI (-1), eR (w.length + 2), eR (w.length + 3), eN], cI 0 600 z0, cI 0 6 z0, cQ 2 2 (fun _ => none), cQ 3 10 (fun _ => none)]) 5 6 (.inr (.inr (.inl (some (w.length + 4))))) (.inr (.inr (.inl (some w.length)))) = some (w ++ [cO 5 [eR (w.length + 1), eI 0, eI 0, eI (-1), eR (w.length + 2), eR (w.length + 3), eR (w.length + 4)], cI 0 600 z0, cI 0 6 z0, cQ 2 2 (fun _ => none), cQ 3 10 (fun _ => none)]) := xpA (k := 0) (fs := [eR (w.length + 1), eI 0, eI 0, eI (-1), eR (w.length + 2), eR (w.length + 3), eN]) rfl rfl
  simp only [uX5_init_0, qX5_init_0, jX5_init_54_73, jX5_init_84_103, jX5_init_0_45, jX5_init_0_75, List.append_assoc, List.cons_append, List.nil_append, List.length_append, List.length_cons, List.length_nil, Nat.zero_add, Nat.reduceAdd, e1, e2, e3, e4, e5, bd_eq]
  have hF := xF_ge
  obtain ⟨k, hk, e⟩ := l_init5a (sc := sc) (d := d) (w := w) 2 0 xF rfl (by omega)
  have t0 : [cO 5 [eR (w.length + 1), eI 0, eI 0, eI (-1), eR (w.length + 2), eR (w.length + 3), eR (w.length + 4)], cI 0 600 z0, cI 0 6 z0, cQ 2 2 (fun _ => none), cQ 3 10 (fun _ => none)] = tlh w.length 0 0 ++ rps w.length 0 := by
    have f0 : (fun i => if i < 0 then some (w.length + 5 + 8 * i) else none) = (fun _ => (none : Option Nat)) := by
      funext i; rw [if_neg (by omega)]
    have f1 : (fun i => if i < 0 then some (w.length + 21 + 2 * i) else none) = (fun _ => (none : Option Nat)) := by
      funext i; rw [if_neg (by omega)]
    unfold tlh rps
    rw [f0, f1, List.append_nil]
  rw [t0]
  refine e.trans ?_
  simp only [uX5_init_73, qX5_init_73, jX5_init_54_73, jX5_init_84_103, jX5_init_0_45, jX5_init_0_75]
  exact l_init5b (sc := sc) (d := d) (w := w) 10 0 k rfl (by omega)
end XCP
end
section
section XCQ
variable {sc : Nat × (Nat → Int32)} {d : Nat} {K : List KD} {r q t a B m : Nat} {w : EW}
/-! images: all that is told, copied -/
theorem RPB {B j : Nat} (h : TD K B) (hj : j < 2) : RP K (B + 5 + 8 * j) := by
  rcases (by omega : j = 0 ∨ j = 1) with e | e <;> subst e
  · exact cT_r5 h
  · exact cT_r13 h
theorem RWB {B j : Nat} (t : TD K B) (hj : j < 10) : RW K (B + 21 + 2 * j) := by
  rcases (by omega : j = 0 ∨ j = 1 ∨ j = 2 ∨ j = 3 ∨ j = 4 ∨ j = 5 ∨ j = 6 ∨ j = 7 ∨ j = 8 ∨ j = 9) with e | e | e | e | e | e | e | e | e | e <;> subst e
  · exact cT_w0 t
  · exact cT_w1 t
  · exact cT_w2 t
  · exact cT_w3 t
  · exact cT_w4 t
  · exact cT_w5 t
  · exact cT_w6 t
  · exact cT_w7 t
  · exact cT_w8 t
  · exact cT_w9 t
def cpT0 (s : SG) (B C : Nat) : SG := cpS 6 (up (up (up (cpS 600 s (C + 1) (B + 1)) B 1 (s C 1)) B 2 (s C 2)) B 3 (s C 3)) (C + 2) (B + 2)
def cpTr (s : SG) (B C : Nat) : Nat → SG
  | 0 => s
  | j + 1 => cprS (cpTr s B C j) (B + 5 + 8 * j) (C + 5 + 8 * j)
def cpTw (s : SG) (B C : Nat) : Nat → SG
  | 0 => s
  | j + 1 => cpwS (cpTw s B C j) (B + 21 + 2 * j) (C + 21 + 2 * j)
theorem l_copyToldR {s : SG} {B C : Nat} (hB : TD K B) (hC : TD K C) (hd : B + 41 ≤ C ∨ C + 41 ≤ B) : ∀ (n j k : Nat), j + n = 2 → n ≤ k → ∃ k', k ≤ k' + n ∧ fW sc 5 0 false 3 (xN sc (d + 2)) (ex sc 5 0 false 3 (xN sc (d + 2)) kX5_copyTold_0 k) kX5_copyTold_48 48 [some (.inr (.inr (.inl (some B)))), some (.inr (.inr (.inl (some C)))), some (.inl (nI j))] [] (wl K (cpTr s B C j)) = fW sc 5 0 false 3 (xN sc (d + 2)) (ex sc 5 0 false 3 (xN sc (d + 2)) kX5_copyTold_0 k') kX5_copyTold_105 105 [some (.inr (.inr (.inl (some B)))), some (.inr (.inr (.inl (some C)))), some (.inl (nI 2))] [] (wl K (cpTr s B C 2)) := by
  intro n
  induction n with
  | zero =>
    intro j k hj hk
    have e : j = 2 := by omega
    subst e
    refine ⟨k, by omega, ?_⟩
    simp only [uX5_copyTold_48, qX5_copyTold_48, jX5_copyTold_57_105, jX5_copyTold_66_105, jX5_copyTold_75_99, jX5_copyTold_84_99, jX5_copyTold_116_164, jX5_copyTold_125_164, jX5_copyTold_134_158, jX5_copyTold_143_158, jX5_copyTold_0_48, jX5_copyTold_0_107, cT_g5 hB, cT3_n hB, bd_eq, if_pos (Int32.le_refl (nI 2))]
  | succ n ih =>
    intro j k hj hk
    obtain ⟨k, rfl⟩ : ∃ k', k = k' + 1 := ⟨k - 1, by omega⟩
    obtain ⟨k2, hk2, e⟩ := ih (j + 1) k (by omega) (by omega)
    refine ⟨k2, by omega, ?_⟩
    rw [nI_succ, cpTr] at e
    have hx := k_lt hj (show 2 < 2 ^ 31 by decide)
    have xi : xvb (nI j) 2 = true := xvb_nI (by omega) (by decide)
    have gB : ∀ s : SG, xdq (wl K s) (nI j) (.inr (.inr (.inl (some (B + 3))))) = some (some (B + 5 + 8 * j)) := by
      intro s
      have g := cT3_d (s := s) hB xi
      rw [nI_clamp (by omega), if_pos (by omega)] at g; exact g
    have gC : ∀ s : SG, xdq (wl K s) (nI j) (.inr (.inr (.inl (some (C + 3))))) = some (some (C + 5 + 8 * j)) := by
      intro s
      have g := cT3_d (s := s) hC xi
      rw [nI_clamp (by omega), if_pos (by omega)] at g; exact g
    simp only [uX5_copyTold_48, qX5_copyTold_48, jX5_copyTold_57_105, jX5_copyTold_66_105, jX5_copyTold_75_99, jX5_copyTold_84_99, jX5_copyTold_116_164, jX5_copyTold_125_164, jX5_copyTold_134_158, jX5_copyTold_143_158, jX5_copyTold_0_48, jX5_copyTold_0_107, cT_g5 hB, cT3_n hB, bd_eq, if_neg hx]
    simp only [uX5_copyTold_57, uX5_copyTold_66, uX5_copyTold_75, uX5_copyTold_84, uX5_copyTold_99, qX5_copyTold_57, qX5_copyTold_66, qX5_copyTold_75, qX5_copyTold_84, qX5_copyTold_99, jX5_copyTold_57_105, jX5_copyTold_66_105, jX5_copyTold_75_99, jX5_copyTold_84_99, jX5_copyTold_116_164, jX5_copyTold_125_164, jX5_copyTold_134_158, jX5_copyTold_143_158, jX5_copyTold_0_48, jX5_copyTold_0_107, cT_g5 hB, cT_g5 hC, cT3_n hC, bd_eq, if_neg hx, gB, gC, Option.isNone_some, cond_false, cR_v (RPB hB (show j < 2 by omega)), cond_true, c_copyRepublic (RPB hB (show j < 2 by omega)) (RPB hC (show j < 2 by omega)) (by omega), xcv_eq, eX_eq]
    exact e
theorem l_copyToldW {s : SG} {B C : Nat} (hB : TD K B) (hC : TD K C) (hd : B + 41 ≤ C ∨ C + 41 ≤ B) : ∀ (n j k : Nat), j + n = 10 → n ≤ k → fW sc 5 0 false 3 (xN sc (d + 2)) (ex sc 5 0 false 3 (xN sc (d + 2)) kX5_copyTold_0 k) kX5_copyTold_107 107 [some (.inr (.inr (.inl (some B)))), some (.inr (.inr (.inl (some C)))), some (.inl (nI j))] [] (wl K (cpTw s B C j)) = some (none, wl K (cpTw s B C 10)) := by
  intro n
  induction n with
  | zero =>
    intro j k hj hk
    have e : j = 10 := by omega
    subst e
    simp only [uX5_copyTold_107, qX5_copyTold_107, jX5_copyTold_57_105, jX5_copyTold_66_105, jX5_copyTold_75_99, jX5_copyTold_84_99, jX5_copyTold_116_164, jX5_copyTold_125_164, jX5_copyTold_134_158, jX5_copyTold_143_158, jX5_copyTold_0_48, jX5_copyTold_0_107, cT_g6 hB, cT4_n hB, bd_eq, if_pos (Int32.le_refl (nI 10))]
    simp only [uX5_copyTold_164, qX5_copyTold_164, jX5_copyTold_57_105, jX5_copyTold_66_105, jX5_copyTold_75_99, jX5_copyTold_84_99, jX5_copyTold_116_164, jX5_copyTold_125_164, jX5_copyTold_134_158, jX5_copyTold_143_158, jX5_copyTold_0_48, jX5_copyTold_0_107]
  | succ n ih =>
    intro j k hj hk
    obtain ⟨k, rfl⟩ : ∃ k', k = k' + 1 := ⟨k - 1, by omega⟩
    have e := ih (j + 1) k (by omega) (by omega)
    rw [nI_succ, cpTw] at e
    have hx := k_lt hj (show 10 < 2 ^ 31 by decide)
    have xi : xvb (nI j) 10 = true := xvb_nI (by omega) (by decide)
    have gB : ∀ s : SG, xdq (wl K s) (nI j) (.inr (.inr (.inl (some (B + 4))))) = some (some (B + 21 + 2 * j)) := by
      intro s
      have g := cT4_d (s := s) hB xi
      rw [nI_clamp (by omega), if_pos (by omega)] at g; exact g
    have gC : ∀ s : SG, xdq (wl K s) (nI j) (.inr (.inr (.inl (some (C + 4))))) = some (some (C + 21 + 2 * j)) := by
      intro s
      have g := cT4_d (s := s) hC xi
      rw [nI_clamp (by omega), if_pos (by omega)] at g; exact g
    simp only [uX5_copyTold_107, qX5_copyTold_107, jX5_copyTold_57_105, jX5_copyTold_66_105, jX5_copyTold_75_99, jX5_copyTold_84_99, jX5_copyTold_116_164, jX5_copyTold_125_164, jX5_copyTold_134_158, jX5_copyTold_143_158, jX5_copyTold_0_48, jX5_copyTold_0_107, cT_g6 hB, cT4_n hB, bd_eq, if_neg hx]
    simp only [uX5_copyTold_116, uX5_copyTold_125, uX5_copyTold_134, uX5_copyTold_143, uX5_copyTold_158, qX5_copyTold_116, qX5_copyTold_125, qX5_copyTold_134, qX5_copyTold_143, qX5_copyTold_158, jX5_copyTold_57_105, jX5_copyTold_66_105, jX5_copyTold_75_99, jX5_copyTold_84_99, jX5_copyTold_116_164, jX5_copyTold_125_164, jX5_copyTold_134_158, jX5_copyTold_143_158, jX5_copyTold_0_48, jX5_copyTold_0_107, cT_g6 hB, cT_g6 hC, cT4_n hC, bd_eq, if_neg hx, gB, gC, Option.isNone_some, cond_false, cW_v (RWB hB (show j < 10 by omega)), cond_true, c_copyRows (RWB hB (show j < 10 by omega)) (RWB hC (show j < 10 by omega)) (by omega), xcv_eq, eX_eq]
    exact e
def cpTS (s : SG) (B C : Nat) : SG := cpTw (cpTr (cpT0 s B C) B C 2) B C 10
theorem c_copyTold {s : SG} {B C : Nat} (hB : TD K B) (hC : TD K C) (hd : B + 41 ≤ C ∨ C + 41 ≤ B) : xN sc (d + 3) 70 [.inr (.inr (.inl (some B))), .inr (.inr (.inl (some C)))] (wl K s) = some (none, wl K (cpTS s B C)) := by
  have hF := xF_ge
  rw [mX5_copyTold]
  simp (disch := omega) only [uX5_copyTold_0, qX5_copyTold_0, jX5_copyTold_57_105, jX5_copyTold_66_105, jX5_copyTold_75_99, jX5_copyTold_84_99, jX5_copyTold_116_164, jX5_copyTold_125_164, jX5_copyTold_134_158, jX5_copyTold_143_158, jX5_copyTold_0_48, jX5_copyTold_0_107, cT_g0 hB, cT_g0 hC, c_copy600 (hC 1 (by decide)) (hB 1 (by decide)), cT_g1 hC, cT_p1 hB, cT_g2 hC, cT_p2 hB, cT_g3 hC, cT_p3 hB, cT_g4 hC, cT_g4 hB, c_copy6 (hC 2 (by decide)) (hB 2 (by decide)), bd_eq, xcv_eq, up_n, cp_n]
  obtain ⟨k, hk, e⟩ := l_copyToldR (sc := sc) (d := d) (s := cpT0 s B C) hB hC hd 2 0 xF rfl (by omega)
  refine e.trans ?_
  simp only [uX5_copyTold_105, qX5_copyTold_105, jX5_copyTold_57_105, jX5_copyTold_66_105, jX5_copyTold_75_99, jX5_copyTold_84_99, jX5_copyTold_116_164, jX5_copyTold_125_164, jX5_copyTold_134_158, jX5_copyTold_143_158, jX5_copyTold_0_48, jX5_copyTold_0_107]
  exact l_copyToldW (sc := sc) (d := d) (s := cpTr (cpT0 s B C) B C 2) hB hC hd 10 0 k rfl (by omega)
theorem cpT0_n {s : SG} {B C c : Nat} (h : c < B ∨ B + 3 ≤ c) : cpT0 s B C c = s c := by
  unfold cpT0
  simp (disch := omega) only [up_n, cp_n]
theorem cpTr_n {s : SG} {B C c : Nat} : ∀ j, (c < B + 5 ∨ B + 5 + 8 * j ≤ c) → cpTr s B C j c = s c := by
  intro j
  induction j with
  | zero => intro _; rfl
  | succ j ih => intro h; rw [cpTr, cprS_n (by omega), ih (by omega)]
theorem cpTw_n {s : SG} {B C c : Nat} : ∀ j, (c < B + 21 ∨ B + 21 + 2 * j ≤ c) → cpTw s B C j c = s c := by
  intro j
  induction j with
  | zero => intro _; rfl
  | succ j ih => intro h; rw [cpTw, cpwS_n (by omega), ih (by omega)]
theorem cpTS_n {s : SG} {B C c : Nat} (h : c < B ∨ B + 41 ≤ c) : cpTS s B C c = s c := by
  unfold cpTS
  rw [cpTw_n 10 (by omega), cpTr_n 2 (by omega), cpT0_n (by omega)]
theorem cpTS_TB {s : SG} {B C : Nat} (hd : B + 41 ≤ C ∨ C + 41 ≤ B) (h : TB s C) : TB (cpTS s B C) B := by
  obtain ⟨h1, h2, h3, l, h4, h5⟩ := h
  refine ⟨?_, ?_, ?_, l, ?_, h5⟩
  · refine SZ_of (s := cpTr (cpT0 s B C) B C 2) (cpTw_n 10 (by omega)) ?_
    rw [cpTr, cpTr]
    refine SZ_of (cprS_n (by omega)) (cprS_SZ ?_)
    exact SZ_of (by show cpTr (cpT0 s B C) B C 0 _ = _; rw [cpTr, cpT0_n (by omega)]) h1
  · refine SZ_of (s := cpTr (cpT0 s B C) B C 2) (cpTw_n 10 (by omega)) ?_
    rw [cpTr]
    refine cprS_SZ ?_
    exact SZ_of (by rw [cpTr_n 1 (by omega), cpT0_n (by omega)]) h2
  · intro j hj
    have e : ∀ m, m ≤ 10 → j < m → RZ (cpTw (cpTr (cpT0 s B C) B C 2) B C m) (B + 21 + 2 * j) := by
      intro m
      induction m with
      | zero => intro _ h0; omega
      | succ m ih =>
        intro hm h0
        rw [cpTw]
        by_cases q : j = m
        · subst q
          refine cpwS_RZ ?_
          exact RZ_of (by rw [cpTw_n j (by omega), cpTr_n 2 (by omega), cpT0_n (by omega)]) (h3 j hj)
        · exact RZ_of (cpwS_n (by omega)) (ih (by omega) (by omega))
    exact e 10 (by omega) hj
  · unfold cpTS
    rw [cpTw_n 10 (by omega), cpTr_n 2 (by omega)]
    unfold cpT0
    rw [cp_n (by omega), up_bn (by decide), up_bn (by decide), up_a]
    exact h4
/-- a world with a cell's object changed -/
theorem wl_setQ {s : SG} {k : Nat} {t n : Nat} {f g : Nat → Option Nat} (h : K[k]? = some (kQ t n f)) : (wl K s).set k (cQ t n g) = wl (K.set k (kQ t n g)) s := by
  apply List.ext_getElem?
  intro a
  rw [List.getElem?_set]
  simp only [wl, List.getElem?_mapIdx, List.length_mapIdx, List.getElem?_set]
  by_cases e : k = a
  · subst e
    obtain ⟨hl, hh⟩ := List.getElem?_eq_some_iff.mp h
    rw [if_pos rfl, if_pos hl, if_pos rfl, if_pos hl]
    rfl
  · rw [if_neg e, if_neg e]
theorem xtq_wl {s : SG} {k q t n ci j : Nat} {f : Nat → Option Nat} {fs : List (Option EV)} (hk : K[k]? = some (kQ t n f)) (hq : K[q]? = some (kO ci fs)) (ht : (Nat.ble 2 t && Nat.ble t 4) = true) (hj : j < n) (hn : n < 2 ^ 31) (hc : Nat.beq ci (xco_of t) = true) : xtq (wl K s) (nI j) (.inr (.inr (.inl (some q)))) (.inr (.inr (.inl (some k)))) = some (wl (K.set k (kQ t n (va_up f j (some q)))) s) := by
  unfold xtq
  simp only [wl_get hk, wl_get hq, fc, xvb_nI hj hn, hc, ht, Bool.and_self, cond_true, Option.some.injEq]
  rw [nI_clamp (by omega)]
  exact wl_setQ hk
def nwS (s : SG) (n : Nat) : SG := fun a j => if a < n then s a j else if a = n then (if j = 3 then -1 else 0) else 0
theorem wl_new {s : SG} : wl K s ++ tld0 K.length = wl (K ++ KT K.length) (nwS s K.length) := by
  apply List.ext_getElem?
  intro a
  by_cases h : a < K.length
  · rw [List.getElem?_append_left (by rw [wl_len]; exact h)]
    simp only [wl, List.getElem?_mapIdx]
    rw [List.getElem?_append_left h]
    have e : nwS s K.length a = s a := by funext j; unfold nwS; rw [if_pos h]
    rw [e]
  · rw [List.getElem?_append_right (by rw [wl_len]; omega), wl_len]
    simp only [wl, List.getElem?_mapIdx]
    rw [List.getElem?_append_right (by omega)]
    obtain ⟨b, rfl⟩ : ∃ b, a = K.length + b := ⟨a - K.length, by omega⟩
    rw [Nat.add_sub_cancel_left]
    by_cases hb : b = 0
    · subst hb
      have e : nwS s K.length (K.length + 0) = fun j => if j = 3 then -1 else 0 := by
        funext j; unfold nwS; rw [if_neg (by omega), if_pos (by omega)]
      rw [e]; rfl
    · have e : nwS s K.length (K.length + b) = z0 := by
        funext j; unfold nwS; rw [if_neg (by omega), if_neg (by omega)]
      rw [e]
      by_cases h41 : b < 41
      · rcases (by omega : b = 1 ∨ b = 2 ∨ b = 3 ∨ b = 4 ∨ b = 5 ∨ b = 6 ∨ b = 7 ∨ b = 8 ∨ b = 9 ∨ b = 10 ∨ b = 11 ∨ b = 12 ∨ b = 13 ∨ b = 14 ∨ b = 15 ∨ b = 16 ∨ b = 17 ∨ b = 18 ∨ b = 19 ∨ b = 20 ∨ b = 21 ∨ b = 22 ∨ b = 23 ∨ b = 24 ∨ b = 25 ∨ b = 26 ∨ b = 27 ∨ b = 28 ∨ b = 29 ∨ b = 30 ∨ b = 31 ∨ b = 32 ∨ b = 33 ∨ b = 34 ∨ b = 35 ∨ b = 36 ∨ b = 37 ∨ b = 38 ∨ b = 39 ∨ b = 40) with q | q | q | q | q | q | q | q | q | q | q | q | q | q | q | q | q | q | q | q | q | q | q | q | q | q | q | q | q | q | q | q | q | q | q | q | q | q | q | q <;> subst q <;> rfl
      · rw [List.getElem?_eq_none (by show 41 ≤ b; omega)]
        rw [List.getElem?_eq_none (l := KT K.length) (by show 41 ≤ b; omega)]
        rfl
end XCQ
end
section
section XCR
variable {sc : Nat × (Nat → Int32)} {d : Nat} {K : List KD} {r q t a B m : Nat} {w : EW}
/-! the class keeps images -/
/-- the images that stand: f says where -/
def KS (K : List KD) (s : SG) (f : Nat → Option Nat) : Prop := (∃ t, K = KB f ++ t) ∧ ∀ j, j < 3 → f j = none ∨ ∃ B, f j = some B ∧ 72 ≤ B ∧ B + 41 ≤ K.length ∧ TD K B ∧ TB s B
theorem KS_SH {s : SG} {f : Nat → Option Nat} (h : KS K s f) : SH K := by
  obtain ⟨⟨t, e⟩, _⟩ := h
  exact ⟨f, t, e⟩
theorem KS_42 {s : SG} {f : Nat → Option Nat} (h : KS K s f) : K[42]? = some (kQ 4 3 f) := by
  obtain ⟨⟨t, rfl⟩, _⟩ := h
  rfl
theorem KS_len {s : SG} {f : Nat → Option Nat} (h : KS K s f) : 72 ≤ K.length := by
  obtain ⟨⟨t, rfl⟩, _⟩ := h
  rw [List.length_append]
  show 72 ≤ 72 + _
  omega
theorem KS_of {s t : SG} {f : Nat → Option Nat} (e : ∀ c, 72 ≤ c → t c = s c) (h : KS K s f) : KS K t f := by
  refine ⟨h.1, fun j hj => ?_⟩
  rcases h.2 j hj with q | ⟨B, h1, h2, h3, h4, h5⟩
  · exact Or.inl q
  · exact Or.inr ⟨B, h1, h2, h3, h4, TB_of (fun c hc _ => e c (by omega)) h5⟩
theorem TD_app {L : List KD} {B : Nat} (h : TD K B) (hl : B + 41 ≤ K.length) : TD (K ++ L) B := by
  intro j hj
  rw [List.getElem?_append_left (by omega)]
  exact h j hj
theorem TD_new : TD (K ++ KT K.length) K.length := by
  intro j hj
  rw [List.getElem?_append_right (by omega), Nat.add_sub_cancel_left]
theorem KB_set {f g : Nat → Option Nat} {t : List KD} : (KB f ++ t).set 42 (kQ 4 3 g) = KB g ++ t := by
  rw [List.set_append_left _ _ (by decide : 42 < 72)]
  rfl
theorem TD_set {B : Nat} {g : Nat → Option Nat} (h : TD K B) (hB : 72 ≤ B) : TD (K.set 42 (kQ 4 3 g)) B := by
  intro j hj
  rw [List.getElem?_set_ne (by omega)]
  exact h j hj
theorem KT_0 {B : Nat} (h : TD K B) : K[B]? = some (kO 5 [some (eR (B + 1)), none, none, none, some (eR (B + 2)), some (eR (B + 3)), some (eR (B + 4))]) := h 0 (by decide)
theorem TD_apart {B C : Nat} (hB : TD K B) (hC : TD K C) (h : B < C) : B + 41 ≤ C := by
  rcases Nat.lt_or_ge C (B + 41) with q | q
  · exfalso
    have e := KT_0 hC
    obtain ⟨b, rfl⟩ : ∃ b, C = B + b := ⟨C - B, by omega⟩
    rw [hB b (by omega)] at e
    have no : ∀ b, 0 < b → b < 41 → ∀ fs, (KT B)[b]? ≠ some (kO 5 fs) := by
      intro b h1 h2 fs
      rcases (by omega : b = 1 ∨ b = 2 ∨ b = 3 ∨ b = 4 ∨ b = 5 ∨ b = 6 ∨ b = 7 ∨ b = 8 ∨ b = 9 ∨ b = 10 ∨ b = 11 ∨ b = 12 ∨ b = 13 ∨ b = 14 ∨ b = 15 ∨ b = 16 ∨ b = 17 ∨ b = 18 ∨ b = 19 ∨ b = 20 ∨ b = 21 ∨ b = 22 ∨ b = 23 ∨ b = 24 ∨ b = 25 ∨ b = 26 ∨ b = 27 ∨ b = 28 ∨ b = 29 ∨ b = 30 ∨ b = 31 ∨ b = 32 ∨ b = 33 ∨ b = 34 ∨ b = 35 ∨ b = 36 ∨ b = 37 ∨ b = 38 ∨ b = 39 ∨ b = 40) with q | q | q | q | q | q | q | q | q | q | q | q | q | q | q | q | q | q | q | q | q | q | q | q | q | q | q | q | q | q | q | q | q | q | q | q | q | q | q | q <;> subst q <;> (intro z; have z2 := Option.some.inj z; cases z2)
    exact no b (by omega) (by omega) _ e
  · exact q
theorem TB_cp {s : SG} {B C : Nat} (ne : C ≠ B) (hC : TD K C) (hB : TD K B) (h : TB s C) : TB (cpTS s B 1) C := by
  refine TB_of (fun c h1 h2 => cpTS_n ?_) h
  rcases Nat.lt_or_ge B C with q | q
  · have := TD_apart hB hC q; omega
  · have := TD_apart hC hB (by omega); omega
def imgI (x : Int32) : Int32 := if x < 0 then 0 else if x < 3 then 1 else 0
theorem nat_of {x : Int32} {n : Nat} (h1 : ¬ x < 0) (h2 : x < nI n) (hn : n < 2 ^ 31) : ∃ k, k < n ∧ x = nI k := by
  have e := Int32.cast_toNatClampNeg x (Int32.not_lt.mp h1)
  refine ⟨x.toNatClampNeg, ?_, (Int32.ofNat_toNatClampNeg x (Int32.not_lt.mp h1)).symm⟩
  rw [Int32.lt_iff_toInt_lt, nI_toInt hn] at h2
  omega
theorem c_image {s : SG} {f : Nat → Option Nat} {x : Int32} (ks : KS K s f) (tb : TB s 1) : ∃ K' s' f', xN sc (d + 4) 80 [.inr (.inr (.inl (some 0))), .inl x] (wl K s) = some (some (.inl (imgI x)), wl K' s') ∧ KS K' s' f' ∧ (∀ c, c < 72 → s' c = s c) ∧ ((imgI x = 0 ∧ K' = K ∧ s' = s ∧ f' = f) ∨ ∃ k, k < 3 ∧ x = nI k ∧ imgI x = 1 ∧ (∀ j, j ≠ k → f' j = f j) ∧ (f k = none → K'.length = K.length + 41) ∧ (f k ≠ none → K'.length = K.length) ∧ ∃ B, f' k = some B ∧ TB s' B ∧ s' B 1 = s 1 1) := by
  have h := KS_SH ks
  have h42 := KS_42 ks
  have hn : xnn sc (wl K s) (.inr (.inr (.inl (some 42)))) = some 3 := xnq_wl h42 rfl
  have h3 : (3 : Int32) = nI 3 := rfl
  by_cases c1 : x < 0
  · have e : imgI x = 0 := by unfold imgI; rw [if_pos c1]
    refine ⟨K, s, f, ?_, ks, fun _ _ => rfl, Or.inl ⟨e, rfl, rfl, rfl⟩⟩
    rw [mX6_image, e]
    simp only [uX6_image_0, uX6_image_4, uX6_image_13, qX6_image_0, qX6_image_4, qX6_image_13, jX6_image_4_13, jX6_image_13_15, jX6_image_24_34, jX6_image_34_40, if_pos c1]
  · by_cases c2 : x < nI 3
    · obtain ⟨k, hk, rfl⟩ := nat_of c1 c2 (by decide)
      have e : imgI (nI k) = 1 := by unfold imgI; rw [if_neg c1, if_pos (by rw [h3]; exact c2)]
      have xk : xvb (nI k) 3 = true := xvb_nI hk (by decide)
      have hq : xdq (wl K s) (nI k) (.inr (.inr (.inl (some 42)))) = some (f k) := by
        rw [xdq_wl h42 rfl xk, nI_clamp (by omega)]
      rcases ks.2 k hk with g | ⟨B, g, hB1, hB2, hB3, hB4⟩
      · -- a new one
        have hl := KS_len ks
        have n1 : TD (K ++ KT K.length) K.length := TD_new
        have n2 : TD (K ++ KT K.length) 1 := TD_app (cS_t h) (by omega)
        have hS : SH (K ++ KT K.length) := by
          obtain ⟨f, t, rfl⟩ := h
          exact ⟨f, t ++ KT _, List.append_assoc _ _ _⟩
        have i5 := c_init5 (sc := sc) (d := d + 1) (w := wl K s)
        rw [wl_len, wl_new] at i5
        have ct := c_copyTold (sc := sc) (d := d) (s := nwS s K.length) (B := K.length) (C := 1) n1 n2 (by omega)
        have q42 : (K ++ KT K.length)[42]? = some (kQ 4 3 f) := by rw [List.getElem?_append_left (by omega)]; exact h42
        have xt := xtq_wl (s := cpTS (nwS s K.length) K.length 1) (j := k) (ci := 5) (q := K.length) q42 (n1 0 (by decide)) rfl hk (by decide) rfl
        have rv : xrv (wl (K ++ KT K.length) (nwS s K.length)) 5 (.inr (.inr (.inl (some K.length)))) = true := cT_v n1
        have lo : ∀ c, c < K.length → nwS s K.length c = s c := by intro c hc; funext j; unfold nwS; rw [if_pos hc]
        have tb1 : TB (nwS s K.length) 1 := TB_of (fun c _ hc => lo c (by omega)) tb
        refine ⟨(K ++ KT K.length).set 42 (kQ 4 3 (va_up f k (some K.length))), cpTS (nwS s K.length) K.length 1, va_up f k (some K.length), ?_, ?_, ?_, Or.inr ⟨k, hk, rfl, e, fun j hj => va_up_ne f _ hj, fun _ => ?_, fun q => absurd g q, K.length, va_up_self f k _, cpTS_TB (by omega) tb1, ?_⟩⟩
        · rw [mX6_image, e]
          simp only [uX6_image_0, uX6_image_4, uX6_image_13, uX6_image_15, uX6_image_24, qX6_image_0, qX6_image_4, qX6_image_13, qX6_image_15, qX6_image_24, jX6_image_4_13, jX6_image_13_15, jX6_image_24_34, jX6_image_34_40, c0_g1 h, hn, bd_eq, if_neg c1, if_pos c2, hq, g, Option.isNone_none, cond_true, wl_len, i5, xcv_eq]
          simp only [uX6_image_40, qX6_image_40, jX6_image_4_13, jX6_image_13_15, jX6_image_24_34, jX6_image_34_40, c0_g0 hS, c0_g1 hS, bd_eq, rv, cond_true, ct, xcv_eq, xt]
        · refine ⟨?_, fun j hj => ?_⟩
          · obtain ⟨⟨t, et⟩, _⟩ := ks
            refine ⟨t ++ KT K.length, ?_⟩
            have : K ++ KT K.length = KB f ++ (t ++ KT K.length) := by rw [← List.append_assoc, ← et]
            rw [this]; exact KB_set
          · by_cases ej : j = k
            · subst ej
              refine Or.inr ⟨K.length, va_up_self f j _, hl, ?_, TD_set n1 hl, cpTS_TB (by omega) tb1⟩
              rw [List.length_set, List.length_append]; exact Nat.le_refl _
            · rw [va_up_ne f _ ej]
              rcases ks.2 j hj with q | ⟨B, q, hB1, hB2, hB3, hB4⟩
              · exact Or.inl q
              · refine Or.inr ⟨B, q, hB1, ?_, TD_set (TD_app hB3 hB2) hB1, ?_⟩
                · rw [List.length_set, List.length_append]; omega
                · refine TB_of (s := s) (fun c _ hc => ?_) hB4
                  rw [cpTS_n (by omega)]; exact lo c (by omega)
        · intro c hc
          rw [cpTS_n (by omega)]; exact lo c (by omega)
        · rw [List.length_set, List.length_append]; rfl
        · unfold cpTS
          rw [cpTw_n 10 (by omega), cpTr_n 2 (by omega)]
          unfold cpT0
          rw [cp_n (by omega), up_bn (by decide), up_bn (by decide), up_a, lo 1 (by omega)]
      · -- one that stands
        have ct := c_copyTold (sc := sc) (d := d) (s := s) (B := B) (C := 1) hB3 (cS_t h) (by omega)
        have xt := xtq_wl (s := cpTS s B 1) (j := k) (ci := 5) (q := B) h42 (hB3 0 (by decide)) rfl hk (by decide) rfl
        have vf : va_up f k (some B) = f := by
          funext j
          by_cases ej : j = k
          · subst ej; rw [va_up_self, g]
          · exact va_up_ne f _ ej
        have kk : K.set 42 (kQ 4 3 f) = K := by
          obtain ⟨⟨t, et⟩, _⟩ := ks
          rw [et, KB_set]
        rw [vf, kk] at xt
        refine ⟨K, cpTS s B 1, f, ?_, ?_, ?_, Or.inr ⟨k, hk, rfl, e, fun _ _ => rfl, fun q => absurd (q ▸ g : none = some B) (by intro z; cases z), fun _ => rfl, B, g, cpTS_TB (by omega) tb, ?_⟩⟩
        · rw [mX6_image, e]
          simp only [uX6_image_0, uX6_image_4, uX6_image_13, uX6_image_15, qX6_image_0, qX6_image_4, qX6_image_13, qX6_image_15, jX6_image_4_13, jX6_image_13_15, jX6_image_24_34, jX6_image_34_40, c0_g1 h, hn, bd_eq, if_neg c1, if_pos c2, hq, g, Option.isNone_some, cond_false]
          simp only [uX6_image_34, uX6_image_40, qX6_image_34, qX6_image_40, jX6_image_4_13, jX6_image_13_15, jX6_image_24_34, jX6_image_34_40, c0_g1 h, c0_g0 h, hq, g, bd_eq, cT_v hB3, cond_true, ct, xcv_eq, xt]
        · refine ⟨ks.1, fun j hj => ?_⟩
          by_cases ej : j = k
          · subst ej
            exact Or.inr ⟨B, g, hB1, hB2, hB3, cpTS_TB (by omega) tb⟩
          · rcases ks.2 j hj with q | ⟨C, q, hC1, hC2, hC3, hC4⟩
            · exact Or.inl q
            · refine Or.inr ⟨C, q, hC1, hC2, hC3, ?_⟩
              by_cases eB : C = B
              · subst eB; exact cpTS_TB (by omega) tb
              · exact TB_cp eB hC3 hB3 hC4
        · intro c hc
          exact cpTS_n (by omega)
        · unfold cpTS
          rw [cpTw_n 10 (by omega), cpTr_n 2 (by omega)]
          unfold cpT0
          rw [cp_n (by omega), up_bn (by decide), up_bn (by decide), up_a]
    · have e : imgI x = 0 := by unfold imgI; rw [if_neg c1, if_neg (by rw [h3]; exact c2)]
      refine ⟨K, s, f, ?_, ks, fun _ _ => rfl, Or.inl ⟨e, rfl, rfl, rfl⟩⟩
      rw [mX6_image, e]
      simp only [uX6_image_0, uX6_image_4, uX6_image_13, qX6_image_0, qX6_image_4, qX6_image_13, jX6_image_4_13, jX6_image_13_15, jX6_image_24_34, jX6_image_34_40, c0_g1 h, hn, bd_eq, if_neg c1, if_neg c2]
def agaI (f : Nat → Option Nat) (x : Int32) : Int32 := if x < 0 then 0 else if 3 ≤ x then 0 else if (f x.toNatClampNeg).isNone then 0 else 1
def agaS (s : SG) (f : Nat → Option Nat) (x : Int32) : SG := if agaI f x = 0 then s else match f x.toNatClampNeg with
  | none => s
  | some B => cpTS s 1 B
theorem c_again {s : SG} {f : Nat → Option Nat} {x : Int32} (ks : KS K s f) : xN sc (d + 4) 81 [.inr (.inr (.inl (some 0))), .inl x] (wl K s) = some (some (.inl (agaI f x)), wl K (agaS s f x)) := by
  have h := KS_SH ks
  have h42 := KS_42 ks
  have hn : xnn sc (wl K s) (.inr (.inr (.inl (some 42)))) = some 3 := xnq_wl h42 rfl
  rw [mX6_again]
  by_cases c1 : x < 0
  · have e : agaI f x = 0 := by unfold agaI; rw [if_pos c1]
    unfold agaS
    rw [e, if_pos rfl]
    simp only [uX6_again_0, uX6_again_4, uX6_again_13, uX6_again_22, qX6_again_0, qX6_again_4, qX6_again_13, qX6_again_22, jX6_again_4_22, jX6_again_13_22, jX6_again_22_24, if_pos c1]
  · by_cases c2 : nI 3 ≤ x
    · have e : agaI f x = 0 := by unfold agaI; rw [if_neg c1, if_pos (show (3 : Int32) ≤ x from c2)]
      unfold agaS
      rw [e, if_pos rfl]
      simp only [uX6_again_0, uX6_again_4, uX6_again_13, uX6_again_22, qX6_again_0, qX6_again_4, qX6_again_13, qX6_again_22, jX6_again_4_22, jX6_again_13_22, jX6_again_22_24, c0_g1 h, hn, bd_eq, if_neg c1, if_pos c2]
    · obtain ⟨k, hk, rfl⟩ := nat_of c1 (Int32.not_le.mp c2) (by decide)
      have xk : xvb (nI k) 3 = true := xvb_nI hk (by decide)
      have hq : xdq (wl K s) (nI k) (.inr (.inr (.inl (some 42)))) = some (f k) := by
        rw [xdq_wl h42 rfl xk, nI_clamp (by omega)]
      have e0 : agaI f (nI k) = if (f k).isNone then 0 else 1 := by unfold agaI; rw [if_neg c1, if_neg (show ¬ (3 : Int32) ≤ nI k from c2), nI_clamp (by omega)]
      rcases ks.2 k hk with g | ⟨B, g, hB1, hB2, hB3, hB4⟩
      · have e : agaI f (nI k) = 0 := by rw [e0, g]; rfl
        unfold agaS
        rw [e, if_pos rfl]
        simp only [uX6_again_0, uX6_again_4, uX6_again_13, uX6_again_22, qX6_again_0, qX6_again_4, qX6_again_13, qX6_again_22, jX6_again_4_22, jX6_again_13_22, jX6_again_22_24, c0_g1 h, hn, bd_eq, if_neg c1, if_neg c2, hq, g, Option.isNone_none, cond_true]
      · have e : agaI f (nI k) = 1 := by rw [e0, g]; rfl
        have ct := c_copyTold (sc := sc) (d := d) (s := s) (B := 1) (C := B) (cS_t h) hB3 (by omega)
        unfold agaS
        rw [e, if_neg (by decide), nI_clamp (by omega)]
        simp only [uX6_again_0, uX6_again_4, uX6_again_13, uX6_again_22, uX6_again_24, qX6_again_0, qX6_again_4, qX6_again_13, qX6_again_22, qX6_again_24, jX6_again_4_22, jX6_again_13_22, jX6_again_22_24, c0_g0 h, c0_g1 h, hn, bd_eq, if_neg c1, if_neg c2, hq, g, Option.isNone_some, cond_false, c1_v h, cond_true, ct, xcv_eq]
theorem agaS_TB {s : SG} {f : Nat → Option Nat} {x : Int32} (ks : KS K s f) (tb : TB s 1) : TB (agaS s f x) 1 := by
  unfold agaS
  split
  · exact tb
  · rename_i c1
    have c3 : x.toNatClampNeg < 3 := by
      unfold agaI at c1
      rcases Nat.lt_or_ge x.toNatClampNeg 3 with q | q
      · exact q
      · exfalso; apply c1
        by_cases c2 : x < 0
        · rw [if_pos c2]
        · rw [if_neg c2, if_pos]
          have e := Int32.cast_toNatClampNeg x (Int32.not_lt.mp c2)
          rw [Int32.le_iff_toInt_le]
          have : (3 : Int32).toInt = 3 := by decide
          omega
    rcases ks.2 _ c3 with g | ⟨B, g, hB1, hB2, hB3, hB4⟩
    · rw [g]; exact tb
    · rw [g]; exact cpTS_TB (by omega) hB4
theorem agaS_n {s : SG} {f : Nat → Option Nat} {x : Int32} {c : Nat} (hc : 42 ≤ c) : agaS s f x c = s c := by
  unfold agaS
  split
  · rfl
  · cases f x.toNatClampNeg with
    | none => rfl
    | some B => exact cpTS_n (s := s) (B := 1) (C := B) (c := c) (by omega)
end XCR
end
