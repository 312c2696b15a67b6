section XCN
variable {sc : Nat × (Nat → Int32)} {d : Nat} {K : List KD} {r q t a B m : Nat} {w : EW}
def rlT (s : SG) (so line : Int32) : SG := if s 43 2 = 0 then tkeS s so line else s
def rlL (so line : Int32) (z : Nat) : Nat → Nat → SG → Int32 → Int32 × SG
  | 0, _, s, _ => (1, rlT s so line)
  | n + 1, j, s, y => if chZ z j = 32 then (1, rlT s so line) else if (rpaP s (chZ z j) y).1 = 0 then ((refP (rpaP s (chZ z j) y).2).1, (refP (rpaP s (chZ z j) y).2).2) else rlL so line z n (j + 1) (rpaP s (chZ z j) y).2 (y + 1)
theorem rlT_lo {s : SG} {so line : Int32} {c : Nat} (ha : c < 42 ∨ 64 ≤ c) : (rlT s so line) c = s c := by
  unfold rlT
  first | done | rfl | (simp (decide := true) (maxDischargeDepth := 40) only [up_lo2 ha, pt_lo2 ha, fl_lo2 ha, cp_lo2 ha, setS7_lo ha, setS0_lo ha, briS7_lo ha, briS0_lo ha, tofP_lo ha, disP_lo ha, recP_lo ha, beaS_lo ha, rcdS_lo ha, comS_lo ha, decSL_lo ha, decS_lo ha, opeS_lo ha, hapPW_lo ha, hapP_lo ha, runPL_lo ha, runP_lo ha, dbeP_lo ha, drmS_lo ha, draSL_lo ha, draS_lo ha, stoPd_lo ha, iagP_lo ha, iag0_lo ha, magPL_lo ha, magP_lo ha, bagPL_lo ha, bagP_lo ha, magP0L_lo ha, magP0_lo ha, bagP0L_lo ha, bagP0_lo ha, agdbW_lo ha, agdb_lo ha, agdcW_lo ha, agdc_lo ha, fiwPL_lo ha, fiwP_lo ha, menPL_lo ha, menP_lo ha, natPc_lo ha, ffiPL_lo ha, ffiP_lo ha, unlPL_lo ha, unlP_lo ha, telPL_lo ha, telP_lo ha, drwP_lo ha, staP_lo ha, seaPW_lo ha, seaP_lo ha, clrS_lo ha, clwS_lo ha, admS_lo ha, setNW_lo ha, setN_lo ha, takSL_lo ha, takSW_lo ha, takS_lo ha, stwS_lo ha, adwSL_lo ha, adwS_lo ha, notS_lo ha, refP_lo ha, couS_lo ha, ttoS_lo ha, tkoS_lo ha, tkeSW_lo ha, tkeS_lo ha, advS_lo ha, resP_lo ha, rnuP_lo ha, reaP_lo ha, rpaP_lo ha]; done) | ((repeat' split) <;> first | rfl | (simp (decide := true) (maxDischargeDepth := 40) only [up_lo2 ha, pt_lo2 ha, fl_lo2 ha, cp_lo2 ha, setS7_lo ha, setS0_lo ha, briS7_lo ha, briS0_lo ha, tofP_lo ha, disP_lo ha, recP_lo ha, beaS_lo ha, rcdS_lo ha, comS_lo ha, decSL_lo ha, decS_lo ha, opeS_lo ha, hapPW_lo ha, hapP_lo ha, runPL_lo ha, runP_lo ha, dbeP_lo ha, drmS_lo ha, draSL_lo ha, draS_lo ha, stoPd_lo ha, iagP_lo ha, iag0_lo ha, magPL_lo ha, magP_lo ha, bagPL_lo ha, bagP_lo ha, magP0L_lo ha, magP0_lo ha, bagP0L_lo ha, bagP0_lo ha, agdbW_lo ha, agdb_lo ha, agdcW_lo ha, agdc_lo ha, fiwPL_lo ha, fiwP_lo ha, menPL_lo ha, menP_lo ha, natPc_lo ha, ffiPL_lo ha, ffiP_lo ha, unlPL_lo ha, unlP_lo ha, telPL_lo ha, telP_lo ha, drwP_lo ha, staP_lo ha, seaPW_lo ha, seaP_lo ha, clrS_lo ha, clwS_lo ha, admS_lo ha, setNW_lo ha, setN_lo ha, takSL_lo ha, takSW_lo ha, takS_lo ha, stwS_lo ha, adwSL_lo ha, adwS_lo ha, notS_lo ha, refP_lo ha, couS_lo ha, ttoS_lo ha, tkoS_lo ha, tkeSW_lo ha, tkeS_lo ha, advS_lo ha, resP_lo ha, rnuP_lo ha, reaP_lo ha, rpaP_lo ha]; done))
theorem rlT_SZ {s : SG} {so line : Int32} {c : Nat} (hc : c + 8 ≤ 42) : SZ ((rlT s so line)) c ↔ SZ s c := by unfold SZ sz; rw [rlT_lo (Or.inl (by omega))]
theorem rlT_sz {s : SG} {so line : Int32} {c : Nat} (hc : c + 8 ≤ 42) : sz ((rlT s so line)) c = sz s c := by unfold sz; rw [rlT_lo (Or.inl (by omega))]
theorem rlT_RZ {s : SG} {so line : Int32} {c : Nat} (hc : c + 2 ≤ 42) : RZ ((rlT s so line)) c ↔ RZ s c := by unfold RZ rz; rw [rlT_lo (Or.inl (by omega))]
theorem rlT_rz {s : SG} {so line : Int32} {c : Nat} (hc : c + 2 ≤ 42) : rz ((rlT s so line)) c = rz s c := by unfold rz; rw [rlT_lo (Or.inl (by omega))]
theorem rlT_RS {s : SG} {so line : Int32} : RS s → RS ((rlT s so line)) := by
  intro hi
  unfold rlT
  first | done | first | exact hi | (simp (decide := true) (maxDischargeDepth := 40) only [RS_43, RS_up, RS_pt, RS_fl, RS_cp, RS_adv, adwS_RS, clrS_RS, clwS_RS, admS_RS, setNW_RS, setN_RS, takSL_RS, takSW_RS, takS_RS, stwS_RS, notS_RS, refP_RS, couS_RS, ttoS_RS, tkoS_RS, tkeSW_RS, tkeS_RS, resP_RS, rnuP_RS, reaP_RS, rpaP_RS, hi]; done) | ((repeat' split) <;> first | exact hi | (simp (decide := true) (maxDischargeDepth := 40) only [RS_43, RS_up, RS_pt, RS_fl, RS_cp, RS_adv, adwS_RS, clrS_RS, clwS_RS, admS_RS, setNW_RS, setN_RS, takSL_RS, takSW_RS, takS_RS, stwS_RS, notS_RS, refP_RS, couS_RS, ttoS_RS, tkoS_RS, tkeSW_RS, tkeS_RS, resP_RS, rnuP_RS, reaP_RS, rpaP_RS, hi]; done))
theorem rlT_IR {s : SG} {so line : Int32} : IR s → IR ((rlT s so line)) := by
  intro hi
  unfold rlT
  first | done | first | exact hi | (simp (decide := true) (maxDischargeDepth := 40) only [IR_up, IR_44, IR_52, IR_pt, IR_fl, IR_cp, advS_IR, admS_IR, adwS_IR, setNW_IR, setN_IR, takSL_IR, takSW_IR, takS_IR, stwS_IR, notS_IR, refP_IR, couS_IR, ttoS_IR, tkoS_IR, tkeSW_IR, tkeS_IR, resP_IR, rnuP_IR, reaP_IR, rpaP_IR, hi]; done) | ((repeat' split) <;> first | exact hi | (simp (decide := true) (maxDischargeDepth := 40) only [IR_up, IR_44, IR_52, IR_pt, IR_fl, IR_cp, advS_IR, admS_IR, adwS_IR, setNW_IR, setN_IR, takSL_IR, takSW_IR, takS_IR, stwS_IR, notS_IR, refP_IR, couS_IR, ttoS_IR, tkoS_IR, tkeSW_IR, tkeS_IR, resP_IR, rnuP_IR, reaP_IR, rpaP_IR, hi]; done))
theorem rlL_lo {so line : Int32} {z : Nat} {c : Nat} (ha : c < 42 ∨ 64 ≤ c) : ∀ (n j : Nat) (s : SG) (y : Int32), (rlL so line z n j s y).2 c = s c := by
  intro n
  induction n with
  | zero =>
    intro j s y
    rw [rlL]
    first | done | rfl | (simp (decide := true) (maxDischargeDepth := 40) only [up_lo2 ha, pt_lo2 ha, fl_lo2 ha, cp_lo2 ha, setS7_lo ha, setS0_lo ha, briS7_lo ha, briS0_lo ha, tofP_lo ha, disP_lo ha, recP_lo ha, beaS_lo ha, rcdS_lo ha, comS_lo ha, decSL_lo ha, decS_lo ha, opeS_lo ha, hapPW_lo ha, hapP_lo ha, runPL_lo ha, runP_lo ha, dbeP_lo ha, drmS_lo ha, draSL_lo ha, draS_lo ha, stoPd_lo ha, iagP_lo ha, iag0_lo ha, magPL_lo ha, magP_lo ha, bagPL_lo ha, bagP_lo ha, magP0L_lo ha, magP0_lo ha, bagP0L_lo ha, bagP0_lo ha, agdbW_lo ha, agdb_lo ha, agdcW_lo ha, agdc_lo ha, fiwPL_lo ha, fiwP_lo ha, menPL_lo ha, menP_lo ha, natPc_lo ha, ffiPL_lo ha, ffiP_lo ha, unlPL_lo ha, unlP_lo ha, telPL_lo ha, telP_lo ha, drwP_lo ha, staP_lo ha, seaPW_lo ha, seaP_lo ha, clrS_lo ha, clwS_lo ha, admS_lo ha, setNW_lo ha, setN_lo ha, takSL_lo ha, takSW_lo ha, takS_lo ha, stwS_lo ha, adwSL_lo ha, adwS_lo ha, notS_lo ha, refP_lo ha, couS_lo ha, ttoS_lo ha, tkoS_lo ha, tkeSW_lo ha, tkeS_lo ha, advS_lo ha, resP_lo ha, rnuP_lo ha, reaP_lo ha, rpaP_lo ha, rlT_lo ha]; done) | ((repeat' split) <;> first | rfl | (simp (decide := true) (maxDischargeDepth := 40) only [up_lo2 ha, pt_lo2 ha, fl_lo2 ha, cp_lo2 ha, setS7_lo ha, setS0_lo ha, briS7_lo ha, briS0_lo ha, tofP_lo ha, disP_lo ha, recP_lo ha, beaS_lo ha, rcdS_lo ha, comS_lo ha, decSL_lo ha, decS_lo ha, opeS_lo ha, hapPW_lo ha, hapP_lo ha, runPL_lo ha, runP_lo ha, dbeP_lo ha, drmS_lo ha, draSL_lo ha, draS_lo ha, stoPd_lo ha, iagP_lo ha, iag0_lo ha, magPL_lo ha, magP_lo ha, bagPL_lo ha, bagP_lo ha, magP0L_lo ha, magP0_lo ha, bagP0L_lo ha, bagP0_lo ha, agdbW_lo ha, agdb_lo ha, agdcW_lo ha, agdc_lo ha, fiwPL_lo ha, fiwP_lo ha, menPL_lo ha, menP_lo ha, natPc_lo ha, ffiPL_lo ha, ffiP_lo ha, unlPL_lo ha, unlP_lo ha, telPL_lo ha, telP_lo ha, drwP_lo ha, staP_lo ha, seaPW_lo ha, seaP_lo ha, clrS_lo ha, clwS_lo ha, admS_lo ha, setNW_lo ha, setN_lo ha, takSL_lo ha, takSW_lo ha, takS_lo ha, stwS_lo ha, adwSL_lo ha, adwS_lo ha, notS_lo ha, refP_lo ha, couS_lo ha, ttoS_lo ha, tkoS_lo ha, tkeSW_lo ha, tkeS_lo ha, advS_lo ha, resP_lo ha, rnuP_lo ha, reaP_lo ha, rpaP_lo ha, rlT_lo ha]; done))
  | succ n ih =>
    intro j s y
    rw [rlL]
    first | done | rfl | (simp (decide := true) (maxDischargeDepth := 40) only [ih, up_lo2 ha, pt_lo2 ha, fl_lo2 ha, cp_lo2 ha, setS7_lo ha, setS0_lo ha, briS7_lo ha, briS0_lo ha, tofP_lo ha, disP_lo ha, recP_lo ha, beaS_lo ha, rcdS_lo ha, comS_lo ha, decSL_lo ha, decS_lo ha, opeS_lo ha, hapPW_lo ha, hapP_lo ha, runPL_lo ha, runP_lo ha, dbeP_lo ha, drmS_lo ha, draSL_lo ha, draS_lo ha, stoPd_lo ha, iagP_lo ha, iag0_lo ha, magPL_lo ha, magP_lo ha, bagPL_lo ha, bagP_lo ha, magP0L_lo ha, magP0_lo ha, bagP0L_lo ha, bagP0_lo ha, agdbW_lo ha, agdb_lo ha, agdcW_lo ha, agdc_lo ha, fiwPL_lo ha, fiwP_lo ha, menPL_lo ha, menP_lo ha, natPc_lo ha, ffiPL_lo ha, ffiP_lo ha, unlPL_lo ha, unlP_lo ha, telPL_lo ha, telP_lo ha, drwP_lo ha, staP_lo ha, seaPW_lo ha, seaP_lo ha, clrS_lo ha, clwS_lo ha, admS_lo ha, setNW_lo ha, setN_lo ha, takSL_lo ha, takSW_lo ha, takS_lo ha, stwS_lo ha, adwSL_lo ha, adwS_lo ha, notS_lo ha, refP_lo ha, couS_lo ha, ttoS_lo ha, tkoS_lo ha, tkeSW_lo ha, tkeS_lo ha, advS_lo ha, resP_lo ha, rnuP_lo ha, reaP_lo ha, rpaP_lo ha, rlT_lo ha]; done) | ((repeat' split) <;> first | rfl | (simp (decide := true) (maxDischargeDepth := 40) only [ih, up_lo2 ha, pt_lo2 ha, fl_lo2 ha, cp_lo2 ha, setS7_lo ha, setS0_lo ha, briS7_lo ha, briS0_lo ha, tofP_lo ha, disP_lo ha, recP_lo ha, beaS_lo ha, rcdS_lo ha, comS_lo ha, decSL_lo ha, decS_lo ha, opeS_lo ha, hapPW_lo ha, hapP_lo ha, runPL_lo ha, runP_lo ha, dbeP_lo ha, drmS_lo ha, draSL_lo ha, draS_lo ha, stoPd_lo ha, iagP_lo ha, iag0_lo ha, magPL_lo ha, magP_lo ha, bagPL_lo ha, bagP_lo ha, magP0L_lo ha, magP0_lo ha, bagP0L_lo ha, bagP0_lo ha, agdbW_lo ha, agdb_lo ha, agdcW_lo ha, agdc_lo ha, fiwPL_lo ha, fiwP_lo ha, menPL_lo ha, menP_lo ha, natPc_lo ha, ffiPL_lo ha, ffiP_lo ha, unlPL_lo ha, unlP_lo ha, telPL_lo ha, telP_lo ha, drwP_lo ha, staP_lo ha, seaPW_lo ha, seaP_lo ha, clrS_lo ha, clwS_lo ha, admS_lo ha, setNW_lo ha, setN_lo ha, takSL_lo ha, takSW_lo ha, takS_lo ha, stwS_lo ha, adwSL_lo ha, adwS_lo ha, notS_lo ha, refP_lo ha, couS_lo ha, ttoS_lo ha, tkoS_lo ha, tkeSW_lo ha, tkeS_lo ha, advS_lo ha, resP_lo ha, rnuP_lo ha, reaP_lo ha, rpaP_lo ha, rlT_lo ha]; done))
theorem rlL_SZ {so line : Int32} {z : Nat} {n j : Nat} {s : SG} {y : Int32} {c : Nat} (hc : c + 8 ≤ 42) : SZ ((rlL so line z n j s y).2) c ↔ SZ s c := by unfold SZ sz; rw [rlL_lo (Or.inl (by omega)) n j s y]
theorem rlL_sz {so line : Int32} {z : Nat} {n j : Nat} {s : SG} {y : Int32} {c : Nat} (hc : c + 8 ≤ 42) : sz ((rlL so line z n j s y).2) c = sz s c := by unfold sz; rw [rlL_lo (Or.inl (by omega)) n j s y]
theorem rlL_RZ {so line : Int32} {z : Nat} {n j : Nat} {s : SG} {y : Int32} {c : Nat} (hc : c + 2 ≤ 42) : RZ ((rlL so line z n j s y).2) c ↔ RZ s c := by unfold RZ rz; rw [rlL_lo (Or.inl (by omega)) n j s y]
theorem rlL_rz {so line : Int32} {z : Nat} {n j : Nat} {s : SG} {y : Int32} {c : Nat} (hc : c + 2 ≤ 42) : rz ((rlL so line z n j s y).2) c = rz s c := by unfold rz; rw [rlL_lo (Or.inl (by omega)) n j s y]
theorem rlL_RS {so line : Int32} {z : Nat} : ∀ (n j : Nat) (s : SG) (y : Int32), RS s → RS ((rlL so line z n j s y).2) := by
  intro n
  induction n with
  | zero =>
    intro j s y hi
    rw [rlL]
    first | done | first | exact hi | (simp (decide := true) (maxDischargeDepth := 40) only [RS_43, RS_up, RS_pt, RS_fl, RS_cp, RS_adv, adwS_RS, clrS_RS, clwS_RS, admS_RS, setNW_RS, setN_RS, takSL_RS, takSW_RS, takS_RS, stwS_RS, notS_RS, refP_RS, couS_RS, ttoS_RS, tkoS_RS, tkeSW_RS, tkeS_RS, resP_RS, rnuP_RS, reaP_RS, rpaP_RS, rlT_RS, hi]; done) | ((repeat' split) <;> first | exact hi | (simp (decide := true) (maxDischargeDepth := 40) only [RS_43, RS_up, RS_pt, RS_fl, RS_cp, RS_adv, adwS_RS, clrS_RS, clwS_RS, admS_RS, setNW_RS, setN_RS, takSL_RS, takSW_RS, takS_RS, stwS_RS, notS_RS, refP_RS, couS_RS, ttoS_RS, tkoS_RS, tkeSW_RS, tkeS_RS, resP_RS, rnuP_RS, reaP_RS, rpaP_RS, rlT_RS, hi]; done))
  | succ n ih =>
    intro j s y hi
    rw [rlL]
    first | done | first | exact hi | (exact ih _ _ _ hi) | (simp (decide := true) (maxDischargeDepth := 40) only [ih, RS_43, RS_up, RS_pt, RS_fl, RS_cp, RS_adv, adwS_RS, clrS_RS, clwS_RS, admS_RS, setNW_RS, setN_RS, takSL_RS, takSW_RS, takS_RS, stwS_RS, notS_RS, refP_RS, couS_RS, ttoS_RS, tkoS_RS, tkeSW_RS, tkeS_RS, resP_RS, rnuP_RS, reaP_RS, rpaP_RS, rlT_RS, hi]; done) | ((repeat' split) <;> first | exact hi | (exact ih _ _ _ hi) | (simp (decide := true) (maxDischargeDepth := 40) only [ih, RS_43, RS_up, RS_pt, RS_fl, RS_cp, RS_adv, adwS_RS, clrS_RS, clwS_RS, admS_RS, setNW_RS, setN_RS, takSL_RS, takSW_RS, takS_RS, stwS_RS, notS_RS, refP_RS, couS_RS, ttoS_RS, tkoS_RS, tkeSW_RS, tkeS_RS, resP_RS, rnuP_RS, reaP_RS, rpaP_RS, rlT_RS, hi]; done))
theorem rlL_IR {so line : Int32} {z : Nat} : ∀ (n j : Nat) (s : SG) (y : Int32), IR s → IR ((rlL so line z n j s y).2) := by
  intro n
  induction n with
  | zero =>
    intro j s y hi
    rw [rlL]
    first | done | first | exact hi | (simp (decide := true) (maxDischargeDepth := 40) only [IR_up, IR_44, IR_52, IR_pt, IR_fl, IR_cp, advS_IR, admS_IR, adwS_IR, setNW_IR, setN_IR, takSL_IR, takSW_IR, takS_IR, stwS_IR, notS_IR, refP_IR, couS_IR, ttoS_IR, tkoS_IR, tkeSW_IR, tkeS_IR, resP_IR, rnuP_IR, reaP_IR, rpaP_IR, rlT_IR, hi]; done) | ((repeat' split) <;> first | exact hi | (simp (decide := true) (maxDischargeDepth := 40) only [IR_up, IR_44, IR_52, IR_pt, IR_fl, IR_cp, advS_IR, admS_IR, adwS_IR, setNW_IR, setN_IR, takSL_IR, takSW_IR, takS_IR, stwS_IR, notS_IR, refP_IR, couS_IR, ttoS_IR, tkoS_IR, tkeSW_IR, tkeS_IR, resP_IR, rnuP_IR, reaP_IR, rpaP_IR, rlT_IR, hi]; done))
  | succ n ih =>
    intro j s y hi
    rw [rlL]
    first | done | first | exact hi | (exact ih _ _ _ hi) | (simp (decide := true) (maxDischargeDepth := 40) only [ih, IR_up, IR_44, IR_52, IR_pt, IR_fl, IR_cp, advS_IR, admS_IR, adwS_IR, setNW_IR, setN_IR, takSL_IR, takSW_IR, takS_IR, stwS_IR, notS_IR, refP_IR, couS_IR, ttoS_IR, tkoS_IR, tkeSW_IR, tkeS_IR, resP_IR, rnuP_IR, reaP_IR, rpaP_IR, rlT_IR, hi]; done) | ((repeat' split) <;> first | exact hi | (exact ih _ _ _ hi) | (simp (decide := true) (maxDischargeDepth := 40) only [ih, IR_up, IR_44, IR_52, IR_pt, IR_fl, IR_cp, advS_IR, admS_IR, adwS_IR, setNW_IR, setN_IR, takSL_IR, takSW_IR, takS_IR, stwS_IR, notS_IR, refP_IR, couS_IR, ttoS_IR, tkoS_IR, tkeSW_IR, tkeS_IR, resP_IR, rnuP_IR, reaP_IR, rpaP_IR, rlT_IR, hi]; done))
theorem s_rlT {s : SG} {so line : Int32} {z : Nat} {x4 x5 : Int32} {b : Nat → XL → List EV → EW → XR} (h : SH K) : fW sc 1 4 false 6 (xN sc (d + 7)) b kX1_readLine_101 101 [some (.inr (.inr (.inl (some 43)))), some (.inl so), some (.inl line), some (.inr (.inr (.inr (3 + z)))), some (.inl x4), some (.inl x5)] [] (wl K s) = some (some (.inl 1), wl K (rlT s so line)) := by
  simp (decide := true) only [uX1_readLine_101, uX1_readLine_108, uX1_readLine_114, qX1_readLine_101, qX1_readLine_108, qX1_readLine_114, jX1_readLine_14_19, jX1_readLine_61_101, jX1_readLine_72_101, jX1_readLine_87_92, jX1_readLine_108_114, jX1_readLine_0_52, c43_g2 h, bd_eq, c43_v h, cond_true, c_take h, xcv_eq]
  unfold rlT
  split <;> rfl
theorem l_readLine {so line : Int32} {z : Nat} (h : SH K) (hz : z < 18) : ∀ (n j k : Nat) (s : SG) (y : Int32), RS s → j + n = sl z → n ≤ k → fW sc 1 4 false 6 (xN sc (d + 7)) (ex sc 1 4 false 6 (xN sc (d + 7)) kX1_readLine_0 k) kX1_readLine_52 52 [some (.inr (.inr (.inl (some 43)))), some (.inl so), some (.inl line), some (.inr (.inr (.inr (3 + z)))), some (.inl y), some (.inl (nI j))] [] (wl K s) = some (some (.inl (rlL so line z n j s y).1), wl K (rlL so line z n j s y).2) := by
  have h3 := sl_le z hz
  intro n
  induction n with
  | zero =>
    intro j k s y rs hj hk
    simp only [uX1_readLine_52, qX1_readLine_52, jX1_readLine_14_19, jX1_readLine_61_101, jX1_readLine_72_101, jX1_readLine_87_92, jX1_readLine_108_114, jX1_readLine_0_52, xst_z hz, c_length hz, xci_eq, if_pos (k_ge hj)]
    simp only [s_rlT h]
    rw [rlL]
  | succ n ih =>
    intro j k s y rs hj hk
    obtain ⟨k, rfl⟩ : ∃ k', k = k' + 1 := ⟨k - 1, by omega⟩
    have rs2 : RS (rpaP s (chZ z j) y).2 := rpaP_RS rs
    have e := ih (j + 1) k (rpaP s (chZ z j) y).2 (y + 1) rs2 (by omega) (by omega)
    rw [nI_succ] at e
    simp only [uX1_readLine_52, qX1_readLine_52, jX1_readLine_14_19, jX1_readLine_61_101, jX1_readLine_72_101, jX1_readLine_87_92, jX1_readLine_108_114, jX1_readLine_0_52, xst_z hz, c_length hz, xci_eq, if_neg (k_lt hj (show sl z < 2 ^ 31 by omega))]
    simp only [uX1_readLine_61, qX1_readLine_61, jX1_readLine_14_19, jX1_readLine_61_101, jX1_readLine_72_101, jX1_readLine_87_92, jX1_readLine_108_114, jX1_readLine_0_52, xst_z hz, c_charAt hz (show j < sl z by omega), xci_eq]
    rw [rlL]
    by_cases c1 : chZ z j = 32
    · rw [if_pos c1, if_pos c1]
      simp only [jX1_readLine_14_19, jX1_readLine_61_101, jX1_readLine_72_101, jX1_readLine_87_92, jX1_readLine_108_114, jX1_readLine_0_52, s_rlT h]
    · rw [if_neg c1, if_neg c1]
      simp only [uX1_readLine_72, qX1_readLine_72, jX1_readLine_14_19, jX1_readLine_61_101, jX1_readLine_72_101, jX1_readLine_87_92, jX1_readLine_108_114, jX1_readLine_0_52, xst_z hz, c_charAt hz (show j < sl z by omega), xci_eq, c43_v h, cond_true, c_readPart h rs]
      by_cases c2 : (rpaP s (chZ z j) y).1 = 0
      · rw [if_pos c2, if_pos c2]
        simp only [uX1_readLine_87, qX1_readLine_87, jX1_readLine_14_19, jX1_readLine_61_101, jX1_readLine_72_101, jX1_readLine_87_92, jX1_readLine_108_114, jX1_readLine_0_52, c43_v h, cond_true, c_refuse h, xci_eq, refP_rt]
      · rw [if_neg c2, if_neg c2]
        simp only [uX1_readLine_92, qX1_readLine_92, jX1_readLine_14_19, jX1_readLine_61_101, jX1_readLine_72_101, jX1_readLine_87_92, jX1_readLine_108_114, jX1_readLine_0_52, eX_eq]
        exact e
/-- a line up to its parts -/
def rl0 (s : SG) (so : Int32) : SG := flS 5 (advS (couS s so (choI s (worZ so)))) 55 (-1)
def rliP (s : SG) (so : Int32) : Int32 × SG := if choI s (worZ so) = -1 then refP s else rlL so (choI s (worZ so)) (fomZ so) (sl (fomZ so) - staN (fomZ so) (choI s (worZ so))) (staN (fomZ so) (choI s (worZ so))) (rl0 s so) 0
theorem c_readLine {s : SG} {so : Int32} (h : SH K) (rs : RS s) : xN sc (d + 8) 22 [.inr (.inr (.inl (some 43))), .inl so] (wl K s) = some (some (.inl (rliP s so).1), wl K (rliP s so).2) := by
  have hz : fomZ so < 18 := fomZ_lt
  have h3 := sl_le (fomZ so) hz
  have rs1 : RS (couS s so (choI s (worZ so))) := couS_RS rs
  have rs2 : RS (rl0 s so) := RS_fl (by decide) (RS_adv rs1)
  have hl := staN_le (z := fomZ so) (x := choI s (worZ so))
  have L := l_readLine (sc := sc) (d := d) (so := so) (line := choI s (worZ so)) h hz (sl (fomZ so) - staN (fomZ so) (choI s (worZ so))) (staN (fomZ so) (choI s (worZ so))) xF (rl0 s so) 0 rs2 (by omega) (by have := xF_ge; omega)
  rw [mX1_readLine]
  simp only [uX1_readLine_0, qX1_readLine_0, jX1_readLine_14_19, jX1_readLine_61_101, jX1_readLine_72_101, jX1_readLine_87_92, jX1_readLine_108_114, jX1_readLine_0_52, c_wordsOf, xck_eq, c43_v h, cond_true, c_chosen h worZ_lt, xci_eq]
  unfold rliP
  by_cases c1 : choI s (worZ so) = -1
  · rw [if_pos c1, if_pos c1]
    simp only [uX1_readLine_14, qX1_readLine_14, jX1_readLine_14_19, jX1_readLine_61_101, jX1_readLine_72_101, jX1_readLine_87_92, jX1_readLine_108_114, jX1_readLine_0_52, c43_v h, cond_true, c_refuse h, xci_eq, refP_rt]
  · rw [if_neg c1, if_neg c1]
    simp only [uX1_readLine_19, qX1_readLine_19, jX1_readLine_14_19, jX1_readLine_61_101, jX1_readLine_72_101, jX1_readLine_87_92, jX1_readLine_108_114, jX1_readLine_0_52, c43_v h, cond_true, c_countLine h, xcv_eq, c_advanceR h rs1, c43_g5 h, bd_eq, fc55 h, c_formsOf, xck_eq, c_startOf hz, xci_eq]
    exact L
theorem rliP_RS {s : SG} {so : Int32} (rs : RS s) : RS (rliP s so).2 := by
  unfold rliP
  split
  · exact refP_RS rs
  · exact rlL_RS _ _ _ _ (RS_fl (by decide) (RS_adv (couS_RS rs)))
theorem rliP_IR {s : SG} {so : Int32} (hi : IR s) : IR (rliP s so).2 := by
  unfold rliP
  split
  · exact refP_IR hi
  · exact rlL_IR _ _ _ _ (IR_fl (by decide) (by decide) (advS_IR (couS_IR hi)))
theorem rliP_lo {s : SG} {so : Int32} {c : Nat} (ha : c < 42 ∨ 64 ≤ c) : (rliP s so).2 c = s c := by
  unfold rliP rl0
  split
  · exact refP_lo ha
  · rw [rlL_lo ha, fl_lo2 ha (by decide) (by decide), advS_lo ha, couS_lo ha]
def son0 (s : SG) (m : Nat) : SG := up (up (up (up (up (up (clwS (clrS s)) 43 2 0) 43 3 (-1)) 43 6 (nI m)) 43 9 0) 43 10 0) 43 11 0
def sonS (s : SG) (m : Nat) : SG := advS (son0 s m)
theorem son0_RA {s : SG} (hm : m ≤ 600) : RA (son0 s m) := by
  have e6 : son0 s m 43 6 = nI m := by unfold son0; simp (decide := true) only [up_a, up_b]
  have e9 : son0 s m 43 9 = nI 0 := by unfold son0; simp (decide := true) only [up_a, up_b]
  have l6 : ln (son0 s m) = m := by unfold ln; rw [e6, nI_clamp (by omega)]
  have l9 : en (son0 s m) = 0 := by unfold en; rw [e9, nI_clamp (by omega)]
  refine ⟨?_, ?_, ?_, ?_⟩
  · rw [l6]; exact e6
  · rw [l6]; exact hm
  · rw [l9]; exact e9
  · rw [l9]; omega
theorem c_startOn {s : SG} (h : SH K) (hm : m ≤ 600) : xN sc (d + 3) 17 [.inr (.inr (.inl (some 43))), .inl (nI m)] (wl K s) = some (none, wl K (sonS s m)) := by
  rw [mX1_startOn]
  have A := c_advance (sc := sc) (d := d) (s := son0 s m) h (son0_RA hm)
  simp only [uX1_startOn_0, qX1_startOn_0, c43_g0 h, c43_g1 h, bd_eq, c44_v h, c52_v h, cond_true, c_clearR h, c_clearW h, xcv_eq, c43_p2 h, c43_p3 h, c43_p6 h, c43_p9 h, c43_p10 h, c43_p11 h, c43_v h]
  unfold son0 at A
  rw [A]
  rfl
theorem sonS_RS {s : SG} (hm : m ≤ 600) : RS (sonS s m) := advS_RS (son0_RA hm)
theorem sonS_IR {s : SG} : IR (sonS s m) := by
  refine advS_IR ?_
  have e1 : son0 s m 44 0 = nI 0 := by
    unfold son0 clwS clrS
    simp (decide := true) only [up_a, up_b, up_c, fl_c]
  have e2 : son0 s m 52 0 = nI 0 := by
    unfold son0 clwS clrS
    simp (decide := true) only [up_a, up_b, up_c, fl_c]
  refine ⟨?_, ?_⟩
  · unfold SZ sz; rw [e1]; exact ⟨by decide, by decide⟩
  · unfold RZ rz; rw [e2]; exact ⟨by decide, by decide⟩
theorem sonS_lo {s : SG} {c : Nat} (ha : c < 42 ∨ 64 ≤ c) : sonS s m c = s c := by
  unfold sonS son0
  rw [advS_lo ha]
  simp (decide := true) only [up_lo2 ha, clwS_lo ha, clrS_lo ha]
def redT (s : SG) (so : Int32) : SG := if so = 0 then (if s 43 11 >>> (s 44 0 &&& 31) = 0 then s else notS s 4 (s 43 6)) else s
def redL (so : Int32) : Nat → SG → Int32 → SG
  | 0, s, _ => redT s so
  | n + 1, s, y => if y = 0 then redT s so else if s 43 7 = 0 then redT s so else redL so n (rliP s so).2 (rliP s so).1
theorem s_redT {s : SG} {so : Int32} {u : Nat} {x2 x4 x5 : Int32} {b : Nat → XL → List EV → EW → XR} (h : SH K) : fW sc 1 0 false 6 (xN sc (d + 8)) b kX1_read_52 52 [some (.inr (.inr (.inl (some 43)))), some (.inr (.inr (.inl (some u)))), some (.inl x2), some (.inl so), some (.inl x4), some (.inl x5)] [] (wl K s) = some (none, wl K (redT s so)) := by
  simp (decide := true) only [uX1_read_52, uX1_read_56, uX1_read_71, uX1_read_80, qX1_read_52, qX1_read_56, qX1_read_71, qX1_read_80, jX1_read_27_52, jX1_read_32_52, jX1_read_39_52, jX1_read_56_80, jX1_read_71_80, jX1_read_0_19, c43_g11 h, c43_g0 h, c44_g0 h, c43_g6 h, bd_eq, c43_v h, cond_true, c_note h, xcv_eq]
  unfold redT
  repeat' split
  all_goals first | rfl | contradiction
theorem l_read {so : Int32} {u : Nat} {x2 : Int32} (h : SH K) : ∀ (n j k : Nat) (s : SG) (y : Int32), RS s → j + n = 600 → n ≤ k → fW sc 1 0 false 6 (xN sc (d + 8)) (ex sc 1 0 false 6 (xN sc (d + 8)) kX1_read_0 k) kX1_read_19 19 [some (.inr (.inr (.inl (some 43)))), some (.inr (.inr (.inl (some u)))), some (.inl x2), some (.inl so), some (.inl y), some (.inl (nI j))] [] (wl K s) = some (none, wl K (redL so n s y)) := by
  intro n
  induction n with
  | zero =>
    intro j k s y rs hj hk
    simp only [uX1_read_19, qX1_read_19, jX1_read_27_52, jX1_read_32_52, jX1_read_39_52, jX1_read_56_80, jX1_read_71_80, jX1_read_0_19]
    rw [if_pos (show (600 : Int32) ≤ nI j from k_ge (m := 600) hj)]
    simp only [jX1_read_27_52, jX1_read_32_52, jX1_read_39_52, jX1_read_56_80, jX1_read_71_80, jX1_read_0_19, s_redT h]
    rw [redL]
  | succ n ih =>
    intro j k s y rs hj hk
    obtain ⟨k, rfl⟩ : ∃ k', k = k' + 1 := ⟨k - 1, by omega⟩
    have e := ih (j + 1) k (rliP s so).2 (rliP s so).1 (rliP_RS rs) (by omega) (by omega)
    rw [nI_succ] at e
    simp only [uX1_read_19, qX1_read_19, jX1_read_27_52, jX1_read_32_52, jX1_read_39_52, jX1_read_56_80, jX1_read_71_80, jX1_read_0_19]
    rw [if_neg (show ¬ (600 : Int32) ≤ nI j from k_lt (m := 600) hj (by decide))]
    simp only [uX1_read_27, uX1_read_32, uX1_read_39, qX1_read_27, qX1_read_32, qX1_read_39, jX1_read_27_52, jX1_read_32_52, jX1_read_39_52, jX1_read_56_80, jX1_read_71_80, jX1_read_0_19, c43_g7 h, bd_eq, c43_v h, cond_true, c_readLine h rs, xci_eq, eX_eq, s_redT h]
    rw [redL]
    repeat' split
    all_goals first | exact e | rfl | contradiction
def redS (s : SG) (u m : Nat) (so : Int32) : SG := redL so 600 (sonS (cpS 600 s u 54) m) 1
theorem c_read {s : SG} {so : Int32} {u : Nat} (h : SH K) (hu : K[u]? = some (kI 0 600)) (hm : m ≤ 600) : xN sc (d + 9) 16 [.inr (.inr (.inl (some 43))), .inr (.inr (.inl (some u))), .inl (nI m), .inl so] (wl K s) = some (none, wl K (redS s u m so)) := by
  rw [mX1_read]
  have L := l_read (sc := sc) (d := d) (so := so) (u := u) (x2 := nI m) h 600 0 xF (sonS (cpS 600 s u 54) m) 1 (sonS_RS hm) (by omega) (by have := xF_ge; omega)
  simp only [uX1_read_0, qX1_read_0, jX1_read_27_52, jX1_read_32_52, jX1_read_39_52, jX1_read_56_80, jX1_read_71_80, jX1_read_0_19, c43_g4 h, bd_eq, c_copy600 hu (K54 h), xcv_eq, c43_v h, cond_true, c_startOn h hm]
  exact L
theorem redT_lo {s : SG} {so : Int32} {c : Nat} (ha : c < 42 ∨ 64 ≤ c) : redT s so c = s c := by
  unfold redT
  repeat' split
  all_goals first | rfl | exact notS_lo ha
theorem redL_lo {so : Int32} {c : Nat} (ha : c < 42 ∨ 64 ≤ c) : ∀ (n : Nat) (s : SG) (y : Int32), redL so n s y c = s c := by
  intro n
  induction n with
  | zero => intro s y; rw [redL]; exact redT_lo ha
  | succ n ih =>
    intro s y
    rw [redL]
    repeat' split
    · exact redT_lo ha
    · exact redT_lo ha
    · rw [ih, rliP_lo ha]
theorem redL_IR {so : Int32} : ∀ (n : Nat) (s : SG) (y : Int32), IR s → IR (redL so n s y) := by
  have hT : ∀ s : SG, IR s → IR (redT s so) := by
    intro s hi
    unfold redT
    repeat' split
    all_goals first | exact hi | exact notS_IR hi
  intro n
  induction n with
  | zero => intro s y hi; rw [redL]; exact hT s hi
  | succ n ih =>
    intro s y hi
    rw [redL]
    repeat' split
    · exact hT s hi
    · exact hT s hi
    · exact ih _ _ (rliP_IR hi)
theorem redS_lo {s : SG} {so : Int32} {u c : Nat} (ha : c < 42 ∨ 64 ≤ c) : redS s u m so c = s c := by
  unfold redS
  rw [redL_lo ha, sonS_lo ha, cp_lo2 ha (by decide) (by decide)]
theorem redS_IR {s : SG} {so : Int32} {u : Nat} : IR (redS s u m so) := redL_IR 600 _ 1 sonS_IR
end XCN
