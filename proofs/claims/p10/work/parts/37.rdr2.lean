section XCM
variable {sc : Nat × (Nat → Int32)} {d : Nat} {K : List KD} {r q t a B m : Nat} {w : EW}
/-! the reader: what holds of it between two steps -/
def IR (s : SG) : Prop := SZ s 44 ∧ RZ s 52
theorem RA_of {s t : SG} (h6 : t 43 6 = s 43 6) (h9 : t 43 9 = s 43 9) (h : RA s) : RA t := by
  unfold RA ln en at *
  rw [h6, h9]; exact h
theorem RS_of {s t : SG} (h6 : t 43 6 = s 43 6) (h8 : t 43 8 = s 43 8) (h9 : t 43 9 = s 43 9) (h : RS s) : RS t := by
  refine ⟨RA_of h6 h9 h.1, ?_⟩
  have h2 := h.2
  unfold st en at *
  rw [h8, h9]; exact h2
theorem IR_of {s t : SG} (h4 : t 44 0 = s 44 0) (h5 : t 52 0 = s 52 0) (h : IR s) : IR t := by
  unfold IR SZ sz RZ rz at *
  rw [h4, h5]; exact h
theorem RS_43 {s : SG} {j : Nat} {x : Int32} (h : (j == 6 || j == 8 || j == 9) = false) (hi : RS s) : RS (up s 43 j x) := by
  simp only [Bool.or_eq_false_iff] at h
  refine RS_of ?_ ?_ ?_ hi
  · exact up_b (by have := h.1.1; rw [BEq.comm]; exact this)
  · exact up_b (by have := h.1.2; rw [BEq.comm]; exact this)
  · exact up_b (by have := h.2; rw [BEq.comm]; exact this)
theorem RS_up {s : SG} {k j : Nat} {x : Int32} (h : (43 == k) = false) (hi : RS s) : RS (up s k j x) := RS_of (by rw [up_c h]) (by rw [up_c h]) (by rw [up_c h]) hi
theorem RS_pt {n : Nat} {s : SG} {k : Nat} {i x : Int32} (h : (43 == k) = false) (hi : RS s) : RS (pt n s k i x) := RS_of (by rw [pt_c h]) (by rw [pt_c h]) (by rw [pt_c h]) hi
theorem RS_fl {n : Nat} {s : SG} {k : Nat} {x : Int32} (h : (43 == k) = false) (hi : RS s) : RS (flS n s k x) := RS_of (by rw [fl_c h]) (by rw [fl_c h]) (by rw [fl_c h]) hi
theorem RS_cp {n : Nat} {s : SG} {u k : Nat} (h : (43 == k) = false) (hi : RS s) : RS (cpS n s u k) := RS_of (by rw [cp_c h]) (by rw [cp_c h]) (by rw [cp_c h]) hi
theorem IR_up {s : SG} {k j : Nat} {x : Int32} (h1 : (44 == k) = false) (h2 : (52 == k) = false) (hi : IR s) : IR (up s k j x) := IR_of (by rw [up_c h1]) (by rw [up_c h2]) hi
theorem IR_44 {s : SG} {j : Nat} {x : Int32} (h1 : (0 == j) = false) (hi : IR s) : IR (up s 44 j x) := IR_of (up_b h1) (by rw [up_c (by decide)]) hi
theorem IR_52 {s : SG} {j : Nat} {x : Int32} (h1 : (0 == j) = false) (hi : IR s) : IR (up s 52 j x) := IR_of (by rw [up_c (by decide)]) (up_b h1) hi
theorem IR_pt {n : Nat} {s : SG} {k : Nat} {i x : Int32} (h1 : (44 == k) = false) (h2 : (52 == k) = false) (hi : IR s) : IR (pt n s k i x) := IR_of (by rw [pt_c h1]) (by rw [pt_c h2]) hi
theorem IR_fl {n : Nat} {s : SG} {k : Nat} {x : Int32} (h1 : (44 == k) = false) (h2 : (52 == k) = false) (hi : IR s) : IR (flS n s k x) := IR_of (by rw [fl_c h1]) (by rw [fl_c h2]) hi
theorem IR_cp {n : Nat} {s : SG} {u k : Nat} (h1 : (44 == k) = false) (h2 : (52 == k) = false) (hi : IR s) : IR (cpS n s u k) := IR_of (by rw [cp_c h1]) (by rw [cp_c h2]) hi
theorem advS_IR {s : SG} (hi : IR s) : IR (advS s) := IR_of (by rw [advS_n (by decide)]) (by rw [advS_n (by decide)]) hi
theorem RS_adv {s : SG} (hi : RS s) : RS (advS s) := advS_RS hi.1
theorem c_advanceR {s : SG} (h : SH K) (rs : RS s) : xN sc (d + 2) 36 [.inr (.inr (.inl (some 43)))] (wl K s) = some (none, wl K (advS s)) := c_advance h rs.1
theorem advS_SZ {s : SG} {c : Nat} (hc : c + 8 ≤ 42) : SZ (advS s) c ↔ SZ s c := by unfold SZ sz; rw [advS_lo (Or.inl (by omega))]
theorem advS_sz {s : SG} {c : Nat} (hc : c + 8 ≤ 42) : sz (advS s) c = sz s c := by unfold sz; rw [advS_lo (Or.inl (by omega))]
theorem advS_RZ {s : SG} {c : Nat} (hc : c + 2 ≤ 42) : RZ (advS s) c ↔ RZ s c := by unfold RZ rz; rw [advS_lo (Or.inl (by omega))]
theorem advS_rz {s : SG} {c : Nat} (hc : c + 2 ≤ 42) : rz (advS s) c = rz s c := by unfold rz; rw [advS_lo (Or.inl (by omega))]
theorem admS_IR {s : SG} (hi : IR s) : IR (admS s) := by
  unfold admS
  split
  · exact hi
  · rename_i hc
    have h1 := hi.1
    have h2 := hi.2
    have e := h1.1
    have e2 := h1.2
    have hlt : sz s 44 < 6 := by
      rcases Nat.lt_or_ge (sz s 44) 6 with g | g
      · exact g
      · exfalso; apply hc; rw [e]
        have : sz s 44 = 6 := by omega
        rw [this]; decide
    refine ⟨?_, ?_⟩
    · have e3 : s 44 0 + 1 = nI (sz s 44 + 1) := by rw [nI_succ, ← e]
      unfold SZ sz
      simp (decide := true) only [up_a]
      rw [e3, nI_clamp (by omega)]
      exact ⟨rfl, by omega⟩
    · unfold RZ rz at *
      simp (decide := true) only [up_c, pt_c]
      exact h2
theorem adwSL_k : ∀ (n j : Nat) (s : SG) (x z : Int32), adwSL n j s x z 44 0 = s 44 0 ∧ adwSL n j s x z 52 0 = s 52 0 + 1 ∧ adwSL n j s x z 43 = s 43 := by
  intro n
  induction n with
  | zero =>
    intro j s x z
    rw [adwSL]
    simp (decide := true) only [up_a, up_c, and_self]
  | succ n ih =>
    intro j s x z
    rw [adwSL]
    have h := ih (j + 1)
    unfold stwS at *
    refine ⟨?_, ?_, ?_⟩
    · rw [(h _ _ _).1]; simp (decide := true) only [pt_c]
    · rw [(h _ _ _).2.1]; simp (decide := true) only [pt_c]
    · rw [(h _ _ _).2.2]; simp (decide := true) only [pt_c]
theorem adwS_IR {s : SG} {x y : Int32} (hi : IR s) : IR (adwS s x y) := by
  unfold adwS
  split
  · exact hi
  · rename_i hc
    have h2 := hi.2
    have e := h2.1
    have e2 := h2.2
    have hlt : rz s 52 < 40 := by
      rcases Nat.lt_or_ge (rz s 52) 40 with g | g
      · exact g
      · exfalso; apply hc; rw [e]
        have : rz s 52 = 40 := by omega
        rw [this]; decide
    have k := adwSL_k 4 1 (stwS s (s 52 0) 0 x) x y
    have k1 : stwS s (s 52 0) 0 x 52 0 = s 52 0 := by unfold stwS; rw [pt_c (by decide)]
    have k2 : stwS s (s 52 0) 0 x 44 0 = s 44 0 := by unfold stwS; rw [pt_c (by decide)]
    rw [k1, k2] at k
    refine ⟨?_, ?_⟩
    · have h1 := hi.1
      unfold SZ sz at *
      rw [k.1]; exact h1
    · have e3 : s 52 0 + 1 = nI (rz s 52 + 1) := by rw [nI_succ, ← e]
      unfold RZ rz
      rw [k.2.1, e3, nI_clamp (by omega)]
      exact ⟨rfl, by omega⟩
theorem adwS_RS {s : SG} {x y : Int32} (hi : RS s) : RS (adwS s x y) := by
  unfold adwS
  split
  · exact hi
  · have k := (adwSL_k 4 1 (stwS s (s 52 0) 0 x) x y).2.2
    have k1 : stwS s (s 52 0) 0 x 43 = s 43 := by unfold stwS; rw [pt_c (by decide)]
    rw [k1] at k
    exact RS_of (by rw [k]) (by rw [k]) (by rw [k]) hi
theorem clrS_RS {s : SG}  : RS s → RS ((clrS s)) := by
  intro hi
  unfold clrS
  first | done | first | exact hi | (simp (decide := true) (maxDischargeDepth := 40) only [RS_43, RS_up, RS_pt, RS_fl, RS_cp, RS_adv, adwS_RS, hi]; done) | ((repeat' split) <;> first | exact hi | (simp (decide := true) (maxDischargeDepth := 40) only [RS_43, RS_up, RS_pt, RS_fl, RS_cp, RS_adv, adwS_RS, hi]; done))
theorem clwS_RS {s : SG}  : RS s → RS ((clwS s)) := by
  intro hi
  unfold clwS
  first | done | first | exact hi | (simp (decide := true) (maxDischargeDepth := 40) only [RS_43, RS_up, RS_pt, RS_fl, RS_cp, RS_adv, adwS_RS, clrS_RS, hi]; done) | ((repeat' split) <;> first | exact hi | (simp (decide := true) (maxDischargeDepth := 40) only [RS_43, RS_up, RS_pt, RS_fl, RS_cp, RS_adv, adwS_RS, clrS_RS, hi]; done))
theorem admS_RS {s : SG}  : RS s → RS ((admS s)) := by
  intro hi
  unfold admS
  first | done | first | exact hi | (simp (decide := true) (maxDischargeDepth := 40) only [RS_43, RS_up, RS_pt, RS_fl, RS_cp, RS_adv, adwS_RS, clrS_RS, clwS_RS, hi]; done) | ((repeat' split) <;> first | exact hi | (simp (decide := true) (maxDischargeDepth := 40) only [RS_43, RS_up, RS_pt, RS_fl, RS_cp, RS_adv, adwS_RS, clrS_RS, clwS_RS, hi]; done))
theorem setNW_RS {s : SG} {y2 : Int32} {p : Int32}  : RS s → RS ((setNW s y2 p)) := by
  intro hi
  unfold setNW
  first | done | first | exact hi | (simp (decide := true) (maxDischargeDepth := 40) only [RS_43, RS_up, RS_pt, RS_fl, RS_cp, RS_adv, adwS_RS, clrS_RS, clwS_RS, admS_RS, hi]; done) | ((repeat' split) <;> first | exact hi | (simp (decide := true) (maxDischargeDepth := 40) only [RS_43, RS_up, RS_pt, RS_fl, RS_cp, RS_adv, adwS_RS, clrS_RS, clwS_RS, admS_RS, hi]; done))
theorem setNW_IR {s : SG} {y2 : Int32} {p : Int32}  : IR s → IR ((setNW s y2 p)) := by
  intro hi
  unfold setNW
  first | done | first | exact hi | (simp (decide := true) (maxDischargeDepth := 40) only [IR_up, IR_44, IR_52, IR_pt, IR_fl, IR_cp, advS_IR, admS_IR, adwS_IR, hi]; done) | ((repeat' split) <;> first | exact hi | (simp (decide := true) (maxDischargeDepth := 40) only [IR_up, IR_44, IR_52, IR_pt, IR_fl, IR_cp, advS_IR, admS_IR, adwS_IR, hi]; done))
theorem setN_RS {s : SG} {line : Int32} {x : Int32}  : RS s → RS ((setN s line x)) := by
  intro hi
  unfold setN
  first | done | first | exact hi | (simp (decide := true) (maxDischargeDepth := 40) only [RS_43, RS_up, RS_pt, RS_fl, RS_cp, RS_adv, adwS_RS, clrS_RS, clwS_RS, admS_RS, setNW_RS, hi]; done) | ((repeat' split) <;> first | exact hi | (simp (decide := true) (maxDischargeDepth := 40) only [RS_43, RS_up, RS_pt, RS_fl, RS_cp, RS_adv, adwS_RS, clrS_RS, clwS_RS, admS_RS, setNW_RS, hi]; done))
theorem setN_IR {s : SG} {line : Int32} {x : Int32}  : IR s → IR ((setN s line x)) := by
  intro hi
  unfold setN
  first | done | first | exact hi | (simp (decide := true) (maxDischargeDepth := 40) only [IR_up, IR_44, IR_52, IR_pt, IR_fl, IR_cp, advS_IR, admS_IR, adwS_IR, setNW_IR, hi]; done) | ((repeat' split) <;> first | exact hi | (simp (decide := true) (maxDischargeDepth := 40) only [IR_up, IR_44, IR_52, IR_pt, IR_fl, IR_cp, advS_IR, admS_IR, adwS_IR, setNW_IR, hi]; done))
theorem takSL_RS  : ∀ (n j : Nat) (s : SG) (y1 : Int32) (y3 : Int32) (y4 : Int32), RS s → RS ((takSL n j s y1 y3 y4)) := by
  intro n
  induction n with
  | zero =>
    intro j s y1 y3 y4 hi
    rw [takSL]
    first | done | first | exact hi | (simp (decide := true) (maxDischargeDepth := 40) only [RS_43, RS_up, RS_pt, RS_fl, RS_cp, RS_adv, adwS_RS, clrS_RS, clwS_RS, admS_RS, setNW_RS, setN_RS, hi]; done) | ((repeat' split) <;> first | exact hi | (simp (decide := true) (maxDischargeDepth := 40) only [RS_43, RS_up, RS_pt, RS_fl, RS_cp, RS_adv, adwS_RS, clrS_RS, clwS_RS, admS_RS, setNW_RS, setN_RS, hi]; done))
  | succ n ih =>
    intro j s y1 y3 y4 hi
    rw [takSL]
    first | done | first | exact hi | (exact ih _ _ _ _ _ hi) | (simp (decide := true) (maxDischargeDepth := 40) only [ih, RS_43, RS_up, RS_pt, RS_fl, RS_cp, RS_adv, adwS_RS, clrS_RS, clwS_RS, admS_RS, setNW_RS, setN_RS, hi]; done) | ((repeat' split) <;> first | exact hi | (exact ih _ _ _ _ _ hi) | (simp (decide := true) (maxDischargeDepth := 40) only [ih, RS_43, RS_up, RS_pt, RS_fl, RS_cp, RS_adv, adwS_RS, clrS_RS, clwS_RS, admS_RS, setNW_RS, setN_RS, hi]; done))
theorem takSL_IR  : ∀ (n j : Nat) (s : SG) (y1 : Int32) (y3 : Int32) (y4 : Int32), IR s → IR ((takSL n j s y1 y3 y4)) := by
  intro n
  induction n with
  | zero =>
    intro j s y1 y3 y4 hi
    rw [takSL]
    first | done | first | exact hi | (simp (decide := true) (maxDischargeDepth := 40) only [IR_up, IR_44, IR_52, IR_pt, IR_fl, IR_cp, advS_IR, admS_IR, adwS_IR, setNW_IR, setN_IR, hi]; done) | ((repeat' split) <;> first | exact hi | (simp (decide := true) (maxDischargeDepth := 40) only [IR_up, IR_44, IR_52, IR_pt, IR_fl, IR_cp, advS_IR, admS_IR, adwS_IR, setNW_IR, setN_IR, hi]; done))
  | succ n ih =>
    intro j s y1 y3 y4 hi
    rw [takSL]
    first | done | first | exact hi | (exact ih _ _ _ _ _ hi) | (simp (decide := true) (maxDischargeDepth := 40) only [ih, IR_up, IR_44, IR_52, IR_pt, IR_fl, IR_cp, advS_IR, admS_IR, adwS_IR, setNW_IR, setN_IR, hi]; done) | ((repeat' split) <;> first | exact hi | (exact ih _ _ _ _ _ hi) | (simp (decide := true) (maxDischargeDepth := 40) only [ih, IR_up, IR_44, IR_52, IR_pt, IR_fl, IR_cp, advS_IR, admS_IR, adwS_IR, setNW_IR, setN_IR, hi]; done))
theorem takSW_RS {s : SG} {y1 : Int32} {y3 : Int32} {y4 : Int32} {p : Int32}  : RS s → RS ((takSW s y1 y3 y4 p)) := by
  intro hi
  unfold takSW
  first | done | first | exact hi | (simp (decide := true) (maxDischargeDepth := 40) only [RS_43, RS_up, RS_pt, RS_fl, RS_cp, RS_adv, adwS_RS, clrS_RS, clwS_RS, admS_RS, setNW_RS, setN_RS, takSL_RS, hi]; done) | ((repeat' split) <;> first | exact hi | (simp (decide := true) (maxDischargeDepth := 40) only [RS_43, RS_up, RS_pt, RS_fl, RS_cp, RS_adv, adwS_RS, clrS_RS, clwS_RS, admS_RS, setNW_RS, setN_RS, takSL_RS, hi]; done))
theorem takSW_IR {s : SG} {y1 : Int32} {y3 : Int32} {y4 : Int32} {p : Int32}  : IR s → IR ((takSW s y1 y3 y4 p)) := by
  intro hi
  unfold takSW
  first | done | first | exact hi | (simp (decide := true) (maxDischargeDepth := 40) only [IR_up, IR_44, IR_52, IR_pt, IR_fl, IR_cp, advS_IR, admS_IR, adwS_IR, setNW_IR, setN_IR, takSL_IR, hi]; done) | ((repeat' split) <;> first | exact hi | (simp (decide := true) (maxDischargeDepth := 40) only [IR_up, IR_44, IR_52, IR_pt, IR_fl, IR_cp, advS_IR, admS_IR, adwS_IR, setNW_IR, setN_IR, takSL_IR, hi]; done))
theorem takS_RS {s : SG} {line : Int32}  : RS s → RS ((takS s line)) := by
  intro hi
  unfold takS
  first | done | first | exact hi | (simp (decide := true) (maxDischargeDepth := 40) only [RS_43, RS_up, RS_pt, RS_fl, RS_cp, RS_adv, adwS_RS, clrS_RS, clwS_RS, admS_RS, setNW_RS, setN_RS, takSL_RS, takSW_RS, hi]; done) | ((repeat' split) <;> first | exact hi | (simp (decide := true) (maxDischargeDepth := 40) only [RS_43, RS_up, RS_pt, RS_fl, RS_cp, RS_adv, adwS_RS, clrS_RS, clwS_RS, admS_RS, setNW_RS, setN_RS, takSL_RS, takSW_RS, hi]; done))
theorem takS_IR {s : SG} {line : Int32}  : IR s → IR ((takS s line)) := by
  intro hi
  unfold takS
  first | done | first | exact hi | (simp (decide := true) (maxDischargeDepth := 40) only [IR_up, IR_44, IR_52, IR_pt, IR_fl, IR_cp, advS_IR, admS_IR, adwS_IR, setNW_IR, setN_IR, takSL_IR, takSW_IR, hi]; done) | ((repeat' split) <;> first | exact hi | (simp (decide := true) (maxDischargeDepth := 40) only [IR_up, IR_44, IR_52, IR_pt, IR_fl, IR_cp, advS_IR, admS_IR, adwS_IR, setNW_IR, setN_IR, takSL_IR, takSW_IR, hi]; done))
theorem stwS_RS {s : SG} {x : Int32} {y : Int32} {z : Int32}  : RS s → RS ((stwS s x y z)) := by
  intro hi
  unfold stwS
  first | done | first | exact hi | (simp (decide := true) (maxDischargeDepth := 40) only [RS_43, RS_up, RS_pt, RS_fl, RS_cp, RS_adv, adwS_RS, clrS_RS, clwS_RS, admS_RS, setNW_RS, setN_RS, takSL_RS, takSW_RS, takS_RS, hi]; done) | ((repeat' split) <;> first | exact hi | (simp (decide := true) (maxDischargeDepth := 40) only [RS_43, RS_up, RS_pt, RS_fl, RS_cp, RS_adv, adwS_RS, clrS_RS, clwS_RS, admS_RS, setNW_RS, setN_RS, takSL_RS, takSW_RS, takS_RS, hi]; done))
theorem stwS_IR {s : SG} {x : Int32} {y : Int32} {z : Int32}  : IR s → IR ((stwS s x y z)) := by
  intro hi
  unfold stwS
  first | done | first | exact hi | (simp (decide := true) (maxDischargeDepth := 40) only [IR_up, IR_44, IR_52, IR_pt, IR_fl, IR_cp, advS_IR, admS_IR, adwS_IR, setNW_IR, setN_IR, takSL_IR, takSW_IR, takS_IR, hi]; done) | ((repeat' split) <;> first | exact hi | (simp (decide := true) (maxDischargeDepth := 40) only [IR_up, IR_44, IR_52, IR_pt, IR_fl, IR_cp, advS_IR, admS_IR, adwS_IR, setNW_IR, setN_IR, takSL_IR, takSW_IR, takS_IR, hi]; done))
theorem notS_RS {s : SG} {x : Int32} {y : Int32}  : RS s → RS ((notS s x y)) := by
  intro hi
  unfold notS
  first | done | first | exact hi | (simp (decide := true) (maxDischargeDepth := 40) only [RS_43, RS_up, RS_pt, RS_fl, RS_cp, RS_adv, adwS_RS, clrS_RS, clwS_RS, admS_RS, setNW_RS, setN_RS, takSL_RS, takSW_RS, takS_RS, stwS_RS, hi]; done) | ((repeat' split) <;> first | exact hi | (simp (decide := true) (maxDischargeDepth := 40) only [RS_43, RS_up, RS_pt, RS_fl, RS_cp, RS_adv, adwS_RS, clrS_RS, clwS_RS, admS_RS, setNW_RS, setN_RS, takSL_RS, takSW_RS, takS_RS, stwS_RS, hi]; done))
theorem notS_IR {s : SG} {x : Int32} {y : Int32}  : IR s → IR ((notS s x y)) := by
  intro hi
  unfold notS
  first | done | first | exact hi | (simp (decide := true) (maxDischargeDepth := 40) only [IR_up, IR_44, IR_52, IR_pt, IR_fl, IR_cp, advS_IR, admS_IR, adwS_IR, setNW_IR, setN_IR, takSL_IR, takSW_IR, takS_IR, stwS_IR, hi]; done) | ((repeat' split) <;> first | exact hi | (simp (decide := true) (maxDischargeDepth := 40) only [IR_up, IR_44, IR_52, IR_pt, IR_fl, IR_cp, advS_IR, admS_IR, adwS_IR, setNW_IR, setN_IR, takSL_IR, takSW_IR, takS_IR, stwS_IR, hi]; done))
theorem refP_RS {s : SG}  : RS s → RS ((refP s).2) := by
  intro hi
  unfold refP
  first | done | first | exact hi | (simp (decide := true) (maxDischargeDepth := 40) only [RS_43, RS_up, RS_pt, RS_fl, RS_cp, RS_adv, adwS_RS, clrS_RS, clwS_RS, admS_RS, setNW_RS, setN_RS, takSL_RS, takSW_RS, takS_RS, stwS_RS, notS_RS, hi]; done) | ((repeat' split) <;> first | exact hi | (simp (decide := true) (maxDischargeDepth := 40) only [RS_43, RS_up, RS_pt, RS_fl, RS_cp, RS_adv, adwS_RS, clrS_RS, clwS_RS, admS_RS, setNW_RS, setN_RS, takSL_RS, takSW_RS, takS_RS, stwS_RS, notS_RS, hi]; done))
theorem refP_IR {s : SG}  : IR s → IR ((refP s).2) := by
  intro hi
  unfold refP
  first | done | first | exact hi | (simp (decide := true) (maxDischargeDepth := 40) only [IR_up, IR_44, IR_52, IR_pt, IR_fl, IR_cp, advS_IR, admS_IR, adwS_IR, setNW_IR, setN_IR, takSL_IR, takSW_IR, takS_IR, stwS_IR, notS_IR, hi]; done) | ((repeat' split) <;> first | exact hi | (simp (decide := true) (maxDischargeDepth := 40) only [IR_up, IR_44, IR_52, IR_pt, IR_fl, IR_cp, advS_IR, admS_IR, adwS_IR, setNW_IR, setN_IR, takSL_IR, takSW_IR, takS_IR, stwS_IR, notS_IR, hi]; done))
theorem couS_RS {s : SG} {so : Int32} {line : Int32}  : RS s → RS ((couS s so line)) := by
  intro hi
  unfold couS
  first | done | first | exact hi | (simp (decide := true) (maxDischargeDepth := 40) only [RS_43, RS_up, RS_pt, RS_fl, RS_cp, RS_adv, adwS_RS, clrS_RS, clwS_RS, admS_RS, setNW_RS, setN_RS, takSL_RS, takSW_RS, takS_RS, stwS_RS, notS_RS, refP_RS, hi]; done) | ((repeat' split) <;> first | exact hi | (simp (decide := true) (maxDischargeDepth := 40) only [RS_43, RS_up, RS_pt, RS_fl, RS_cp, RS_adv, adwS_RS, clrS_RS, clwS_RS, admS_RS, setNW_RS, setN_RS, takSL_RS, takSW_RS, takS_RS, stwS_RS, notS_RS, refP_RS, hi]; done))
theorem couS_IR {s : SG} {so : Int32} {line : Int32}  : IR s → IR ((couS s so line)) := by
  intro hi
  unfold couS
  first | done | first | exact hi | (simp (decide := true) (maxDischargeDepth := 40) only [IR_up, IR_44, IR_52, IR_pt, IR_fl, IR_cp, advS_IR, admS_IR, adwS_IR, setNW_IR, setN_IR, takSL_IR, takSW_IR, takS_IR, stwS_IR, notS_IR, refP_IR, hi]; done) | ((repeat' split) <;> first | exact hi | (simp (decide := true) (maxDischargeDepth := 40) only [IR_up, IR_44, IR_52, IR_pt, IR_fl, IR_cp, advS_IR, admS_IR, adwS_IR, setNW_IR, setN_IR, takSL_IR, takSW_IR, takS_IR, stwS_IR, notS_IR, refP_IR, hi]; done))
theorem ttoS_RS {s : SG} {line : Int32}  : RS s → RS ((ttoS s line)) := by
  intro hi
  unfold ttoS
  first | done | first | exact hi | (simp (decide := true) (maxDischargeDepth := 40) only [RS_43, RS_up, RS_pt, RS_fl, RS_cp, RS_adv, adwS_RS, clrS_RS, clwS_RS, admS_RS, setNW_RS, setN_RS, takSL_RS, takSW_RS, takS_RS, stwS_RS, notS_RS, refP_RS, couS_RS, hi]; done) | ((repeat' split) <;> first | exact hi | (simp (decide := true) (maxDischargeDepth := 40) only [RS_43, RS_up, RS_pt, RS_fl, RS_cp, RS_adv, adwS_RS, clrS_RS, clwS_RS, admS_RS, setNW_RS, setN_RS, takSL_RS, takSW_RS, takS_RS, stwS_RS, notS_RS, refP_RS, couS_RS, hi]; done))
theorem ttoS_IR {s : SG} {line : Int32}  : IR s → IR ((ttoS s line)) := by
  intro hi
  unfold ttoS
  first | done | first | exact hi | (simp (decide := true) (maxDischargeDepth := 40) only [IR_up, IR_44, IR_52, IR_pt, IR_fl, IR_cp, advS_IR, admS_IR, adwS_IR, setNW_IR, setN_IR, takSL_IR, takSW_IR, takS_IR, stwS_IR, notS_IR, refP_IR, couS_IR, hi]; done) | ((repeat' split) <;> first | exact hi | (simp (decide := true) (maxDischargeDepth := 40) only [IR_up, IR_44, IR_52, IR_pt, IR_fl, IR_cp, advS_IR, admS_IR, adwS_IR, setNW_IR, setN_IR, takSL_IR, takSW_IR, takS_IR, stwS_IR, notS_IR, refP_IR, couS_IR, hi]; done))
theorem tkoS_RS {s : SG} {line : Int32}  : RS s → RS ((tkoS s line)) := by
  intro hi
  unfold tkoS
  first | done | first | exact hi | (simp (decide := true) (maxDischargeDepth := 40) only [RS_43, RS_up, RS_pt, RS_fl, RS_cp, RS_adv, adwS_RS, clrS_RS, clwS_RS, admS_RS, setNW_RS, setN_RS, takSL_RS, takSW_RS, takS_RS, stwS_RS, notS_RS, refP_RS, couS_RS, ttoS_RS, hi]; done) | ((repeat' split) <;> first | exact hi | (simp (decide := true) (maxDischargeDepth := 40) only [RS_43, RS_up, RS_pt, RS_fl, RS_cp, RS_adv, adwS_RS, clrS_RS, clwS_RS, admS_RS, setNW_RS, setN_RS, takSL_RS, takSW_RS, takS_RS, stwS_RS, notS_RS, refP_RS, couS_RS, ttoS_RS, hi]; done))
theorem tkoS_IR {s : SG} {line : Int32}  : IR s → IR ((tkoS s line)) := by
  intro hi
  unfold tkoS
  first | done | first | exact hi | (simp (decide := true) (maxDischargeDepth := 40) only [IR_up, IR_44, IR_52, IR_pt, IR_fl, IR_cp, advS_IR, admS_IR, adwS_IR, setNW_IR, setN_IR, takSL_IR, takSW_IR, takS_IR, stwS_IR, notS_IR, refP_IR, couS_IR, ttoS_IR, hi]; done) | ((repeat' split) <;> first | exact hi | (simp (decide := true) (maxDischargeDepth := 40) only [IR_up, IR_44, IR_52, IR_pt, IR_fl, IR_cp, advS_IR, admS_IR, adwS_IR, setNW_IR, setN_IR, takSL_IR, takSW_IR, takS_IR, stwS_IR, notS_IR, refP_IR, couS_IR, ttoS_IR, hi]; done))
theorem tkeSW_RS {s : SG} {y2 : Int32} {p : Int32}  : RS s → RS ((tkeSW s y2 p)) := by
  intro hi
  unfold tkeSW
  first | done | first | exact hi | (simp (decide := true) (maxDischargeDepth := 40) only [RS_43, RS_up, RS_pt, RS_fl, RS_cp, RS_adv, adwS_RS, clrS_RS, clwS_RS, admS_RS, setNW_RS, setN_RS, takSL_RS, takSW_RS, takS_RS, stwS_RS, notS_RS, refP_RS, couS_RS, ttoS_RS, tkoS_RS, hi]; done) | ((repeat' split) <;> first | exact hi | (simp (decide := true) (maxDischargeDepth := 40) only [RS_43, RS_up, RS_pt, RS_fl, RS_cp, RS_adv, adwS_RS, clrS_RS, clwS_RS, admS_RS, setNW_RS, setN_RS, takSL_RS, takSW_RS, takS_RS, stwS_RS, notS_RS, refP_RS, couS_RS, ttoS_RS, tkoS_RS, hi]; done))
theorem tkeSW_IR {s : SG} {y2 : Int32} {p : Int32}  : IR s → IR ((tkeSW s y2 p)) := by
  intro hi
  unfold tkeSW
  first | done | first | exact hi | (simp (decide := true) (maxDischargeDepth := 40) only [IR_up, IR_44, IR_52, IR_pt, IR_fl, IR_cp, advS_IR, admS_IR, adwS_IR, setNW_IR, setN_IR, takSL_IR, takSW_IR, takS_IR, stwS_IR, notS_IR, refP_IR, couS_IR, ttoS_IR, tkoS_IR, hi]; done) | ((repeat' split) <;> first | exact hi | (simp (decide := true) (maxDischargeDepth := 40) only [IR_up, IR_44, IR_52, IR_pt, IR_fl, IR_cp, advS_IR, admS_IR, adwS_IR, setNW_IR, setN_IR, takSL_IR, takSW_IR, takS_IR, stwS_IR, notS_IR, refP_IR, couS_IR, ttoS_IR, tkoS_IR, hi]; done))
theorem tkeS_RS {s : SG} {so : Int32} {line : Int32}  : RS s → RS ((tkeS s so line)) := by
  intro hi
  unfold tkeS
  first | done | first | exact hi | (simp (decide := true) (maxDischargeDepth := 40) only [RS_43, RS_up, RS_pt, RS_fl, RS_cp, RS_adv, adwS_RS, clrS_RS, clwS_RS, admS_RS, setNW_RS, setN_RS, takSL_RS, takSW_RS, takS_RS, stwS_RS, notS_RS, refP_RS, couS_RS, ttoS_RS, tkoS_RS, tkeSW_RS, hi]; done) | ((repeat' split) <;> first | exact hi | (simp (decide := true) (maxDischargeDepth := 40) only [RS_43, RS_up, RS_pt, RS_fl, RS_cp, RS_adv, adwS_RS, clrS_RS, clwS_RS, admS_RS, setNW_RS, setN_RS, takSL_RS, takSW_RS, takS_RS, stwS_RS, notS_RS, refP_RS, couS_RS, ttoS_RS, tkoS_RS, tkeSW_RS, hi]; done))
theorem tkeS_IR {s : SG} {so : Int32} {line : Int32}  : IR s → IR ((tkeS s so line)) := by
  intro hi
  unfold tkeS
  first | done | first | exact hi | (simp (decide := true) (maxDischargeDepth := 40) only [IR_up, IR_44, IR_52, IR_pt, IR_fl, IR_cp, advS_IR, admS_IR, adwS_IR, setNW_IR, setN_IR, takSL_IR, takSW_IR, takS_IR, stwS_IR, notS_IR, refP_IR, couS_IR, ttoS_IR, tkoS_IR, tkeSW_IR, hi]; done) | ((repeat' split) <;> first | exact hi | (simp (decide := true) (maxDischargeDepth := 40) only [IR_up, IR_44, IR_52, IR_pt, IR_fl, IR_cp, advS_IR, admS_IR, adwS_IR, setNW_IR, setN_IR, takSL_IR, takSW_IR, takS_IR, stwS_IR, notS_IR, refP_IR, couS_IR, ttoS_IR, tkoS_IR, tkeSW_IR, hi]; done))
theorem c_chosen16 {s : SG} (h : SH K) : xN sc (d + 6) 33 [.inr (.inr (.inl (some 43))), .inr (.inr (.inr 16))] (wl K s) = some (some (.inl (choI s 13)), wl K s) := c_chosen (z := 13) h (by decide)
def resP (s : SG) : Int32 × SG := if (s 43 7) = 3 then (1, advS s) else (0, s)
theorem resP_rt {s : SG} : xrt 4 (resP s).1 = true := by
  unfold resP
  first | done | first | with_reducible_and_instances rfl | simp only [hasI_rt, minI_rt, isaI_rt, issI_rt, pasI_rt, arsI_rt, canI7_rt, canI0_rt, islIL_rt, islI_rt, isbIW_rt, isbI_rt, isrIL_rt, isrI_rt, tofP_rt, disP_rt, recP_rt, hapPW_rt, hapP_rt, iagP_rt, iag0_rt, isfIL_rt, isfI_rt, artIL_rt, artI_rt, isb_I_rt, isl_I_rt, isd_I_rt, refP_rt, xr40, xr41] | ((repeat' split) <;> first | with_reducible_and_instances rfl | simp only [hasI_rt, minI_rt, isaI_rt, issI_rt, pasI_rt, arsI_rt, canI7_rt, canI0_rt, islIL_rt, islI_rt, isbIW_rt, isbI_rt, isrIL_rt, isrI_rt, tofP_rt, disP_rt, recP_rt, hapPW_rt, hapP_rt, iagP_rt, iag0_rt, isfIL_rt, isfI_rt, artIL_rt, artI_rt, isb_I_rt, isl_I_rt, isd_I_rt, refP_rt, xr40, xr41])
theorem resP_lo {s : SG}  {c : Nat} (ha : c < 42 ∨ 64 ≤ c) : (resP s).2 c = s c := by
  unfold resP
  first | done | rfl | (simp (decide := true) (maxDischargeDepth := 40) only [up_lo2 ha, pt_lo2 ha, fl_lo2 ha, cp_lo2 ha, setS7_lo ha, setS0_lo ha, briS7_lo ha, briS0_lo ha, tofP_lo ha, disP_lo ha, recP_lo ha, beaS_lo ha, rcdS_lo ha, comS_lo ha, decSL_lo ha, decS_lo ha, opeS_lo ha, hapPW_lo ha, hapP_lo ha, runPL_lo ha, runP_lo ha, dbeP_lo ha, drmS_lo ha, draSL_lo ha, draS_lo ha, stoPd_lo ha, iagP_lo ha, iag0_lo ha, magPL_lo ha, magP_lo ha, bagPL_lo ha, bagP_lo ha, magP0L_lo ha, magP0_lo ha, bagP0L_lo ha, bagP0_lo ha, agdbW_lo ha, agdb_lo ha, agdcW_lo ha, agdc_lo ha, fiwPL_lo ha, fiwP_lo ha, menPL_lo ha, menP_lo ha, natPc_lo ha, ffiPL_lo ha, ffiP_lo ha, unlPL_lo ha, unlP_lo ha, telPL_lo ha, telP_lo ha, drwP_lo ha, staP_lo ha, seaPW_lo ha, seaP_lo ha, clrS_lo ha, clwS_lo ha, admS_lo ha, setNW_lo ha, setN_lo ha, takSL_lo ha, takSW_lo ha, takS_lo ha, stwS_lo ha, adwSL_lo ha, adwS_lo ha, notS_lo ha, refP_lo ha, couS_lo ha, ttoS_lo ha, tkoS_lo ha, tkeSW_lo ha, tkeS_lo ha, advS_lo ha]; done) | ((repeat' split) <;> first | rfl | (simp (decide := true) (maxDischargeDepth := 40) only [up_lo2 ha, pt_lo2 ha, fl_lo2 ha, cp_lo2 ha, setS7_lo ha, setS0_lo ha, briS7_lo ha, briS0_lo ha, tofP_lo ha, disP_lo ha, recP_lo ha, beaS_lo ha, rcdS_lo ha, comS_lo ha, decSL_lo ha, decS_lo ha, opeS_lo ha, hapPW_lo ha, hapP_lo ha, runPL_lo ha, runP_lo ha, dbeP_lo ha, drmS_lo ha, draSL_lo ha, draS_lo ha, stoPd_lo ha, iagP_lo ha, iag0_lo ha, magPL_lo ha, magP_lo ha, bagPL_lo ha, bagP_lo ha, magP0L_lo ha, magP0_lo ha, bagP0L_lo ha, bagP0_lo ha, agdbW_lo ha, agdb_lo ha, agdcW_lo ha, agdc_lo ha, fiwPL_lo ha, fiwP_lo ha, menPL_lo ha, menP_lo ha, natPc_lo ha, ffiPL_lo ha, ffiP_lo ha, unlPL_lo ha, unlP_lo ha, telPL_lo ha, telP_lo ha, drwP_lo ha, staP_lo ha, seaPW_lo ha, seaP_lo ha, clrS_lo ha, clwS_lo ha, admS_lo ha, setNW_lo ha, setN_lo ha, takSL_lo ha, takSW_lo ha, takS_lo ha, stwS_lo ha, adwSL_lo ha, adwS_lo ha, notS_lo ha, refP_lo ha, couS_lo ha, ttoS_lo ha, tkoS_lo ha, tkeSW_lo ha, tkeS_lo ha, advS_lo ha]; done))
theorem resP_SZ {s : SG}  {c : Nat} (hc : c + 8 ≤ 42) : SZ ((resP s).2) c ↔ SZ s c := by unfold SZ sz; rw [resP_lo (Or.inl (by omega))]
theorem resP_sz {s : SG}  {c : Nat} (hc : c + 8 ≤ 42) : sz ((resP s).2) c = sz s c := by unfold sz; rw [resP_lo (Or.inl (by omega))]
theorem resP_RZ {s : SG}  {c : Nat} (hc : c + 2 ≤ 42) : RZ ((resP s).2) c ↔ RZ s c := by unfold RZ rz; rw [resP_lo (Or.inl (by omega))]
theorem resP_rz {s : SG}  {c : Nat} (hc : c + 2 ≤ 42) : rz ((resP s).2) c = rz s c := by unfold rz; rw [resP_lo (Or.inl (by omega))]
theorem resP_RS {s : SG}  : RS s → RS ((resP s).2) := by
  intro hi
  unfold resP
  first | done | first | exact hi | (simp (decide := true) (maxDischargeDepth := 40) only [RS_43, RS_up, RS_pt, RS_fl, RS_cp, RS_adv, adwS_RS, clrS_RS, clwS_RS, admS_RS, setNW_RS, setN_RS, takSL_RS, takSW_RS, takS_RS, stwS_RS, notS_RS, refP_RS, couS_RS, ttoS_RS, tkoS_RS, tkeSW_RS, tkeS_RS, hi]; done) | ((repeat' split) <;> first | exact hi | (simp (decide := true) (maxDischargeDepth := 40) only [RS_43, RS_up, RS_pt, RS_fl, RS_cp, RS_adv, adwS_RS, clrS_RS, clwS_RS, admS_RS, setNW_RS, setN_RS, takSL_RS, takSW_RS, takS_RS, stwS_RS, notS_RS, refP_RS, couS_RS, ttoS_RS, tkoS_RS, tkeSW_RS, tkeS_RS, hi]; done))
theorem resP_IR {s : SG}  : IR s → IR ((resP s).2) := by
  intro hi
  unfold resP
  first | done | first | exact hi | (simp (decide := true) (maxDischargeDepth := 40) only [IR_up, IR_44, IR_52, IR_pt, IR_fl, IR_cp, advS_IR, admS_IR, adwS_IR, setNW_IR, setN_IR, takSL_IR, takSW_IR, takS_IR, stwS_IR, notS_IR, refP_IR, couS_IR, ttoS_IR, tkoS_IR, tkeSW_IR, tkeS_IR, hi]; done) | ((repeat' split) <;> first | exact hi | (simp (decide := true) (maxDischargeDepth := 40) only [IR_up, IR_44, IR_52, IR_pt, IR_fl, IR_cp, advS_IR, admS_IR, adwS_IR, setNW_IR, setN_IR, takSL_IR, takSW_IR, takS_IR, stwS_IR, notS_IR, refP_IR, couS_IR, ttoS_IR, tkoS_IR, tkeSW_IR, tkeS_IR, hi]; done))
theorem c_readSemicolon {s : SG}  (h : SH K) (rs : RS s) : xN sc (d + 3) 26 [.inr (.inr (.inl (some 43)))] (wl K s) = some (some (.inl (resP s).1), wl K (resP s).2) := by
  rw [mX1_readSemicolon]
  simp (decide := true) (maxDischargeDepth := 40) only [uX1_readSemicolon_0, uX1_readSemicolon_8, uX1_readSemicolon_10, qX1_readSemicolon_0, qX1_readSemicolon_8, qX1_readSemicolon_10, jX1_readSemicolon_8_10, c43_g7 h, bd_eq, c43_v h, cond_true, c_advanceR h, xcv_eq, rs, RS_43, RS_up, RS_pt, RS_fl, RS_cp, IR_up, IR_44, IR_52, IR_pt, IR_fl, IR_cp, advS_IR, RS_adv, admS_IR, adwS_IR, adwS_RS, clrS_RS, clwS_RS, admS_RS, setNW_RS, setNW_IR, setN_RS, setN_IR, takSL_RS, takSL_IR, takSW_RS, takSW_IR, takS_RS, takS_IR, stwS_RS, stwS_IR, notS_RS, notS_IR, refP_RS, refP_IR, couS_RS, couS_IR, ttoS_RS, ttoS_IR, tkoS_RS, tkoS_IR, tkeSW_RS, tkeSW_IR, tkeS_RS, tkeS_IR, resP_RS, resP_IR, up_a, up_b, up_c, pt_c, fl_c, cp_c]
  first | done | (unfold resP; first | done | with_reducible_and_instances rfl | ((repeat' split) <;> first | with_reducible_and_instances rfl | contradiction | exact absurd ‹(1 : Int32) = 0› (by decide) | exact absurd rfl ‹¬ (0 : Int32) = 0› | exact absurd rfl ‹¬ (1 : Int32) = 1› | (exfalso; rename_i h1 h2; exact h1 (by rw [h2]; exact Int32.le_refl _))))
def rnuP (s : SG) (f : Int32) (part : Int32) (x3 : Int32) : Int32 × SG := if f = 102 then (if x3 = (cl 5 (s 55) 0) then (if x3 < (leaO f) then (1, advS (pt 5 (notS s 2 (s 43 8)) 55 part x3)) else if (mosO f) < x3 then (1, advS (pt 5 (notS s 2 (s 43 8)) 55 part x3)) else (1, advS (pt 5 (notS s 2 (s 43 8)) 55 part x3))) else if x3 < (leaO f) then (1, advS (pt 5 (notS s 2 (s 43 8)) 55 part x3)) else if (mosO f) < x3 then (1, advS (pt 5 (notS s 2 (s 43 8)) 55 part x3)) else (1, advS (pt 5 s 55 part x3))) else if x3 < (leaO f) then (1, advS (pt 5 (notS s 2 (s 43 8)) 55 part x3)) else if (mosO f) < x3 then (1, advS (pt 5 (notS s 2 (s 43 8)) 55 part x3)) else (1, advS (pt 5 s 55 part x3))
theorem rnuP_lo {s : SG} {f : Int32} {part : Int32} {x3 : Int32}  {c : Nat} (ha : c < 42 ∨ 64 ≤ c) : (rnuP s f part x3).2 c = s c := by
  unfold rnuP
  first | done | rfl | (simp (decide := true) (maxDischargeDepth := 40) only [up_lo2 ha, pt_lo2 ha, fl_lo2 ha, cp_lo2 ha, setS7_lo ha, setS0_lo ha, briS7_lo ha, briS0_lo ha, tofP_lo ha, disP_lo ha, recP_lo ha, beaS_lo ha, rcdS_lo ha, comS_lo ha, decSL_lo ha, decS_lo ha, opeS_lo ha, hapPW_lo ha, hapP_lo ha, runPL_lo ha, runP_lo ha, dbeP_lo ha, drmS_lo ha, draSL_lo ha, draS_lo ha, stoPd_lo ha, iagP_lo ha, iag0_lo ha, magPL_lo ha, magP_lo ha, bagPL_lo ha, bagP_lo ha, magP0L_lo ha, magP0_lo ha, bagP0L_lo ha, bagP0_lo ha, agdbW_lo ha, agdb_lo ha, agdcW_lo ha, agdc_lo ha, fiwPL_lo ha, fiwP_lo ha, menPL_lo ha, menP_lo ha, natPc_lo ha, ffiPL_lo ha, ffiP_lo ha, unlPL_lo ha, unlP_lo ha, telPL_lo ha, telP_lo ha, drwP_lo ha, staP_lo ha, seaPW_lo ha, seaP_lo ha, clrS_lo ha, clwS_lo ha, admS_lo ha, setNW_lo ha, setN_lo ha, takSL_lo ha, takSW_lo ha, takS_lo ha, stwS_lo ha, adwSL_lo ha, adwS_lo ha, notS_lo ha, refP_lo ha, couS_lo ha, ttoS_lo ha, tkoS_lo ha, tkeSW_lo ha, tkeS_lo ha, advS_lo ha, resP_lo ha]; done) | ((repeat' split) <;> first | rfl | (simp (decide := true) (maxDischargeDepth := 40) only [up_lo2 ha, pt_lo2 ha, fl_lo2 ha, cp_lo2 ha, setS7_lo ha, setS0_lo ha, briS7_lo ha, briS0_lo ha, tofP_lo ha, disP_lo ha, recP_lo ha, beaS_lo ha, rcdS_lo ha, comS_lo ha, decSL_lo ha, decS_lo ha, opeS_lo ha, hapPW_lo ha, hapP_lo ha, runPL_lo ha, runP_lo ha, dbeP_lo ha, drmS_lo ha, draSL_lo ha, draS_lo ha, stoPd_lo ha, iagP_lo ha, iag0_lo ha, magPL_lo ha, magP_lo ha, bagPL_lo ha, bagP_lo ha, magP0L_lo ha, magP0_lo ha, bagP0L_lo ha, bagP0_lo ha, agdbW_lo ha, agdb_lo ha, agdcW_lo ha, agdc_lo ha, fiwPL_lo ha, fiwP_lo ha, menPL_lo ha, menP_lo ha, natPc_lo ha, ffiPL_lo ha, ffiP_lo ha, unlPL_lo ha, unlP_lo ha, telPL_lo ha, telP_lo ha, drwP_lo ha, staP_lo ha, seaPW_lo ha, seaP_lo ha, clrS_lo ha, clwS_lo ha, admS_lo ha, setNW_lo ha, setN_lo ha, takSL_lo ha, takSW_lo ha, takS_lo ha, stwS_lo ha, adwSL_lo ha, adwS_lo ha, notS_lo ha, refP_lo ha, couS_lo ha, ttoS_lo ha, tkoS_lo ha, tkeSW_lo ha, tkeS_lo ha, advS_lo ha, resP_lo ha]; done))
theorem rnuP_SZ {s : SG} {f : Int32} {part : Int32} {x3 : Int32}  {c : Nat} (hc : c + 8 ≤ 42) : SZ ((rnuP s f part x3).2) c ↔ SZ s c := by unfold SZ sz; rw [rnuP_lo (Or.inl (by omega))]
theorem rnuP_sz {s : SG} {f : Int32} {part : Int32} {x3 : Int32}  {c : Nat} (hc : c + 8 ≤ 42) : sz ((rnuP s f part x3).2) c = sz s c := by unfold sz; rw [rnuP_lo (Or.inl (by omega))]
theorem rnuP_RZ {s : SG} {f : Int32} {part : Int32} {x3 : Int32}  {c : Nat} (hc : c + 2 ≤ 42) : RZ ((rnuP s f part x3).2) c ↔ RZ s c := by unfold RZ rz; rw [rnuP_lo (Or.inl (by omega))]
theorem rnuP_rz {s : SG} {f : Int32} {part : Int32} {x3 : Int32}  {c : Nat} (hc : c + 2 ≤ 42) : rz ((rnuP s f part x3).2) c = rz s c := by unfold rz; rw [rnuP_lo (Or.inl (by omega))]
theorem rnuP_RS {s : SG} {f : Int32} {part : Int32} {x3 : Int32}  : RS s → RS ((rnuP s f part x3).2) := by
  intro hi
  unfold rnuP
  first | done | first | exact hi | (simp (decide := true) (maxDischargeDepth := 40) only [RS_43, RS_up, RS_pt, RS_fl, RS_cp, RS_adv, adwS_RS, clrS_RS, clwS_RS, admS_RS, setNW_RS, setN_RS, takSL_RS, takSW_RS, takS_RS, stwS_RS, notS_RS, refP_RS, couS_RS, ttoS_RS, tkoS_RS, tkeSW_RS, tkeS_RS, resP_RS, hi]; done) | ((repeat' split) <;> first | exact hi | (simp (decide := true) (maxDischargeDepth := 40) only [RS_43, RS_up, RS_pt, RS_fl, RS_cp, RS_adv, adwS_RS, clrS_RS, clwS_RS, admS_RS, setNW_RS, setN_RS, takSL_RS, takSW_RS, takS_RS, stwS_RS, notS_RS, refP_RS, couS_RS, ttoS_RS, tkoS_RS, tkeSW_RS, tkeS_RS, resP_RS, hi]; done))
theorem rnuP_IR {s : SG} {f : Int32} {part : Int32} {x3 : Int32}  : IR s → IR ((rnuP s f part x3).2) := by
  intro hi
  unfold rnuP
  first | done | first | exact hi | (simp (decide := true) (maxDischargeDepth := 40) only [IR_up, IR_44, IR_52, IR_pt, IR_fl, IR_cp, advS_IR, admS_IR, adwS_IR, setNW_IR, setN_IR, takSL_IR, takSW_IR, takS_IR, stwS_IR, notS_IR, refP_IR, couS_IR, ttoS_IR, tkoS_IR, tkeSW_IR, tkeS_IR, resP_IR, hi]; done) | ((repeat' split) <;> first | exact hi | (simp (decide := true) (maxDischargeDepth := 40) only [IR_up, IR_44, IR_52, IR_pt, IR_fl, IR_cp, advS_IR, admS_IR, adwS_IR, setNW_IR, setN_IR, takSL_IR, takSW_IR, takS_IR, stwS_IR, notS_IR, refP_IR, couS_IR, ttoS_IR, tkoS_IR, tkeSW_IR, tkeS_IR, resP_IR, hi]; done))
theorem s_readNumber {s : SG} {b : Nat → XL → List EV → EW → XR} {f : Int32} {part : Int32} {x3 : Int32} {x4 : Int32} (h : SH K) (rs : RS s) : fW sc 1 4 false 5 (xN sc (d + 2)) b kX1_readNumber_51 51 [some (.inr (.inr (.inl (some 43)))), some (.inl f), some (.inl part), some (.inl x3), some (.inl x4)] [] (wl K s) = some (some (.inl (rnuP s f part x3).1), wl K (rnuP s f part x3).2) := by
  simp (decide := true) (maxDischargeDepth := 40) only [uX1_readNumber_51, uX1_readNumber_57, uX1_readNumber_69, uX1_readNumber_73, uX1_readNumber_74, uX1_readNumber_84, uX1_readNumber_92, uX1_readNumber_97, uX1_readNumber_106, qX1_readNumber_51, qX1_readNumber_57, qX1_readNumber_69, qX1_readNumber_73, qX1_readNumber_74, qX1_readNumber_84, qX1_readNumber_92, qX1_readNumber_97, qX1_readNumber_106, jX1_readNumber_8_10, jX1_readNumber_27_51, jX1_readNumber_57_73, jX1_readNumber_69_73, jX1_readNumber_73_74, jX1_readNumber_84_97, jX1_readNumber_92_97, jX1_readNumber_97_106, jX1_readNumber_0_18, c43_g5 h, bd_eq, xci_eq, lc55 h, c_leastOf, c43_g8 h, c43_v h, cond_true, c_note h, xcv_eq, kc55 h, c_advanceR h, c_mostOf, rs, RS_43, RS_up, RS_pt, RS_fl, RS_cp, IR_up, IR_44, IR_52, IR_pt, IR_fl, IR_cp, advS_IR, RS_adv, admS_IR, adwS_IR, adwS_RS, clrS_RS, clwS_RS, admS_RS, setNW_RS, setNW_IR, setN_RS, setN_IR, takSL_RS, takSL_IR, takSW_RS, takSW_IR, takS_RS, takS_IR, stwS_RS, stwS_IR, notS_RS, notS_IR, refP_RS, refP_IR, couS_RS, couS_IR, ttoS_RS, ttoS_IR, tkoS_RS, tkoS_IR, tkeSW_RS, tkeSW_IR, tkeS_RS, tkeS_IR, resP_RS, resP_IR, rnuP_RS, rnuP_IR, up_a, up_b, up_c, pt_c, fl_c, cp_c]
  first | done | (unfold rnuP; first | done | with_reducible_and_instances rfl | ((repeat' split) <;> first | with_reducible_and_instances rfl | contradiction))
def numL (s : SG) : Nat → Nat → Int32 → Int32
  | 0, _, y => y
  | n + 1, j, y => numL s n (j + 1) (y * 10 + tok s j - 48)
theorem l_readNumber {s : SG} {f part : Int32} (h : SH K) (rs : RS s) : ∀ (n j k : Nat) (y : Int32), j + n = en s → n ≤ k → fW sc 1 4 false 5 (xN sc (d + 2)) (ex sc 1 4 false 5 (xN sc (d + 2)) kX1_readNumber_0 k) kX1_readNumber_18 18 [some (.inr (.inr (.inl (some 43)))), some (.inl f), some (.inl part), some (.inl y), some (.inl (nI j))] [] (wl K s) = some (some (.inl (rnuP s f part (numL s n j y)).1), wl K (rnuP s f part (numL s n j y)).2) := by
  have h9 := rs.1.2.2.1
  have h4 := rs.1.2.1
  have h5 := rs.1.2.2.2
  intro n
  induction n with
  | zero =>
    intro j k y hj hk
    simp only [uX1_readNumber_18, qX1_readNumber_18, jX1_readNumber_8_10, jX1_readNumber_27_51, jX1_readNumber_57_73, jX1_readNumber_69_73, jX1_readNumber_73_74, jX1_readNumber_84_97, jX1_readNumber_92_97, jX1_readNumber_97_106, jX1_readNumber_0_18, c43_g9 h, bd_eq, h9, if_pos (k_ge hj)]
    simp only [s_readNumber h rs]
    rw [numL]
  | succ n ih =>
    intro j k y hj hk
    obtain ⟨k, rfl⟩ : ∃ k', k = k' + 1 := ⟨k - 1, by omega⟩
    have e := ih (j + 1) k (y * 10 + tok s j - 48) (by omega) (by omega)
    rw [nI_succ] at e
    simp only [uX1_readNumber_18, qX1_readNumber_18, jX1_readNumber_8_10, jX1_readNumber_27_51, jX1_readNumber_57_73, jX1_readNumber_69_73, jX1_readNumber_73_74, jX1_readNumber_84_97, jX1_readNumber_92_97, jX1_readNumber_97_106, jX1_readNumber_0_18, c43_g9 h, bd_eq, h9, if_neg (k_lt hj (show en s < 2 ^ 31 by omega))]
    simp only [uX1_readNumber_27, qX1_readNumber_27, jX1_readNumber_8_10, jX1_readNumber_27_51, jX1_readNumber_57_73, jX1_readNumber_69_73, jX1_readNumber_73_74, jX1_readNumber_84_97, jX1_readNumber_92_97, jX1_readNumber_97_106, jX1_readNumber_0_18, c43_g4 h, bd_eq, lc54 h, xci_eq, eX_eq]
    rw [numL]
    exact e
def reaP (s : SG) (f part : Int32) : Int32 × SG := if s 43 7 = 2 then rnuP s f part (numL s (en s - st s) (st s) 0) else (0, s)
theorem c_readNumber {s : SG} {f part : Int32} (h : SH K) (rs : RS s) : xN sc (d + 3) 27 [.inr (.inr (.inl (some 43))), .inl f, .inl part] (wl K s) = some (some (.inl (reaP s f part).1), wl K (reaP s f part).2) := by
  rw [mX1_readNumber]
  have L := l_readNumber (sc := sc) (d := d) (f := f) (part := part) h rs (en s - st s) (st s) xF 0 (by have := rs.2.2; omega) (by have := xF_ge; have := rs.1.2.1; have := rs.1.2.2.2; omega)
  rw [← rs.2.1] at L
  simp only [uX1_readNumber_0, uX1_readNumber_8, uX1_readNumber_10, qX1_readNumber_0, qX1_readNumber_8, qX1_readNumber_10, jX1_readNumber_8_10, jX1_readNumber_27_51, jX1_readNumber_57_73, jX1_readNumber_69_73, jX1_readNumber_73_74, jX1_readNumber_84_97, jX1_readNumber_92_97, jX1_readNumber_97_106, jX1_readNumber_0_18, c43_g7 h, c43_g8 h, bd_eq]
  unfold reaP
  split
  · exact L
  · rfl
theorem reaP_rt {s : SG} {f part : Int32} : xrt 4 (reaP s f part).1 = true := by
  unfold reaP rnuP
  (repeat' split) <;> rfl
theorem reaP_lo {s : SG} {f part : Int32} {c : Nat} (ha : c < 42 ∨ 64 ≤ c) : (reaP s f part).2 c = s c := by
  unfold reaP
  first | done | rfl | (simp (decide := true) (maxDischargeDepth := 40) only [up_lo2 ha, pt_lo2 ha, fl_lo2 ha, cp_lo2 ha, setS7_lo ha, setS0_lo ha, briS7_lo ha, briS0_lo ha, tofP_lo ha, disP_lo ha, recP_lo ha, beaS_lo ha, rcdS_lo ha, comS_lo ha, decSL_lo ha, decS_lo ha, opeS_lo ha, hapPW_lo ha, hapP_lo ha, runPL_lo ha, runP_lo ha, dbeP_lo ha, drmS_lo ha, draSL_lo ha, draS_lo ha, stoPd_lo ha, iagP_lo ha, iag0_lo ha, magPL_lo ha, magP_lo ha, bagPL_lo ha, bagP_lo ha, magP0L_lo ha, magP0_lo ha, bagP0L_lo ha, bagP0_lo ha, agdbW_lo ha, agdb_lo ha, agdcW_lo ha, agdc_lo ha, fiwPL_lo ha, fiwP_lo ha, menPL_lo ha, menP_lo ha, natPc_lo ha, ffiPL_lo ha, ffiP_lo ha, unlPL_lo ha, unlP_lo ha, telPL_lo ha, telP_lo ha, drwP_lo ha, staP_lo ha, seaPW_lo ha, seaP_lo ha, clrS_lo ha, clwS_lo ha, admS_lo ha, setNW_lo ha, setN_lo ha, takSL_lo ha, takSW_lo ha, takS_lo ha, stwS_lo ha, adwSL_lo ha, adwS_lo ha, notS_lo ha, refP_lo ha, couS_lo ha, ttoS_lo ha, tkoS_lo ha, tkeSW_lo ha, tkeS_lo ha, advS_lo ha, resP_lo ha, rnuP_lo ha]; done) | ((repeat' split) <;> first | rfl | (simp (decide := true) (maxDischargeDepth := 40) only [up_lo2 ha, pt_lo2 ha, fl_lo2 ha, cp_lo2 ha, setS7_lo ha, setS0_lo ha, briS7_lo ha, briS0_lo ha, tofP_lo ha, disP_lo ha, recP_lo ha, beaS_lo ha, rcdS_lo ha, comS_lo ha, decSL_lo ha, decS_lo ha, opeS_lo ha, hapPW_lo ha, hapP_lo ha, runPL_lo ha, runP_lo ha, dbeP_lo ha, drmS_lo ha, draSL_lo ha, draS_lo ha, stoPd_lo ha, iagP_lo ha, iag0_lo ha, magPL_lo ha, magP_lo ha, bagPL_lo ha, bagP_lo ha, magP0L_lo ha, magP0_lo ha, bagP0L_lo ha, bagP0_lo ha, agdbW_lo ha, agdb_lo ha, agdcW_lo ha, agdc_lo ha, fiwPL_lo ha, fiwP_lo ha, menPL_lo ha, menP_lo ha, natPc_lo ha, ffiPL_lo ha, ffiP_lo ha, unlPL_lo ha, unlP_lo ha, telPL_lo ha, telP_lo ha, drwP_lo ha, staP_lo ha, seaPW_lo ha, seaP_lo ha, clrS_lo ha, clwS_lo ha, admS_lo ha, setNW_lo ha, setN_lo ha, takSL_lo ha, takSW_lo ha, takS_lo ha, stwS_lo ha, adwSL_lo ha, adwS_lo ha, notS_lo ha, refP_lo ha, couS_lo ha, ttoS_lo ha, tkoS_lo ha, tkeSW_lo ha, tkeS_lo ha, advS_lo ha, resP_lo ha, rnuP_lo ha]; done))
theorem reaP_SZ {s : SG} {f part : Int32} {c : Nat} (hc : c + 8 ≤ 42) : SZ ((reaP s f part).2) c ↔ SZ s c := by unfold SZ sz; rw [reaP_lo (Or.inl (by omega))]
theorem reaP_sz {s : SG} {f part : Int32} {c : Nat} (hc : c + 8 ≤ 42) : sz ((reaP s f part).2) c = sz s c := by unfold sz; rw [reaP_lo (Or.inl (by omega))]
theorem reaP_RZ {s : SG} {f part : Int32} {c : Nat} (hc : c + 2 ≤ 42) : RZ ((reaP s f part).2) c ↔ RZ s c := by unfold RZ rz; rw [reaP_lo (Or.inl (by omega))]
theorem reaP_rz {s : SG} {f part : Int32} {c : Nat} (hc : c + 2 ≤ 42) : rz ((reaP s f part).2) c = rz s c := by unfold rz; rw [reaP_lo (Or.inl (by omega))]
theorem reaP_RS {s : SG} {f part : Int32} : RS s → RS ((reaP s f part).2) := by
  intro hi
  unfold reaP
  first | done | first | exact hi | (simp (decide := true) (maxDischargeDepth := 40) only [RS_43, RS_up, RS_pt, RS_fl, RS_cp, RS_adv, adwS_RS, clrS_RS, clwS_RS, admS_RS, setNW_RS, setN_RS, takSL_RS, takSW_RS, takS_RS, stwS_RS, notS_RS, refP_RS, couS_RS, ttoS_RS, tkoS_RS, tkeSW_RS, tkeS_RS, resP_RS, rnuP_RS, hi]; done) | ((repeat' split) <;> first | exact hi | (simp (decide := true) (maxDischargeDepth := 40) only [RS_43, RS_up, RS_pt, RS_fl, RS_cp, RS_adv, adwS_RS, clrS_RS, clwS_RS, admS_RS, setNW_RS, setN_RS, takSL_RS, takSW_RS, takS_RS, stwS_RS, notS_RS, refP_RS, couS_RS, ttoS_RS, tkoS_RS, tkeSW_RS, tkeS_RS, resP_RS, rnuP_RS, hi]; done))
theorem reaP_IR {s : SG} {f part : Int32} : IR s → IR ((reaP s f part).2) := by
  intro hi
  unfold reaP
  first | done | first | exact hi | (simp (decide := true) (maxDischargeDepth := 40) only [IR_up, IR_44, IR_52, IR_pt, IR_fl, IR_cp, advS_IR, admS_IR, adwS_IR, setNW_IR, setN_IR, takSL_IR, takSW_IR, takS_IR, stwS_IR, notS_IR, refP_IR, couS_IR, ttoS_IR, tkoS_IR, tkeSW_IR, tkeS_IR, resP_IR, rnuP_IR, hi]; done) | ((repeat' split) <;> first | exact hi | (simp (decide := true) (maxDischargeDepth := 40) only [IR_up, IR_44, IR_52, IR_pt, IR_fl, IR_cp, advS_IR, admS_IR, adwS_IR, setNW_IR, setN_IR, takSL_IR, takSW_IR, takS_IR, stwS_IR, notS_IR, refP_IR, couS_IR, ttoS_IR, tkoS_IR, tkeSW_IR, tkeS_IR, resP_IR, rnuP_IR, hi]; done))
def rpaP (s : SG) (f : Int32) (part : Int32) : Int32 × SG := if f = 59 then ((resP s).1, (resP s).2) else if f = 105 then (if (choI s 13) = (-1) then (1, s) else if (isEI (choZ f)) = 0 then (if (choI (advS s) (choZ f)) = (-1) then (0, advS s) else (1, advS (pt 5 (advS s) 55 part (choI (advS s) (choZ f))))) else ((reaP (advS s) f part).1, (reaP (advS s) f part).2)) else if (isEI (choZ f)) = 0 then (if (choI s (choZ f)) = (-1) then (0, s) else (1, advS (pt 5 s 55 part (choI s (choZ f))))) else ((reaP s f part).1, (reaP s f part).2)
theorem rpaP_rt {s : SG} {f : Int32} {part : Int32} : xrt 4 (rpaP s f part).1 = true := by
  unfold rpaP
  first | done | first | with_reducible_and_instances rfl | simp only [hasI_rt, minI_rt, isaI_rt, issI_rt, pasI_rt, arsI_rt, canI7_rt, canI0_rt, islIL_rt, islI_rt, isbIW_rt, isbI_rt, isrIL_rt, isrI_rt, tofP_rt, disP_rt, recP_rt, hapPW_rt, hapP_rt, iagP_rt, iag0_rt, isfIL_rt, isfI_rt, artIL_rt, artI_rt, isb_I_rt, isl_I_rt, isd_I_rt, refP_rt, resP_rt, reaP_rt, xr40, xr41] | ((repeat' split) <;> first | with_reducible_and_instances rfl | simp only [hasI_rt, minI_rt, isaI_rt, issI_rt, pasI_rt, arsI_rt, canI7_rt, canI0_rt, islIL_rt, islI_rt, isbIW_rt, isbI_rt, isrIL_rt, isrI_rt, tofP_rt, disP_rt, recP_rt, hapPW_rt, hapP_rt, iagP_rt, iag0_rt, isfIL_rt, isfI_rt, artIL_rt, artI_rt, isb_I_rt, isl_I_rt, isd_I_rt, refP_rt, resP_rt, reaP_rt, xr40, xr41])
theorem rpaP_lo {s : SG} {f : Int32} {part : Int32}  {c : Nat} (ha : c < 42 ∨ 64 ≤ c) : (rpaP s f part).2 c = s c := by
  unfold rpaP
  first | done | rfl | (simp (decide := true) (maxDischargeDepth := 40) only [up_lo2 ha, pt_lo2 ha, fl_lo2 ha, cp_lo2 ha, setS7_lo ha, setS0_lo ha, briS7_lo ha, briS0_lo ha, tofP_lo ha, disP_lo ha, recP_lo ha, beaS_lo ha, rcdS_lo ha, comS_lo ha, decSL_lo ha, decS_lo ha, opeS_lo ha, hapPW_lo ha, hapP_lo ha, runPL_lo ha, runP_lo ha, dbeP_lo ha, drmS_lo ha, draSL_lo ha, draS_lo ha, stoPd_lo ha, iagP_lo ha, iag0_lo ha, magPL_lo ha, magP_lo ha, bagPL_lo ha, bagP_lo ha, magP0L_lo ha, magP0_lo ha, bagP0L_lo ha, bagP0_lo ha, agdbW_lo ha, agdb_lo ha, agdcW_lo ha, agdc_lo ha, fiwPL_lo ha, fiwP_lo ha, menPL_lo ha, menP_lo ha, natPc_lo ha, ffiPL_lo ha, ffiP_lo ha, unlPL_lo ha, unlP_lo ha, telPL_lo ha, telP_lo ha, drwP_lo ha, staP_lo ha, seaPW_lo ha, seaP_lo ha, clrS_lo ha, clwS_lo ha, admS_lo ha, setNW_lo ha, setN_lo ha, takSL_lo ha, takSW_lo ha, takS_lo ha, stwS_lo ha, adwSL_lo ha, adwS_lo ha, notS_lo ha, refP_lo ha, couS_lo ha, ttoS_lo ha, tkoS_lo ha, tkeSW_lo ha, tkeS_lo ha, advS_lo ha, resP_lo ha, rnuP_lo ha, reaP_lo ha]; done) | ((repeat' split) <;> first | rfl | (simp (decide := true) (maxDischargeDepth := 40) only [up_lo2 ha, pt_lo2 ha, fl_lo2 ha, cp_lo2 ha, setS7_lo ha, setS0_lo ha, briS7_lo ha, briS0_lo ha, tofP_lo ha, disP_lo ha, recP_lo ha, beaS_lo ha, rcdS_lo ha, comS_lo ha, decSL_lo ha, decS_lo ha, opeS_lo ha, hapPW_lo ha, hapP_lo ha, runPL_lo ha, runP_lo ha, dbeP_lo ha, drmS_lo ha, draSL_lo ha, draS_lo ha, stoPd_lo ha, iagP_lo ha, iag0_lo ha, magPL_lo ha, magP_lo ha, bagPL_lo ha, bagP_lo ha, magP0L_lo ha, magP0_lo ha, bagP0L_lo ha, bagP0_lo ha, agdbW_lo ha, agdb_lo ha, agdcW_lo ha, agdc_lo ha, fiwPL_lo ha, fiwP_lo ha, menPL_lo ha, menP_lo ha, natPc_lo ha, ffiPL_lo ha, ffiP_lo ha, unlPL_lo ha, unlP_lo ha, telPL_lo ha, telP_lo ha, drwP_lo ha, staP_lo ha, seaPW_lo ha, seaP_lo ha, clrS_lo ha, clwS_lo ha, admS_lo ha, setNW_lo ha, setN_lo ha, takSL_lo ha, takSW_lo ha, takS_lo ha, stwS_lo ha, adwSL_lo ha, adwS_lo ha, notS_lo ha, refP_lo ha, couS_lo ha, ttoS_lo ha, tkoS_lo ha, tkeSW_lo ha, tkeS_lo ha, advS_lo ha, resP_lo ha, rnuP_lo ha, reaP_lo ha]; done))
theorem rpaP_SZ {s : SG} {f : Int32} {part : Int32}  {c : Nat} (hc : c + 8 ≤ 42) : SZ ((rpaP s f part).2) c ↔ SZ s c := by unfold SZ sz; rw [rpaP_lo (Or.inl (by omega))]
theorem rpaP_sz {s : SG} {f : Int32} {part : Int32}  {c : Nat} (hc : c + 8 ≤ 42) : sz ((rpaP s f part).2) c = sz s c := by unfold sz; rw [rpaP_lo (Or.inl (by omega))]
theorem rpaP_RZ {s : SG} {f : Int32} {part : Int32}  {c : Nat} (hc : c + 2 ≤ 42) : RZ ((rpaP s f part).2) c ↔ RZ s c := by unfold RZ rz; rw [rpaP_lo (Or.inl (by omega))]
theorem rpaP_rz {s : SG} {f : Int32} {part : Int32}  {c : Nat} (hc : c + 2 ≤ 42) : rz ((rpaP s f part).2) c = rz s c := by unfold rz; rw [rpaP_lo (Or.inl (by omega))]
theorem rpaP_RS {s : SG} {f : Int32} {part : Int32}  : RS s → RS ((rpaP s f part).2) := by
  intro hi
  unfold rpaP
  first | done | first | exact hi | (simp (decide := true) (maxDischargeDepth := 40) only [RS_43, RS_up, RS_pt, RS_fl, RS_cp, RS_adv, adwS_RS, clrS_RS, clwS_RS, admS_RS, setNW_RS, setN_RS, takSL_RS, takSW_RS, takS_RS, stwS_RS, notS_RS, refP_RS, couS_RS, ttoS_RS, tkoS_RS, tkeSW_RS, tkeS_RS, resP_RS, rnuP_RS, reaP_RS, hi]; done) | ((repeat' split) <;> first | exact hi | (simp (decide := true) (maxDischargeDepth := 40) only [RS_43, RS_up, RS_pt, RS_fl, RS_cp, RS_adv, adwS_RS, clrS_RS, clwS_RS, admS_RS, setNW_RS, setN_RS, takSL_RS, takSW_RS, takS_RS, stwS_RS, notS_RS, refP_RS, couS_RS, ttoS_RS, tkoS_RS, tkeSW_RS, tkeS_RS, resP_RS, rnuP_RS, reaP_RS, hi]; done))
theorem rpaP_IR {s : SG} {f : Int32} {part : Int32}  : IR s → IR ((rpaP s f part).2) := by
  intro hi
  unfold rpaP
  first | done | first | exact hi | (simp (decide := true) (maxDischargeDepth := 40) only [IR_up, IR_44, IR_52, IR_pt, IR_fl, IR_cp, advS_IR, admS_IR, adwS_IR, setNW_IR, setN_IR, takSL_IR, takSW_IR, takS_IR, stwS_IR, notS_IR, refP_IR, couS_IR, ttoS_IR, tkoS_IR, tkeSW_IR, tkeS_IR, resP_IR, rnuP_IR, reaP_IR, hi]; done) | ((repeat' split) <;> first | exact hi | (simp (decide := true) (maxDischargeDepth := 40) only [IR_up, IR_44, IR_52, IR_pt, IR_fl, IR_cp, advS_IR, admS_IR, adwS_IR, setNW_IR, setN_IR, takSL_IR, takSW_IR, takS_IR, stwS_IR, notS_IR, refP_IR, couS_IR, ttoS_IR, tkoS_IR, tkeSW_IR, tkeS_IR, resP_IR, rnuP_IR, reaP_IR, hi]; done))
theorem c_readPart {s : SG} {f : Int32} {part : Int32}  (h : SH K) (rs : RS s) : xN sc (d + 7) 24 [.inr (.inr (.inl (some 43))), .inl f, .inl part] (wl K s) = some (some (.inl (rpaP s f part).1), wl K (rpaP s f part).2) := by
  rw [mX1_readPart]
  simp (decide := true) (maxDischargeDepth := 40) only [uX1_readPart_0, uX1_readPart_6, uX1_readPart_11, uX1_readPart_17, uX1_readPart_27, uX1_readPart_29, uX1_readPart_33, uX1_readPart_45, uX1_readPart_52, uX1_readPart_65, uX1_readPart_67, qX1_readPart_0, qX1_readPart_6, qX1_readPart_11, qX1_readPart_17, qX1_readPart_27, qX1_readPart_29, qX1_readPart_33, qX1_readPart_45, qX1_readPart_52, qX1_readPart_65, qX1_readPart_67, jX1_readPart_6_11, jX1_readPart_17_33, jX1_readPart_27_29, jX1_readPart_45_52, jX1_readPart_65_67, c43_v h, cond_true, c_readSemicolon h, rs, xci_eq, resP_rt, xr40, xr41, c_chosen16 h, c_advanceR h, xcv_eq, c_choicesOf, xck_eq, xst_z choZ_lt, c_isEmpty choZ_lt, c_chosen h choZ_lt, c43_g5 h, bd_eq, kc55 h, c_readNumber h, reaP_rt, rs, RS_43, RS_up, RS_pt, RS_fl, RS_cp, IR_up, IR_44, IR_52, IR_pt, IR_fl, IR_cp, advS_IR, RS_adv, admS_IR, adwS_IR, adwS_RS, clrS_RS, clwS_RS, admS_RS, setNW_RS, setNW_IR, setN_RS, setN_IR, takSL_RS, takSL_IR, takSW_RS, takSW_IR, takS_RS, takS_IR, stwS_RS, stwS_IR, notS_RS, notS_IR, refP_RS, refP_IR, couS_RS, couS_IR, ttoS_RS, ttoS_IR, tkoS_RS, tkoS_IR, tkeSW_RS, tkeSW_IR, tkeS_RS, tkeS_IR, resP_RS, resP_IR, rnuP_RS, rnuP_IR, reaP_RS, reaP_IR, rpaP_RS, rpaP_IR, up_a, up_b, up_c, pt_c, fl_c, cp_c]
  first | done | (unfold rpaP; first | done | with_reducible_and_instances rfl | ((repeat' split) <;> first | with_reducible_and_instances rfl | contradiction | exact absurd ‹(1 : Int32) = 0› (by decide) | exact absurd rfl ‹¬ (0 : Int32) = 0› | exact absurd rfl ‹¬ (1 : Int32) = 1› | (exfalso; rename_i h1 h2; exact h1 (by rw [h2]; exact Int32.le_refl _))))
end XCM
