section
section XCM
variable {sc : Nat × (Nat → Int32)} {d : Nat} {K : List KD} {r q t a B m : Nat} {w : EW}
/-! the reader: what holds of it between two steps -/
def IR (s : SG) : Prop := SZ s 44 ∧ RZ s 52
theorem RA_of {s t : SG} (h6 : t 43 6 = s 43 6) (h9 : t 43 9 = s 43 9) (h : RA s) : RA t := by
  unfold RA ln en at *
  rw [h6, h9]; exact h
theorem RS_of {s t : SG} (h6 : t 43 6 = s 43 6) (h8 : t 43 8 = s 43 8) (h9 : t 43 9 = s 43 9) (h : RS s) : RS t := by
  refine ⟨RA_of h6 h9 h.1, ?_⟩
  have h2 := h.2
  unfold st en at *
  rw [h8, h9]; exact h2
theorem IR_of {s t : SG} (h4 : t 44 0 = s 44 0) (h5 : t 52 0 = s 52 0) (h : IR s) : IR t := by
  unfold IR SZ sz RZ rz at *
  rw [h4, h5]; exact h
theorem RS_43 {s : SG} {j : Nat} {x : Int32} (h : (j == 6 || j == 8 || j == 9) = false) (hi : RS s) : RS (up s 43 j x) := by
  simp only [Bool.or_eq_false_iff] at h
  refine RS_of ?_ ?_ ?_ hi
  · exact up_b (by have := h.1.1; rw [BEq.comm]; exact this)
  · exact up_b (by have := h.1.2; rw [BEq.comm]; exact this)
  · exact up_b (by have := h.2; rw [BEq.comm]; exact this)
theorem RS_up {s : SG} {k j : Nat} {x : Int32} (h : (43 == k) = false) (hi : RS s) : RS (up s k j x) := RS_of (by rw [up_c h]) (by rw [up_c h]) (by rw [up_c h]) hi
theorem RS_pt {n : Nat} {s : SG} {k : Nat} {i x : Int32} (h : (43 == k) = false) (hi : RS s) : RS (pt n s k i x) := RS_of (by rw [pt_c h]) (by rw [pt_c h]) (by rw [pt_c h]) hi
theorem RS_fl {n : Nat} {s : SG} {k : Nat} {x : Int32} (h : (43 == k) = false) (hi : RS s) : RS (flS n s k x) := RS_of (by rw [fl_c h]) (by rw [fl_c h]) (by rw [fl_c h]) hi
theorem RS_cp {n : Nat} {s : SG} {u k : Nat} (h : (43 == k) = false) (hi : RS s) : RS (cpS n s u k) := RS_of (by rw [cp_c h]) (by rw [cp_c h]) (by rw [cp_c h]) hi
theorem IR_up {s : SG} {k j : Nat} {x : Int32} (h1 : (44 == k) = false) (h2 : (52 == k) = false) (hi : IR s) : IR (up s k j x) := IR_of (by rw [up_c h1]) (by rw [up_c h2]) hi
theorem IR_44 {s : SG} {j : Nat} {x : Int32} (h1 : (0 == j) = false) (hi : IR s) : IR (up s 44 j x) := IR_of (up_b h1) (by rw [up_c (by decide)]) hi
theorem IR_52 {s : SG} {j : Nat} {x : Int32} (h1 : (0 == j) = false) (hi : IR s) : IR (up s 52 j x) := IR_of (by rw [up_c (by decide)]) (up_b h1) hi
theorem IR_pt {n : Nat} {s : SG} {k : Nat} {i x : Int32} (h1 : (44 == k) = false) (h2 : (52 == k) = false) (hi : IR s) : IR (pt n s k i x) := IR_of (by rw [pt_c h1]) (by rw [pt_c h2]) hi
theorem IR_fl {n : Nat} {s : SG} {k : Nat} {x : Int32} (h1 : (44 == k) = false) (h2 : (52 == k) = false) (hi : IR s) : IR (flS n s k x) := IR_of (by rw [fl_c h1]) (by rw [fl_c h2]) hi
theorem IR_cp {n : Nat} {s : SG} {u k : Nat} (h1 : (44 == k) = false) (h2 : (52 == k) = false) (hi : IR s) : IR (cpS n s u k) := IR_of (by rw [cp_c h1]) (by rw [cp_c h2]) hi
theorem advS_IR {s : SG} (hi : IR s) : IR (advS s) := IR_of (by rw [advS_n (by decide)]) (by rw [advS_n (by decide)]) hi
theorem RS_adv {s : SG} (hi : RS s) : RS (advS s) := advS_RS hi.1
theorem c_advanceR {s : SG} (h : SH K) (rs : RS s) : xN sc (d + 2) 36 [.inr (.inr (.inl (some 43)))] (wl K s) = some (none, wl K (advS s)) := c_advance h rs.1
theorem advS_SZ {s : SG} {c : Nat} (hc : c + 8 ≤ 42) : SZ (advS s) c ↔ SZ s c := by unfold SZ sz; rw [advS_lo (Or.inl (by omega))]
theorem advS_sz {s : SG} {c : Nat} (hc : c + 8 ≤ 42) : sz (advS s) c = sz s c := by unfold sz; rw [advS_lo (Or.inl (by omega))]
theorem advS_RZ {s : SG} {c : Nat} (hc : c + 2 ≤ 42) : RZ (advS s) c ↔ RZ s c := by unfold RZ rz; rw [advS_lo (Or.inl (by omega))]
theorem advS_rz {s : SG} {c : Nat} (hc : c + 2 ≤ 42) : rz (advS s) c = rz s c := by unfold rz; rw [advS_lo (Or.inl (by omega))]
theorem admS_IR {s : SG} (hi : IR s) : IR (admS s) := by
  unfold admS
  split
  · exact hi
  · rename_i hc
    have h1 := hi.1
    have h2 := hi.2
    have e := h1.1
    have e2 := h1.2
    have hlt : sz s 44 < 6 := by
      rcases Nat.lt_or_ge (sz s 44) 6 with g | g
      · exact g
      · exfalso; apply hc; rw [e]
        have : sz s 44 = 6 := by omega
        rw [this]; decide
    refine ⟨?_, ?_⟩
    · have e3 : s 44 0 + 1 = nI (sz s 44 + 1) := by rw [nI_succ, ← e]
      unfold SZ sz
      simp (decide := true) only [up_a]
      rw [e3, nI_clamp (by omega)]
      exact ⟨rfl, by omega⟩
    · unfold RZ rz at *
      simp (decide := true) only [up_c, pt_c]
      exact h2
theorem adwSL_k : ∀ (n j : Nat) (s : SG) (x z : Int32), adwSL n j s x z 44 0 = s 44 0 ∧ adwSL n j s x z 52 0 = s 52 0 + 1 ∧ adwSL n j s x z 43 = s 43 := by
  intro n
  induction n with
  | zero =>
    intro j s x z
    rw [adwSL]
    simp (decide := true) only [up_a, up_c, and_self]
  | succ n ih =>
    intro j s x z
    rw [adwSL]
    have h := ih (j + 1)
    unfold stwS at *
    refine ⟨?_, ?_, ?_⟩
    · rw [(h _ _ _).1]; simp (decide := true) only [pt_c]
    · rw [(h _ _ _).2.1]; simp (decide := true) only [pt_c]
    · rw [(h _ _ _).2.2]; simp (decide := true) only [pt_c]
theorem adwS_IR {s : SG} {x y : Int32} (hi : IR s) : IR (adwS s x y) := by
  unfold adwS
  split
  · exact hi
  · rename_i hc
    have h2 := hi.2
    have e := h2.1
    have e2 := h2.2
    have hlt : rz s 52 < 40 := by
      rcases Nat.lt_or_ge (rz s 52) 40 with g | g
      · exact g
      · exfalso; apply hc; rw [e]
        have : rz s 52 = 40 := by omega
        rw [this]; decide
    have k := adwSL_k 4 1 (stwS s (s 52 0) 0 x) x y
    have k1 : stwS s (s 52 0) 0 x 52 0 = s 52 0 := by unfold stwS; rw [pt_c (by decide)]
    have k2 : stwS s (s 52 0) 0 x 44 0 = s 44 0 := by unfold stwS; rw [pt_c (by decide)]
    rw [k1, k2] at k
    refine ⟨?_, ?_⟩
    · have h1 := hi.1
      unfold SZ sz at *
      rw [k.1]; exact h1
    · have e3 : s 52 0 + 1 = nI (rz s 52 + 1) := by rw [nI_succ, ← e]
      unfold RZ rz
      rw [k.2.1, e3, nI_clamp (by omega)]
      exact ⟨rfl, by omega⟩
theorem adwS_RS {s : SG} {x y : Int32} (hi : RS s) : RS (adwS s x y) := by
  unfold adwS
  split
  · exact hi
  · have k := (adwSL_k 4 1 (stwS s (s 52 0) 0 x) x y).2.2
    have k1 : stwS s (s 52 0) 0 x 43 = s 43 := by unfold stwS; rw [pt_c (by decide)]
    rw [k1] at k
    exact RS_of (by rw [k]) (by rw [k]) (by rw [k]) hi
theorem clrS_RS {s : SG}  : RS s → RS ((clrS s)) := by
  intro hi
  unfold clrS
  first | done | first | exact hi | (simp (decide := true) (maxDischargeDepth := 40) only [RS_43, RS_up, RS_pt, RS_fl, RS_cp, RS_adv, adwS_RS, hi]; done) | ((repeat' split) <;> first | exact hi | (simp (decide := true) (maxDischargeDepth := 40) only [RS_43, RS_up, RS_pt, RS_fl, RS_cp, RS_adv, adwS_RS, hi]; done))
theorem clwS_RS {s : SG}  : RS s → RS ((clwS s)) := by
  intro hi
  unfold clwS
  first | done | first | exact hi | (simp (decide := true) (maxDischargeDepth := 40) only [RS_43, RS_up, RS_pt, RS_fl, RS_cp, RS_adv, adwS_RS, clrS_RS, hi]; done) | ((repeat' split) <;> first | exact hi | (simp (decide := true) (maxDischargeDepth := 40) only [RS_43, RS_up, RS_pt, RS_fl, RS_cp, RS_adv, adwS_RS, clrS_RS, hi]; done))
theorem admS_RS {s : SG}  : RS s → RS ((admS s)) := by
  intro hi
  unfold admS
  first | done | first | exact hi | (simp (decide := true) (maxDischargeDepth := 40) only [RS_43, RS_up, RS_pt, RS_fl, RS_cp, RS_adv, adwS_RS, clrS_RS, clwS_RS, hi]; done) | ((repeat' split) <;> first | exact hi | (simp (decide := true) (maxDischargeDepth := 40) only [RS_43, RS_up, RS_pt, RS_fl, RS_cp, RS_adv, adwS_RS, clrS_RS, clwS_RS, hi]; done))
theorem setNW_RS {s : SG} {y2 : Int32} {p : Int32}  : RS s → RS ((setNW s y2 p)) := by
  intro hi
  unfold setNW
  first | done | first | exact hi | (simp (decide := true) (maxDischargeDepth := 40) only [RS_43, RS_up, RS_pt, RS_fl, RS_cp, RS_adv, adwS_RS, clrS_RS, clwS_RS, admS_RS, hi]; done) | ((repeat' split) <;> first | exact hi | (simp (decide := true) (maxDischargeDepth := 40) only [RS_43, RS_up, RS_pt, RS_fl, RS_cp, RS_adv, adwS_RS, clrS_RS, clwS_RS, admS_RS, hi]; done))
theorem setNW_IR {s : SG} {y2 : Int32} {p : Int32}  : IR s → IR ((setNW s y2 p)) := by
  intro hi
  unfold setNW
  first | done | first | exact hi | (simp (decide := true) (maxDischargeDepth := 40) only [IR_up, IR_44, IR_52, IR_pt, IR_fl, IR_cp, advS_IR, admS_IR, adwS_IR, hi]; done) | ((repeat' split) <;> first | exact hi | (simp (decide := true) (maxDischargeDepth := 40) only [IR_up, IR_44, IR_52, IR_pt, IR_fl, IR_cp, advS_IR, admS_IR, adwS_IR, hi]; done))
theorem setN_RS {s : SG} {line : Int32} {x : Int32}  : RS s → RS ((setN s line x)) := by
  intro hi
  unfold setN
  first | done | first | exact hi | (simp (decide := true) (maxDischargeDepth := 40) only [RS_43, RS_up, RS_pt, RS_fl, RS_cp, RS_adv, adwS_RS, clrS_RS, clwS_RS, admS_RS, setNW_RS, hi]; done) | ((repeat' split) <;> first | exact hi | (simp (decide := true) (maxDischargeDepth := 40) only [RS_43, RS_up, RS_pt, RS_fl, RS_cp, RS_adv, adwS_RS, clrS_RS, clwS_RS, admS_RS, setNW_RS, hi]; done))
theorem setN_IR {s : SG} {line : Int32} {x : Int32}  : IR s → IR ((setN s line x)) := by
  intro hi
  unfold setN
  first | done | first | exact hi | (simp (decide := true) (maxDischargeDepth := 40) only [IR_up, IR_44, IR_52, IR_pt, IR_fl, IR_cp, advS_IR, admS_IR, adwS_IR, setNW_IR, hi]; done) | ((repeat' split) <;> first | exact hi | (simp (decide := true) (maxDischargeDepth := 40) only [IR_up, IR_44, IR_52, IR_pt, IR_fl, IR_cp, advS_IR, admS_IR, adwS_IR, setNW_IR, hi]; done))
theorem takSL_RS  : ∀ (n j : Nat) (s : SG) (y1 : Int32) (y3 : Int32) (y4 : Int32), RS s → RS ((takSL n j s y1 y3 y4)) := by
  intro n
  induction n with
  | zero =>
    intro j s y1 y3 y4 hi
    rw [takSL]
    first | done | first | exact hi | (simp (decide := true) (maxDischargeDepth := 40) only [RS_43, RS_up, RS_pt, RS_fl, RS_cp, RS_adv, adwS_RS, clrS_RS, clwS_RS, admS_RS, setNW_RS, setN_RS, hi]; done) | ((repeat' split) <;> first | exact hi | (simp (decide := true) (maxDischargeDepth := 40) only [RS_43, RS_up, RS_pt, RS_fl, RS_cp, RS_adv, adwS_RS, clrS_RS, clwS_RS, admS_RS, setNW_RS, setN_RS, hi]; done))
  | succ n ih =>
    intro j s y1 y3 y4 hi
    rw [takSL]
    first | done | first | exact hi | (exact ih _ _ _ _ _ hi) | (simp (decide := true) (maxDischargeDepth := 40) only [ih, RS_43, RS_up, RS_pt, RS_fl, RS_cp, RS_adv, adwS_RS, clrS_RS, clwS_RS, admS_RS, setNW_RS, setN_RS, hi]; done) | ((repeat' split) <;> first | exact hi | (exact ih _ _ _ _ _ hi) | (simp (decide := true) (maxDischargeDepth := 40) only [ih, RS_43, RS_up, RS_pt, RS_fl, RS_cp, RS_adv, adwS_RS, clrS_RS, clwS_RS, admS_RS, setNW_RS, setN_RS, hi]; done))
theorem takSL_IR  : ∀ (n j : Nat) (s : SG) (y1 : Int32) (y3 : Int32) (y4 : Int32), IR s → IR ((takSL n j s y1 y3 y4)) := by
  intro n
  induction n with
  | zero =>
    intro j s y1 y3 y4 hi
    rw [takSL]
    first | done | first | exact hi | (simp (decide := true) (maxDischargeDepth := 40) only [IR_up, IR_44, IR_52, IR_pt, IR_fl, IR_cp, advS_IR, admS_IR, adwS_IR, setNW_IR, setN_IR, hi]; done) | ((repeat' split) <;> first | exact hi | (simp (decide := true) (maxDischargeDepth := 40) only [IR_up, IR_44, IR_52, IR_pt, IR_fl, IR_cp, advS_IR, admS_IR, adwS_IR, setNW_IR, setN_IR, hi]; done))
  | succ n ih =>
    intro j s y1 y3 y4 hi
    rw [takSL]
    first | done | first | exact hi | (exact ih _ _ _ _ _ hi) | (simp (decide := true) (maxDischargeDepth := 40) only [ih, IR_up, IR_44, IR_52, IR_pt, IR_fl, IR_cp, advS_IR, admS_IR, adwS_IR, setNW_IR, setN_IR, hi]; done) | ((repeat' split) <;> first | exact hi | (exact ih _ _ _ _ _ hi) | (simp (decide := true) (maxDischargeDepth := 40) only [ih, IR_up, IR_44, IR_52, IR_pt, IR_fl, IR_cp, advS_IR, admS_IR, adwS_IR, setNW_IR, setN_IR, hi]; done))
theorem takSW_RS {s : SG} {y1 : Int32} {y3 : Int32} {y4 : Int32} {p : Int32}  : RS s → RS ((takSW s y1 y3 y4 p)) := by
  intro hi
  unfold takSW
  first | done | first | exact hi | (simp (decide := true) (maxDischargeDepth := 40) only [RS_43, RS_up, RS_pt, RS_fl, RS_cp, RS_adv, adwS_RS, clrS_RS, clwS_RS, admS_RS, setNW_RS, setN_RS, takSL_RS, hi]; done) | ((repeat' split) <;> first | exact hi | (simp (decide := true) (maxDischargeDepth := 40) only [RS_43, RS_up, RS_pt, RS_fl, RS_cp, RS_adv, adwS_RS, clrS_RS, clwS_RS, admS_RS, setNW_RS, setN_RS, takSL_RS, hi]; done))
theorem takSW_IR {s : SG} {y1 : Int32} {y3 : Int32} {y4 : Int32} {p : Int32}  : IR s → IR ((takSW s y1 y3 y4 p)) := by
  intro hi
  unfold takSW
  first | done | first | exact hi | (simp (decide := true) (maxDischargeDepth := 40) only [IR_up, IR_44, IR_52, IR_pt, IR_fl, IR_cp, advS_IR, admS_IR, adwS_IR, setNW_IR, setN_IR, takSL_IR, hi]; done) | ((repeat' split) <;> first | exact hi | (simp (decide := true) (maxDischargeDepth := 40) only [IR_up, IR_44, IR_52, IR_pt, IR_fl, IR_cp, advS_IR, admS_IR, adwS_IR, setNW_IR, setN_IR, takSL_IR, hi]; done))
theorem takS_RS {s : SG} {line : Int32}  : RS s → RS ((takS s line)) := by
  intro hi
  unfold takS
  first | done | first | exact hi | (simp (decide := true) (maxDischargeDepth := 40) only [RS_43, RS_up, RS_pt, RS_fl, RS_cp, RS_adv, adwS_RS, clrS_RS, clwS_RS, admS_RS, setNW_RS, setN_RS, takSL_RS, takSW_RS, hi]; done) | ((repeat' split) <;> first | exact hi | (simp (decide := true) (maxDischargeDepth := 40) only [RS_43, RS_up, RS_pt, RS_fl, RS_cp, RS_adv, adwS_RS, clrS_RS, clwS_RS, admS_RS, setNW_RS, setN_RS, takSL_RS, takSW_RS, hi]; done))
theorem takS_IR {s : SG} {line : Int32}  : IR s → IR ((takS s line)) := by
  intro hi
  unfold takS
  first | done | first | exact hi | (simp (decide := true) (maxDischargeDepth := 40) only [IR_up, IR_44, IR_52, IR_pt, IR_fl, IR_cp, advS_IR, admS_IR, adwS_IR, setNW_IR, setN_IR, takSL_IR, takSW_IR, hi]; done) | ((repeat' split) <;> first | exact hi | (simp (decide := true) (maxDischargeDepth := 40) only [IR_up, IR_44, IR_52, IR_pt, IR_fl, IR_cp, advS_IR, admS_IR, adwS_IR, setNW_IR, setN_IR, takSL_IR, takSW_IR, hi]; done))
theorem stwS_RS {s : SG} {x : Int32} {y : Int32} {z : Int32}  : RS s → RS ((stwS s x y z)) := by
  intro hi
  unfold stwS
  first | done | first | exact hi | (simp (decide := true) (maxDischargeDepth := 40) only [RS_43, RS_up, RS_pt, RS_fl, RS_cp, RS_adv, adwS_RS, clrS_RS, clwS_RS, admS_RS, setNW_RS, setN_RS, takSL_RS, takSW_RS, takS_RS, hi]; done) | ((repeat' split) <;> first | exact hi | (simp (decide := true) (maxDischargeDepth := 40) only [RS_43, RS_up, RS_pt, RS_fl, RS_cp, RS_adv, adwS_RS, clrS_RS, clwS_RS, admS_RS, setNW_RS, setN_RS, takSL_RS, takSW_RS, takS_RS, hi]; done))
theorem stwS_IR {s : SG} {x : Int32} {y : Int32} {z : Int32}  : IR s → IR ((stwS s x y z)) := by
  intro hi
  unfold stwS
  first | done | first | exact hi | (simp (decide := true) (maxDischargeDepth := 40) only [IR_up, IR_44, IR_52, IR_pt, IR_fl, IR_cp, advS_IR, admS_IR, adwS_IR, setNW_IR, setN_IR, takSL_IR, takSW_IR, takS_IR, hi]; done) | ((repeat' split) <;> first | exact hi | (simp (decide := true) (maxDischargeDepth := 40) only [IR_up, IR_44, IR_52, IR_pt, IR_fl, IR_cp, advS_IR, admS_IR, adwS_IR, setNW_IR, setN_IR, takSL_IR, takSW_IR, takS_IR, hi]; done))
theorem notS_RS {s : SG} {x : Int32} {y : Int32}  : RS s → RS ((notS s x y)) := by
  intro hi
  unfold notS
  first | done | first | exact hi | (simp (decide := true) (maxDischargeDepth := 40) only [RS_43, RS_up, RS_pt, RS_fl, RS_cp, RS_adv, adwS_RS, clrS_RS, clwS_RS, admS_RS, setNW_RS, setN_RS, takSL_RS, takSW_RS, takS_RS, stwS_RS, hi]; done) | ((repeat' split) <;> first | exact hi | (simp (decide := true) (maxDischargeDepth := 40) only [RS_43, RS_up, RS_pt, RS_fl, RS_cp, RS_adv, adwS_RS, clrS_RS, clwS_RS, admS_RS, setNW_RS, setN_RS, takSL_RS, takSW_RS, takS_RS, stwS_RS, hi]; done))
theorem notS_IR {s : SG} {x : Int32} {y : Int32}  : IR s → IR ((notS s x y)) := by
  intro hi
  unfold notS
  first | done | first | exact hi | (simp (decide := true) (maxDischargeDepth := 40) only [IR_up, IR_44, IR_52, IR_pt, IR_fl, IR_cp, advS_IR, admS_IR, adwS_IR, setNW_IR, setN_IR, takSL_IR, takSW_IR, takS_IR, stwS_IR, hi]; done) | ((repeat' split) <;> first | exact hi | (simp (decide := true) (maxDischargeDepth := 40) only [IR_up, IR_44, IR_52, IR_pt, IR_fl, IR_cp, advS_IR, admS_IR, adwS_IR, setNW_IR, setN_IR, takSL_IR, takSW_IR, takS_IR, stwS_IR, hi]; done))
theorem refP_RS {s : SG}  : RS s → RS ((refP s).2) := by
  intro hi
  unfold refP
  first | done | first | exact hi | (simp (decide := true) (maxDischargeDepth := 40) only [RS_43, RS_up, RS_pt, RS_fl, RS_cp, RS_adv, adwS_RS, clrS_RS, clwS_RS, admS_RS, setNW_RS, setN_RS, takSL_RS, takSW_RS, takS_RS, stwS_RS, notS_RS, hi]; done) | ((repeat' split) <;> first | exact hi | (simp (decide := true) (maxDischargeDepth := 40) only [RS_43, RS_up, RS_pt, RS_fl, RS_cp, RS_adv, adwS_RS, clrS_RS, clwS_RS, admS_RS, setNW_RS, setN_RS, takSL_RS, takSW_RS, takS_RS, stwS_RS, notS_RS, hi]; done))
theorem refP_IR {s : SG}  : IR s → IR ((refP s).2) := by
  intro hi
  unfold refP
  first | done | first | exact hi | (simp (decide := true) (maxDischargeDepth := 40) only [IR_up, IR_44, IR_52, IR_pt, IR_fl, IR_cp, advS_IR, admS_IR, adwS_IR, setNW_IR, setN_IR, takSL_IR, takSW_IR, takS_IR, stwS_IR, notS_IR, hi]; done) | ((repeat' split) <;> first | exact hi | (simp (decide := true) (maxDischargeDepth := 40) only [IR_up, IR_44, IR_52, IR_pt, IR_fl, IR_cp, advS_IR, admS_IR, adwS_IR, setNW_IR, setN_IR, takSL_IR, takSW_IR, takS_IR, stwS_IR, notS_IR, hi]; done))
theorem couS_RS {s : SG} {so : Int32} {line : Int32}  : RS s → RS ((couS s so line)) := by
  intro hi
  unfold couS
  first | done | first | exact hi | (simp (decide := true) (maxDischargeDepth := 40) only [RS_43, RS_up, RS_pt, RS_fl, RS_cp, RS_adv, adwS_RS, clrS_RS, clwS_RS, admS_RS, setNW_RS, setN_RS, takSL_RS, takSW_RS, takS_RS, stwS_RS, notS_RS, refP_RS, hi]; done) | ((repeat' split) <;> first | exact hi | (simp (decide := true) (maxDischargeDepth := 40) only [RS_43, RS_up, RS_pt, RS_fl, RS_cp, RS_adv, adwS_RS, clrS_RS, clwS_RS, admS_RS, setNW_RS, setN_RS, takSL_RS, takSW_RS, takS_RS, stwS_RS, notS_RS, refP_RS, hi]; done))
theorem couS_IR {s : SG} {so : Int32} {line : Int32}  : IR s → IR ((couS s so line)) := by
  intro hi
  unfold couS
  first | done | first | exact hi | (simp (decide := true) (maxDischargeDepth := 40) only [IR_up, IR_44, IR_52, IR_pt, IR_fl, IR_cp, advS_IR, admS_IR, adwS_IR, setNW_IR, setN_IR, takSL_IR, takSW_IR, takS_IR, stwS_IR, notS_IR, refP_IR, hi]; done) | ((repeat' split) <;> first | exact hi | (simp (decide := true) (maxDischargeDepth := 40) only [IR_up, IR_44, IR_52, IR_pt, IR_fl, IR_cp, advS_IR, admS_IR, adwS_IR, setNW_IR, setN_IR, takSL_IR, takSW_IR, takS_IR, stwS_IR, notS_IR, refP_IR, hi]; done))
theorem ttoS_RS {s : SG} {line : Int32}  : RS s → RS ((ttoS s line)) := by
  intro hi
  unfold ttoS
  first | done | first | exact hi | (simp (decide := true) (maxDischargeDepth := 40) only [RS_43, RS_up, RS_pt, RS_fl, RS_cp, RS_adv, adwS_RS, clrS_RS, clwS_RS, admS_RS, setNW_RS, setN_RS, takSL_RS, takSW_RS, takS_RS, stwS_RS, notS_RS, refP_RS, couS_RS, hi]; done) | ((repeat' split) <;> first | exact hi | (simp (decide := true) (maxDischargeDepth := 40) only [RS_43, RS_up, RS_pt, RS_fl, RS_cp, RS_adv, adwS_RS, clrS_RS, clwS_RS, admS_RS, setNW_RS, setN_RS, takSL_RS, takSW_RS, takS_RS, stwS_RS, notS_RS, refP_RS, couS_RS, hi]; done))
theorem ttoS_IR {s : SG} {line : Int32}  : IR s → IR ((ttoS s line)) := by
  intro hi
  unfold ttoS
  first | done | first | exact hi | (simp (decide := true) (maxDischargeDepth := 40) only [IR_up, IR_44, IR_52, IR_pt, IR_fl, IR_cp, advS_IR, admS_IR, adwS_IR, setNW_IR, setN_IR, takSL_IR, takSW_IR, takS_IR, stwS_IR, notS_IR, refP_IR, couS_IR, hi]; done) | ((repeat' split) <;> first | exact hi | (simp (decide := true) (maxDischargeDepth := 40) only [IR_up, IR_44, IR_52, IR_pt, IR_fl, IR_cp, advS_IR, admS_IR, adwS_IR, setNW_IR, setN_IR, takSL_IR, takSW_IR, takS_IR, stwS_IR, notS_IR, refP_IR, couS_IR, hi]; done))
theorem tkoS_RS {s : SG} {line : Int32}  : RS s → RS ((tkoS s line)) := by
  intro hi
  unfold tkoS
  first | done | first | exact hi | (simp (decide := true) (maxDischargeDepth := 40) only [RS_43, RS_up, RS_pt, RS_fl, RS_cp, RS_adv, adwS_RS, clrS_RS, clwS_RS, admS_RS, setNW_RS, setN_RS, takSL_RS, takSW_RS, takS_RS, stwS_RS, notS_RS, refP_RS, couS_RS, ttoS_RS, hi]; done) | ((repeat' split) <;> first | exact hi | (simp (decide := true) (maxDischargeDepth := 40) only [RS_43, RS_up, RS_pt, RS_fl, RS_cp, RS_adv, adwS_RS, clrS_RS, clwS_RS, admS_RS, setNW_RS, setN_RS, takSL_RS, takSW_RS, takS_RS, stwS_RS, notS_RS, refP_RS, couS_RS, ttoS_RS, hi]; done))
theorem tkoS_IR {s : SG} {line : Int32}  : IR s → IR ((tkoS s line)) := by
  intro hi
  unfold tkoS
  first | done | first | exact hi | (simp (decide := true) (maxDischargeDepth := 40) only [IR_up, IR_44, IR_52, IR_pt, IR_fl, IR_cp, advS_IR, admS_IR, adwS_IR, setNW_IR, setN_IR, takSL_IR, takSW_IR, takS_IR, stwS_IR, notS_IR, refP_IR, couS_IR, ttoS_IR, hi]; done) | ((repeat' split) <;> first | exact hi | (simp (decide := true) (maxDischargeDepth := 40) only [IR_up, IR_44, IR_52, IR_pt, IR_fl, IR_cp, advS_IR, admS_IR, adwS_IR, setNW_IR, setN_IR, takSL_IR, takSW_IR, takS_IR, stwS_IR, notS_IR, refP_IR, couS_IR, ttoS_IR, hi]; done))
theorem tkeSW_RS {s : SG} {y2 : Int32} {p : Int32}  : RS s → RS ((tkeSW s y2 p)) := by
  intro hi
  unfold tkeSW
  first | done | first | exact hi | (simp (decide := true) (maxDischargeDepth := 40) only [RS_43, RS_up, RS_pt, RS_fl, RS_cp, RS_adv, adwS_RS, clrS_RS, clwS_RS, admS_RS, setNW_RS, setN_RS, takSL_RS, takSW_RS, takS_RS, stwS_RS, notS_RS, refP_RS, couS_RS, ttoS_RS, tkoS_RS, hi]; done) | ((repeat' split) <;> first | exact hi | (simp (decide := true) (maxDischargeDepth := 40) only [RS_43, RS_up, RS_pt, RS_fl, RS_cp, RS_adv, adwS_RS, clrS_RS, clwS_RS, admS_RS, setNW_RS, setN_RS, takSL_RS, takSW_RS, takS_RS, stwS_RS, notS_RS, refP_RS, couS_RS, ttoS_RS, tkoS_RS, hi]; done))
theorem tkeSW_IR {s : SG} {y2 : Int32} {p : Int32}  : IR s → IR ((tkeSW s y2 p)) := by
  intro hi
  unfold tkeSW
  first | done | first | exact hi | (simp (decide := true) (maxDischargeDepth := 40) only [IR_up, IR_44, IR_52, IR_pt, IR_fl, IR_cp, advS_IR, admS_IR, adwS_IR, setNW_IR, setN_IR, takSL_IR, takSW_IR, takS_IR, stwS_IR, notS_IR, refP_IR, couS_IR, ttoS_IR, tkoS_IR, hi]; done) | ((repeat' split) <;> first | exact hi | (simp (decide := true) (maxDischargeDepth := 40) only [IR_up, IR_44, IR_52, IR_pt, IR_fl, IR_cp, advS_IR, admS_IR, adwS_IR, setNW_IR, setN_IR, takSL_IR, takSW_IR, takS_IR, stwS_IR, notS_IR, refP_IR, couS_IR, ttoS_IR, tkoS_IR, hi]; done))
theorem tkeS_RS {s : SG} {so : Int32} {line : Int32}  : RS s → RS ((tkeS s so line)) := by
  intro hi
  unfold tkeS
  first | done | first | exact hi | (simp (decide := true) (maxDischargeDepth := 40) only [RS_43, RS_up, RS_pt, RS_fl, RS_cp, RS_adv, adwS_RS, clrS_RS, clwS_RS, admS_RS, setNW_RS, setN_RS, takSL_RS, takSW_RS, takS_RS, stwS_RS, notS_RS, refP_RS, couS_RS, ttoS_RS, tkoS_RS, tkeSW_RS, hi]; done) | ((repeat' split) <;> first | exact hi | (simp (decide := true) (maxDischargeDepth := 40) only [RS_43, RS_up, RS_pt, RS_fl, RS_cp, RS_adv, adwS_RS, clrS_RS, clwS_RS, admS_RS, setNW_RS, setN_RS, takSL_RS, takSW_RS, takS_RS, stwS_RS, notS_RS, refP_RS, couS_RS, ttoS_RS, tkoS_RS, tkeSW_RS, hi]; done))
theorem tkeS_IR {s : SG} {so : Int32} {line : Int32}  : IR s → IR ((tkeS s so line)) := by
  intro hi
  unfold tkeS
  first | done | first | exact hi | (simp (decide := true) (maxDischargeDepth := 40) only [IR_up, IR_44, IR_52, IR_pt, IR_fl, IR_cp, advS_IR, admS_IR, adwS_IR, setNW_IR, setN_IR, takSL_IR, takSW_IR, takS_IR, stwS_IR, notS_IR, refP_IR, couS_IR, ttoS_IR, tkoS_IR, tkeSW_IR, hi]; done) | ((repeat' split) <;> first | exact hi | (simp (decide := true) (maxDischargeDepth := 40) only [IR_up, IR_44, IR_52, IR_pt, IR_fl, IR_cp, advS_IR, admS_IR, adwS_IR, setNW_IR, setN_IR, takSL_IR, takSW_IR, takS_IR, stwS_IR, notS_IR, refP_IR, couS_IR, ttoS_IR, tkoS_IR, tkeSW_IR, hi]; done))
theorem c_chosen16 {s : SG} (h : SH K) : xN sc (d + 6) 33 [.inr (.inr (.inl (some 43))), .inr (.inr (.inr 16))] (wl K s) = some (some (.inl (choI s 13)), wl K s) := c_chosen (z := 13) h (by decide)
def resP (s : SG) : Int32 × SG := if (s 43 7) = 3 then (1, advS s) else (0, s)
theorem resP_rt {s : SG} : xrt 4 (resP s).1 = true := by
  unfold resP
  first | done | first | with_reducible_and_instances rfl | simp only [hasI_rt, minI_rt, isaI_rt, issI_rt, pasI_rt, arsI_rt, canI7_rt, canI0_rt, islIL_rt, islI_rt, isbIW_rt, isbI_rt, isrIL_rt, isrI_rt, tofP_rt, disP_rt, recP_rt, hapPW_rt, hapP_rt, iagP_rt, iag0_rt, isfIL_rt, isfI_rt, artIL_rt, artI_rt, isb_I_rt, isl_I_rt, isd_I_rt, refP_rt, xr40, xr41] | ((repeat' split) <;> first | with_reducible_and_instances rfl | simp only [hasI_rt, minI_rt, isaI_rt, issI_rt, pasI_rt, arsI_rt, canI7_rt, canI0_rt, islIL_rt, islI_rt, isbIW_rt, isbI_rt, isrIL_rt, isrI_rt, tofP_rt, disP_rt, recP_rt, hapPW_rt, hapP_rt, iagP_rt, iag0_rt, isfIL_rt, isfI_rt, artIL_rt, artI_rt, isb_I_rt, isl_I_rt, isd_I_rt, refP_rt, xr40, xr41])
theorem resP_lo {s : SG}  {c : Nat} (ha : c < 42 ∨ 64 ≤ c) : (resP s).2 c = s c := by
  unfold resP
  first | done | rfl | (simp (decide := true) (maxDischargeDepth := 40) only [up_lo2 ha, pt_lo2 ha, fl_lo2 ha, cp_lo2 ha, setS7_lo ha, setS0_lo ha, briS7_lo ha, briS0_lo ha, tofP_lo ha, disP_lo ha, recP_lo ha, beaS_lo ha, rcdS_lo ha, comS_lo ha, decSL_lo ha, decS_lo ha, opeS_lo ha, hapPW_lo ha, hapP_lo ha, runPL_lo ha, runP_lo ha, dbeP_lo ha, drmS_lo ha, draSL_lo ha, draS_lo ha, stoPd_lo ha, iagP_lo ha, iag0_lo ha, magPL_lo ha, magP_lo ha, bagPL_lo ha, bagP_lo ha, magP0L_lo ha, magP0_lo ha, bagP0L_lo ha, bagP0_lo ha, agdbW_lo ha, agdb_lo ha, agdcW_lo ha, agdc_lo ha, fiwPL_lo ha, fiwP_lo ha, menPL_lo ha, menP_lo ha, natPc_lo ha, ffiPL_lo ha, ffiP_lo ha, unlPL_lo ha, unlP_lo ha, telPL_lo ha, telP_lo ha, drwP_lo ha, staP_lo ha, seaPW_lo ha, seaP_lo ha, clrS_lo ha, clwS_lo ha, admS_lo ha, setNW_lo ha, setN_lo ha, takSL_lo ha, takSW_lo ha, takS_lo ha, stwS_lo ha, adwSL_lo ha, adwS_lo ha, notS_lo ha, refP_lo ha, couS_lo ha, ttoS_lo ha, tkoS_lo ha, tkeSW_lo ha, tkeS_lo ha, advS_lo ha]; done) | ((repeat' split) <;> first | rfl | (simp (decide := true) (maxDischargeDepth := 40) only [up_lo2 ha, pt_lo2 ha, fl_lo2 ha, cp_lo2 ha, setS7_lo ha, setS0_lo ha, briS7_lo ha, briS0_lo ha, tofP_lo ha, disP_lo ha, recP_lo ha, beaS_lo ha, rcdS_lo ha, comS_lo ha, decSL_lo ha, decS_lo ha, opeS_lo ha, hapPW_lo ha, hapP_lo ha, runPL_lo ha, runP_lo ha, dbeP_lo ha, drmS_lo ha, draSL_lo ha, draS_lo ha, stoPd_lo ha, iagP_lo ha, iag0_lo ha, magPL_lo ha, magP_lo ha, bagPL_lo ha, bagP_lo ha, magP0L_lo ha, magP0_lo ha, bagP0L_lo ha, bagP0_lo ha, agdbW_lo ha, agdb_lo ha, agdcW_lo ha, agdc_lo ha, fiwPL_lo ha, fiwP_lo ha, menPL_lo ha, menP_lo ha, natPc_lo ha, ffiPL_lo ha, ffiP_lo ha, unlPL_lo ha, unlP_lo ha, telPL_lo ha, telP_lo ha, drwP_lo ha, staP_lo ha, seaPW_lo ha, seaP_lo ha, clrS_lo ha, clwS_lo ha, admS_lo ha, setNW_lo ha, setN_lo ha, takSL_lo ha, takSW_lo ha, takS_lo ha, stwS_lo ha, adwSL_lo ha, adwS_lo ha, notS_lo ha, refP_lo ha, couS_lo ha, ttoS_lo ha, tkoS_lo ha, tkeSW_lo ha, tkeS_lo ha, advS_lo ha]; done))
theorem resP_SZ {s : SG}  {c : Nat} (hc : c + 8 ≤ 42) : SZ ((resP s).2) c ↔ SZ s c := by unfold SZ sz; rw [resP_lo (Or.inl (by omega))]
theorem resP_sz {s : SG}  {c : Nat} (hc : c + 8 ≤ 42) : sz ((resP s).2) c = sz s c := by unfold sz; rw [resP_lo (Or.inl (by omega))]
theorem resP_RZ {s : SG}  {c : Nat} (hc : c + 2 ≤ 42) : RZ ((resP s).2) c ↔ RZ s c := by unfold RZ rz; rw [resP_lo (Or.inl (by omega))]
theorem resP_rz {s : SG}  {c : Nat} (hc : c + 2 ≤ 42) : rz ((resP s).2) c = rz s c := by unfold rz; rw [resP_lo (Or.inl (by omega))]
theorem resP_RS {s : SG}  : RS s → RS ((resP s).2) := by
  intro hi
  unfold resP
  first | done | first | exact hi | (simp (decide := true) (maxDischargeDepth := 40) only [RS_43, RS_up, RS_pt, RS_fl, RS_cp, RS_adv, adwS_RS, clrS_RS, clwS_RS, admS_RS, setNW_RS, setN_RS, takSL_RS, takSW_RS, takS_RS, stwS_RS, notS_RS, refP_RS, couS_RS, ttoS_RS, tkoS_RS, tkeSW_RS, tkeS_RS, hi]; done) | ((repeat' split) <;> first | exact hi | (simp (decide := true) (maxDischargeDepth := 40) only [RS_43, RS_up, RS_pt, RS_fl, RS_cp, RS_adv, adwS_RS, clrS_RS, clwS_RS, admS_RS, setNW_RS, setN_RS, takSL_RS, takSW_RS, takS_RS, stwS_RS, notS_RS, refP_RS, couS_RS, ttoS_RS, tkoS_RS, tkeSW_RS, tkeS_RS, hi]; done))
theorem resP_IR {s : SG}  : IR s → IR ((resP s).2) := by
  intro hi
  unfold resP
  first | done | first | exact hi | (simp (decide := true) (maxDischargeDepth := 40) only [IR_up, IR_44, IR_52, IR_pt, IR_fl, IR_cp, advS_IR, admS_IR, adwS_IR, setNW_IR, setN_IR, takSL_IR, takSW_IR, takS_IR, stwS_IR, notS_IR, refP_IR, couS_IR, ttoS_IR, tkoS_IR, tkeSW_IR, tkeS_IR, hi]; done) | ((repeat' split) <;> first | exact hi | (simp (decide := true) (maxDischargeDepth := 40) only [IR_up, IR_44, IR_52, IR_pt, IR_fl, IR_cp, advS_IR, admS_IR, adwS_IR, setNW_IR, setN_IR, takSL_IR, takSW_IR, takS_IR, stwS_IR, notS_IR, refP_IR, couS_IR, ttoS_IR, tkoS_IR, tkeSW_IR, tkeS_IR, hi]; done))
theorem c_readSemicolon {s : SG}  (h : SH K) (rs : RS s) : xN sc (d + 3) 26 [.inr (.inr (.inl (some 43)))] (wl K s) = some (some (.inl (resP s).1), wl K (resP s).2) := by
  rw [mX1_readSemicolon]
  simp (decide := true) (maxDischargeDepth := 40) only [uX1_readSemicolon_0, uX1_readSemicolon_8, uX1_readSemicolon_10, qX1_readSemicolon_0, qX1_readSemicolon_8, qX1_readSemicolon_10, jX1_readSemicolon_8_10, c43_g7 h, bd_eq, c43_v h, cond_true, c_advanceR h, xcv_eq, rs, RS_43, RS_up, RS_pt, RS_fl, RS_cp, IR_up, IR_44, IR_52, IR_pt, IR_fl, IR_cp, advS_IR, RS_adv, admS_IR, adwS_IR, adwS_RS, clrS_RS, clwS_RS, admS_RS, setNW_RS, setNW_IR, setN_RS, setN_IR, takSL_RS, takSL_IR, takSW_RS, takSW_IR, takS_RS, takS_IR, stwS_RS, stwS_IR, notS_RS, notS_IR, refP_RS, refP_IR, couS_RS, couS_IR, ttoS_RS, ttoS_IR, tkoS_RS, tkoS_IR, tkeSW_RS, tkeSW_IR, tkeS_RS, tkeS_IR, resP_RS, resP_IR, up_a, up_b, up_c, pt_c, fl_c, cp_c]
  first | done | (unfold resP; first | done | with_reducible_and_instances rfl | ((repeat' split) <;> first | with_reducible_and_instances rfl | contradiction | exact absurd ‹(1 : Int32) = 0› (by decide) | exact absurd rfl ‹¬ (0 : Int32) = 0› | exact absurd rfl ‹¬ (1 : Int32) = 1› | (exfalso; rename_i h1 h2; exact h1 (by rw [h2]; exact Int32.le_refl _))))
def rnuP (s : SG) (f : Int32) (part : Int32) (x3 : Int32) : Int32 × SG := if f = 102 then (if x3 = (cl 5 (s 55) 0) then (if x3 < (leaO f) then (1, advS (pt 5 (notS s 2 (s 43 8)) 55 part x3)) else if (mosO f) < x3 then (1, advS (pt 5 (notS s 2 (s 43 8)) 55 part x3)) else (1, advS (pt 5 (notS s 2 (s 43 8)) 55 part x3))) else if x3 < (leaO f) then (1, advS (pt 5 (notS s 2 (s 43 8)) 55 part x3)) else if (mosO f) < x3 then (1, advS (pt 5 (notS s 2 (s 43 8)) 55 part x3)) else (1, advS (pt 5 s 55 part x3))) else if x3 < (leaO f) then (1, advS (pt 5 (notS s 2 (s 43 8)) 55 part x3)) else if (mosO f) < x3 then (1, advS (pt 5 (notS s 2 (s 43 8)) 55 part x3)) else (1, advS (pt 5 s 55 part x3))
theorem rnuP_lo {s : SG} {f : Int32} {part : Int32} {x3 : Int32}  {c : Nat} (ha : c < 42 ∨ 64 ≤ c) : (rnuP s f part x3).2 c = s c := by
  unfold rnuP
  first | done | rfl | (simp (decide := true) (maxDischargeDepth := 40) only [up_lo2 ha, pt_lo2 ha, fl_lo2 ha, cp_lo2 ha, setS7_lo ha, setS0_lo ha, briS7_lo ha, briS0_lo ha, tofP_lo ha, disP_lo ha, recP_lo ha, beaS_lo ha, rcdS_lo ha, comS_lo ha, decSL_lo ha, decS_lo ha, opeS_lo ha, hapPW_lo ha, hapP_lo ha, runPL_lo ha, runP_lo ha, dbeP_lo ha, drmS_lo ha, draSL_lo ha, draS_lo ha, stoPd_lo ha, iagP_lo ha, iag0_lo ha, magPL_lo ha, magP_lo ha, bagPL_lo ha, bagP_lo ha, magP0L_lo ha, magP0_lo ha, bagP0L_lo ha, bagP0_lo ha, agdbW_lo ha, agdb_lo ha, agdcW_lo ha, agdc_lo ha, fiwPL_lo ha, fiwP_lo ha, menPL_lo ha, menP_lo ha, natPc_lo ha, ffiPL_lo ha, ffiP_lo ha, unlPL_lo ha, unlP_lo ha, telPL_lo ha, telP_lo ha, drwP_lo ha, staP_lo ha, seaPW_lo ha, seaP_lo ha, clrS_lo ha, clwS_lo ha, admS_lo ha, setNW_lo ha, setN_lo ha, takSL_lo ha, takSW_lo ha, takS_lo ha, stwS_lo ha, adwSL_lo ha, adwS_lo ha, notS_lo ha, refP_lo ha, couS_lo ha, ttoS_lo ha, tkoS_lo ha, tkeSW_lo ha, tkeS_lo ha, advS_lo ha, resP_lo ha]; done) | ((repeat' split) <;> first | rfl | (simp (decide := true) (maxDischargeDepth := 40) only [up_lo2 ha, pt_lo2 ha, fl_lo2 ha, cp_lo2 ha, setS7_lo ha, setS0_lo ha, briS7_lo ha, briS0_lo ha, tofP_lo ha, disP_lo ha, recP_lo ha, beaS_lo ha, rcdS_lo ha, comS_lo ha, decSL_lo ha, decS_lo ha, opeS_lo ha, hapPW_lo ha, hapP_lo ha, runPL_lo ha, runP_lo ha, dbeP_lo ha, drmS_lo ha, draSL_lo ha, draS_lo ha, stoPd_lo ha, iagP_lo ha, iag0_lo ha, magPL_lo ha, magP_lo ha, bagPL_lo ha, bagP_lo ha, magP0L_lo ha, magP0_lo ha, bagP0L_lo ha, bagP0_lo ha, agdbW_lo ha, agdb_lo ha, agdcW_lo ha, agdc_lo ha, fiwPL_lo ha, fiwP_lo ha, menPL_lo ha, menP_lo ha, natPc_lo ha, ffiPL_lo ha, ffiP_lo ha, unlPL_lo ha, unlP_lo ha, telPL_lo ha, telP_lo ha, drwP_lo ha, staP_lo ha, seaPW_lo ha, seaP_lo ha, clrS_lo ha, clwS_lo ha, admS_lo ha, setNW_lo ha, setN_lo ha, takSL_lo ha, takSW_lo ha, takS_lo ha, stwS_lo ha, adwSL_lo ha, adwS_lo ha, notS_lo ha, refP_lo ha, couS_lo ha, ttoS_lo ha, tkoS_lo ha, tkeSW_lo ha, tkeS_lo ha, advS_lo ha, resP_lo ha]; done))
theorem rnuP_SZ {s : SG} {f : Int32} {part : Int32} {x3 : Int32}  {c : Nat} (hc : c + 8 ≤ 42) : SZ ((rnuP s f part x3).2) c ↔ SZ s c := by unfold SZ sz; rw [rnuP_lo (Or.inl (by omega))]
theorem rnuP_sz {s : SG} {f : Int32} {part : Int32} {x3 : Int32}  {c : Nat} (hc : c + 8 ≤ 42) : sz ((rnuP s f part x3).2) c = sz s c := by unfold sz; rw [rnuP_lo (Or.inl (by omega))]
theorem rnuP_RZ {s : SG} {f : Int32} {part : Int32} {x3 : Int32}  {c : Nat} (hc : c + 2 ≤ 42) : RZ ((rnuP s f part x3).2) c ↔ RZ s c := by unfold RZ rz; rw [rnuP_lo (Or.inl (by omega))]
theorem rnuP_rz {s : SG} {f : Int32} {part : Int32} {x3 : Int32}  {c : Nat} (hc : c + 2 ≤ 42) : rz ((rnuP s f part x3).2) c = rz s c := by unfold rz; rw [rnuP_lo (Or.inl (by omega))]
theorem rnuP_RS {s : SG} {f : Int32} {part : Int32} {x3 : Int32}  : RS s → RS ((rnuP s f part x3).2) := by
  intro hi
  unfold rnuP
  first | done | first | exact hi | (simp (decide := true) (maxDischargeDepth := 40) only [RS_43, RS_up, RS_pt, RS_fl, RS_cp, RS_adv, adwS_RS, clrS_RS, clwS_RS, admS_RS, setNW_RS, setN_RS, takSL_RS, takSW_RS, takS_RS, stwS_RS, notS_RS, refP_RS, couS_RS, ttoS_RS, tkoS_RS, tkeSW_RS, tkeS_RS, resP_RS, hi]; done) | ((repeat' split) <;> first | exact hi | (simp (decide := true) (maxDischargeDepth := 40) only [RS_43, RS_up, RS_pt, RS_fl, RS_cp, RS_adv, adwS_RS, clrS_RS, clwS_RS, admS_RS, setNW_RS, setN_RS, takSL_RS, takSW_RS, takS_RS, stwS_RS, notS_RS, refP_RS, couS_RS, ttoS_RS, tkoS_RS, tkeSW_RS, tkeS_RS, resP_RS, hi]; done))
theorem rnuP_IR {s : SG} {f : Int32} {part : Int32} {x3 : Int32}  : IR s → IR ((rnuP s f part x3).2) := by
  intro hi
  unfold rnuP
  first | done | first | exact hi | (simp (decide := true) (maxDischargeDepth := 40) only [IR_up, IR_44, IR_52, IR_pt, IR_fl, IR_cp, advS_IR, admS_IR, adwS_IR, setNW_IR, setN_IR, takSL_IR, takSW_IR, takS_IR, stwS_IR, notS_IR, refP_IR, couS_IR, ttoS_IR, tkoS_IR, tkeSW_IR, tkeS_IR, resP_IR, hi]; done) | ((repeat' split) <;> first | exact hi | (simp (decide := true) (maxDischargeDepth := 40) only [IR_up, IR_44, IR_52, IR_pt, IR_fl, IR_cp, advS_IR, admS_IR, adwS_IR, setNW_IR, setN_IR, takSL_IR, takSW_IR, takS_IR, stwS_IR, notS_IR, refP_IR, couS_IR, ttoS_IR, tkoS_IR, tkeSW_IR, tkeS_IR, resP_IR, hi]; done))
theorem s_readNumber {s : SG} {b : Nat → XL → List EV → EW → XR} {f : Int32} {part : Int32} {x3 : Int32} {x4 : Int32} (h : SH K) (rs : RS s) : fW sc 1 4 false 5 (xN sc (d + 2)) b kX1_readNumber_51 51 [some (.inr (.inr (.inl (some 43)))), some (.inl f), some (.inl part), some (.inl x3), some (.inl x4)] [] (wl K s) = some (some (.inl (rnuP s f part x3).1), wl K (rnuP s f part x3).2) := by
  simp (decide := true) (maxDischargeDepth := 40) only [uX1_readNumber_51, uX1_readNumber_57, uX1_readNumber_69, uX1_readNumber_73, uX1_readNumber_74, uX1_readNumber_84, uX1_readNumber_92, uX1_readNumber_97, uX1_readNumber_106, qX1_readNumber_51, qX1_readNumber_57, qX1_readNumber_69, qX1_readNumber_73, qX1_readNumber_74, qX1_readNumber_84, qX1_readNumber_92, qX1_readNumber_97, qX1_readNumber_106, jX1_readNumber_8_10, jX1_readNumber_27_51, jX1_readNumber_57_73, jX1_readNumber_69_73, jX1_readNumber_73_74, jX1_readNumber_84_97, jX1_readNumber_92_97, jX1_readNumber_97_106, jX1_readNumber_0_18, c43_g5 h, bd_eq, xci_eq, lc55 h, c_leastOf, c43_g8 h, c43_v h, cond_true, c_note h, xcv_eq, kc55 h, c_advanceR h, c_mostOf, rs, RS_43, RS_up, RS_pt, RS_fl, RS_cp, IR_up, IR_44, IR_52, IR_pt, IR_fl, IR_cp, advS_IR, RS_adv, admS_IR, adwS_IR, adwS_RS, clrS_RS, clwS_RS, admS_RS, setNW_RS, setNW_IR, setN_RS, setN_IR, takSL_RS, takSL_IR, takSW_RS, takSW_IR, takS_RS, takS_IR, stwS_RS, stwS_IR, notS_RS, notS_IR, refP_RS, refP_IR, couS_RS, couS_IR, ttoS_RS, ttoS_IR, tkoS_RS, tkoS_IR, tkeSW_RS, tkeSW_IR, tkeS_RS, tkeS_IR, resP_RS, resP_IR, rnuP_RS, rnuP_IR, up_a, up_b, up_c, pt_c, fl_c, cp_c]
  first | done | (unfold rnuP; first | done | with_reducible_and_instances rfl | ((repeat' split) <;> first | with_reducible_and_instances rfl | contradiction))
def numL (s : SG) : Nat → Nat → Int32 → Int32
  | 0, _, y => y
  | n + 1, j, y => numL s n (j + 1) (y * 10 + tok s j - 48)
theorem l_readNumber {s : SG} {f part : Int32} (h : SH K) (rs : RS s) : ∀ (n j k : Nat) (y : Int32), j + n = en s → n ≤ k → fW sc 1 4 false 5 (xN sc (d + 2)) (ex sc 1 4 false 5 (xN sc (d + 2)) kX1_readNumber_0 k) kX1_readNumber_18 18 [some (.inr (.inr (.inl (some 43)))), some (.inl f), some (.inl part), some (.inl y), some (.inl (nI j))] [] (wl K s) = some (some (.inl (rnuP s f part (numL s n j y)).1), wl K (rnuP s f part (numL s n j y)).2) := by
  have h9 := rs.1.2.2.1
  have h4 := rs.1.2.1
  have h5 := rs.1.2.2.2
  intro n
  induction n with
  | zero =>
    intro j k y hj hk
    simp only [uX1_readNumber_18, qX1_readNumber_18, jX1_readNumber_8_10, jX1_readNumber_27_51, jX1_readNumber_57_73, jX1_readNumber_69_73, jX1_readNumber_73_74, jX1_readNumber_84_97, jX1_readNumber_92_97, jX1_readNumber_97_106, jX1_readNumber_0_18, c43_g9 h, bd_eq, h9, if_pos (k_ge hj)]
    simp only [s_readNumber h rs]
    rw [numL]
  | succ n ih =>
    intro j k y hj hk
    obtain ⟨k, rfl⟩ : ∃ k', k = k' + 1 := ⟨k - 1, by omega⟩
    have e := ih (j + 1) k (y * 10 + tok s j - 48) (by omega) (by omega)
    rw [nI_succ] at e
    simp only [uX1_readNumber_18, qX1_readNumber_18, jX1_readNumber_8_10, jX1_readNumber_27_51, jX1_readNumber_57_73, jX1_readNumber_69_73, jX1_readNumber_73_74, jX1_readNumber_84_97, jX1_readNumber_92_97, jX1_readNumber_97_106, jX1_readNumber_0_18, c43_g9 h, bd_eq, h9, if_neg (k_lt hj (show en s < 2 ^ 31 by omega))]
    simp only [uX1_readNumber_27, qX1_readNumber_27, jX1_readNumber_8_10, jX1_readNumber_27_51, jX1_readNumber_57_73, jX1_readNumber_69_73, jX1_readNumber_73_74, jX1_readNumber_84_97, jX1_readNumber_92_97, jX1_readNumber_97_106, jX1_readNumber_0_18, c43_g4 h, bd_eq, lc54 h, xci_eq, eX_eq]
    rw [numL]
    exact e
def reaP (s : SG) (f part : Int32) : Int32 × SG := if s 43 7 = 2 then rnuP s f part (numL s (en s - st s) (st s) 0) else (0, s)
theorem c_readNumber {s : SG} {f part : Int32} (h : SH K) (rs : RS s) : xN sc (d + 3) 27 [.inr (.inr (.inl (some 43))), .inl f, .inl part] (wl K s) = some (some (.inl (reaP s f part).1), wl K (reaP s f part).2) := by
  rw [mX1_readNumber]
  have L := l_readNumber (sc := sc) (d := d) (f := f) (part := part) h rs (en s - st s) (st s) xF 0 (by have := rs.2.2; omega) (by have := xF_ge; have := rs.1.2.1; have := rs.1.2.2.2; omega)
  rw [← rs.2.1] at L
  simp only [uX1_readNumber_0, uX1_readNumber_8, uX1_readNumber_10, qX1_readNumber_0, qX1_readNumber_8, qX1_readNumber_10, jX1_readNumber_8_10, jX1_readNumber_27_51, jX1_readNumber_57_73, jX1_readNumber_69_73, jX1_readNumber_73_74, jX1_readNumber_84_97, jX1_readNumber_92_97, jX1_readNumber_97_106, jX1_readNumber_0_18, c43_g7 h, c43_g8 h, bd_eq]
  unfold reaP
  split
  · exact L
  · rfl
theorem reaP_rt {s : SG} {f part : Int32} : xrt 4 (reaP s f part).1 = true := by
  unfold reaP rnuP
  (repeat' split) <;> rfl
theorem reaP_lo {s : SG} {f part : Int32} {c : Nat} (ha : c < 42 ∨ 64 ≤ c) : (reaP s f part).2 c = s c := by
  unfold reaP
  first | done | rfl | (simp (decide := true) (maxDischargeDepth := 40) only [up_lo2 ha, pt_lo2 ha, fl_lo2 ha, cp_lo2 ha, setS7_lo ha, setS0_lo ha, briS7_lo ha, briS0_lo ha, tofP_lo ha, disP_lo ha, recP_lo ha, beaS_lo ha, rcdS_lo ha, comS_lo ha, decSL_lo ha, decS_lo ha, opeS_lo ha, hapPW_lo ha, hapP_lo ha, runPL_lo ha, runP_lo ha, dbeP_lo ha, drmS_lo ha, draSL_lo ha, draS_lo ha, stoPd_lo ha, iagP_lo ha, iag0_lo ha, magPL_lo ha, magP_lo ha, bagPL_lo ha, bagP_lo ha, magP0L_lo ha, magP0_lo ha, bagP0L_lo ha, bagP0_lo ha, agdbW_lo ha, agdb_lo ha, agdcW_lo ha, agdc_lo ha, fiwPL_lo ha, fiwP_lo ha, menPL_lo ha, menP_lo ha, natPc_lo ha, ffiPL_lo ha, ffiP_lo ha, unlPL_lo ha, unlP_lo ha, telPL_lo ha, telP_lo ha, drwP_lo ha, staP_lo ha, seaPW_lo ha, seaP_lo ha, clrS_lo ha, clwS_lo ha, admS_lo ha, setNW_lo ha, setN_lo ha, takSL_lo ha, takSW_lo ha, takS_lo ha, stwS_lo ha, adwSL_lo ha, adwS_lo ha, notS_lo ha, refP_lo ha, couS_lo ha, ttoS_lo ha, tkoS_lo ha, tkeSW_lo ha, tkeS_lo ha, advS_lo ha, resP_lo ha, rnuP_lo ha]; done) | ((repeat' split) <;> first | rfl | (simp (decide := true) (maxDischargeDepth := 40) only [up_lo2 ha, pt_lo2 ha, fl_lo2 ha, cp_lo2 ha, setS7_lo ha, setS0_lo ha, briS7_lo ha, briS0_lo ha, tofP_lo ha, disP_lo ha, recP_lo ha, beaS_lo ha, rcdS_lo ha, comS_lo ha, decSL_lo ha, decS_lo ha, opeS_lo ha, hapPW_lo ha, hapP_lo ha, runPL_lo ha, runP_lo ha, dbeP_lo ha, drmS_lo ha, draSL_lo ha, draS_lo ha, stoPd_lo ha, iagP_lo ha, iag0_lo ha, magPL_lo ha, magP_lo ha, bagPL_lo ha, bagP_lo ha, magP0L_lo ha, magP0_lo ha, bagP0L_lo ha, bagP0_lo ha, agdbW_lo ha, agdb_lo ha, agdcW_lo ha, agdc_lo ha, fiwPL_lo ha, fiwP_lo ha, menPL_lo ha, menP_lo ha, natPc_lo ha, ffiPL_lo ha, ffiP_lo ha, unlPL_lo ha, unlP_lo ha, telPL_lo ha, telP_lo ha, drwP_lo ha, staP_lo ha, seaPW_lo ha, seaP_lo ha, clrS_lo ha, clwS_lo ha, admS_lo ha, setNW_lo ha, setN_lo ha, takSL_lo ha, takSW_lo ha, takS_lo ha, stwS_lo ha, adwSL_lo ha, adwS_lo ha, notS_lo ha, refP_lo ha, couS_lo ha, ttoS_lo ha, tkoS_lo ha, tkeSW_lo ha, tkeS_lo ha, advS_lo ha, resP_lo ha, rnuP_lo ha]; done))
theorem reaP_SZ {s : SG} {f part : Int32} {c : Nat} (hc : c + 8 ≤ 42) : SZ ((reaP s f part).2) c ↔ SZ s c := by unfold SZ sz; rw [reaP_lo (Or.inl (by omega))]
theorem reaP_sz {s : SG} {f part : Int32} {c : Nat} (hc : c + 8 ≤ 42) : sz ((reaP s f part).2) c = sz s c := by unfold sz; rw [reaP_lo (Or.inl (by omega))]
theorem reaP_RZ {s : SG} {f part : Int32} {c : Nat} (hc : c + 2 ≤ 42) : RZ ((reaP s f part).2) c ↔ RZ s c := by unfold RZ rz; rw [reaP_lo (Or.inl (by omega))]
theorem reaP_rz {s : SG} {f part : Int32} {c : Nat} (hc : c + 2 ≤ 42) : rz ((reaP s f part).2) c = rz s c := by unfold rz; rw [reaP_lo (Or.inl (by omega))]
theorem reaP_RS {s : SG} {f part : Int32} : RS s → RS ((reaP s f part).2) := by
  intro hi
  unfold reaP
  first | done | first | exact hi | (simp (decide := true) (maxDischargeDepth := 40) only [RS_43, RS_up, RS_pt, RS_fl, RS_cp, RS_adv, adwS_RS, clrS_RS, clwS_RS, admS_RS, setNW_RS, setN_RS, takSL_RS, takSW_RS, takS_RS, stwS_RS, notS_RS, refP_RS, couS_RS, ttoS_RS, tkoS_RS, tkeSW_RS, tkeS_RS, resP_RS, rnuP_RS, hi]; done) | ((repeat' split) <;> first | exact hi | (simp (decide := true) (maxDischargeDepth := 40) only [RS_43, RS_up, RS_pt, RS_fl, RS_cp, RS_adv, adwS_RS, clrS_RS, clwS_RS, admS_RS, setNW_RS, setN_RS, takSL_RS, takSW_RS, takS_RS, stwS_RS, notS_RS, refP_RS, couS_RS, ttoS_RS, tkoS_RS, tkeSW_RS, tkeS_RS, resP_RS, rnuP_RS, hi]; done))
theorem reaP_IR {s : SG} {f part : Int32} : IR s → IR ((reaP s f part).2) := by
  intro hi
  unfold reaP
  first | done | first | exact hi | (simp (decide := true) (maxDischargeDepth := 40) only [IR_up, IR_44, IR_52, IR_pt, IR_fl, IR_cp, advS_IR, admS_IR, adwS_IR, setNW_IR, setN_IR, takSL_IR, takSW_IR, takS_IR, stwS_IR, notS_IR, refP_IR, couS_IR, ttoS_IR, tkoS_IR, tkeSW_IR, tkeS_IR, resP_IR, rnuP_IR, hi]; done) | ((repeat' split) <;> first | exact hi | (simp (decide := true) (maxDischargeDepth := 40) only [IR_up, IR_44, IR_52, IR_pt, IR_fl, IR_cp, advS_IR, admS_IR, adwS_IR, setNW_IR, setN_IR, takSL_IR, takSW_IR, takS_IR, stwS_IR, notS_IR, refP_IR, couS_IR, ttoS_IR, tkoS_IR, tkeSW_IR, tkeS_IR, resP_IR, rnuP_IR, hi]; done))
def rpaP (s : SG) (f : Int32) (part : Int32) : Int32 × SG := if f = 59 then ((resP s).1, (resP s).2) else if f = 105 then (if (choI s 13) = (-1) then (1, s) else if (isEI (choZ f)) = 0 then (if (choI (advS s) (choZ f)) = (-1) then (0, advS s) else (1, advS (pt 5 (advS s) 55 part (choI (advS s) (choZ f))))) else ((reaP (advS s) f part).1, (reaP (advS s) f part).2)) else if (isEI (choZ f)) = 0 then (if (choI s (choZ f)) = (-1) then (0, s) else (1, advS (pt 5 s 55 part (choI s (choZ f))))) else ((reaP s f part).1, (reaP s f part).2)
theorem rpaP_rt {s : SG} {f : Int32} {part : Int32} : xrt 4 (rpaP s f part).1 = true := by
  unfold rpaP
  first | done | first | with_reducible_and_instances rfl | simp only [hasI_rt, minI_rt, isaI_rt, issI_rt, pasI_rt, arsI_rt, canI7_rt, canI0_rt, islIL_rt, islI_rt, isbIW_rt, isbI_rt, isrIL_rt, isrI_rt, tofP_rt, disP_rt, recP_rt, hapPW_rt, hapP_rt, iagP_rt, iag0_rt, isfIL_rt, isfI_rt, artIL_rt, artI_rt, isb_I_rt, isl_I_rt, isd_I_rt, refP_rt, resP_rt, reaP_rt, xr40, xr41] | ((repeat' split) <;> first | with_reducible_and_instances rfl | simp only [hasI_rt, minI_rt, isaI_rt, issI_rt, pasI_rt, arsI_rt, canI7_rt, canI0_rt, islIL_rt, islI_rt, isbIW_rt, isbI_rt, isrIL_rt, isrI_rt, tofP_rt, disP_rt, recP_rt, hapPW_rt, hapP_rt, iagP_rt, iag0_rt, isfIL_rt, isfI_rt, artIL_rt, artI_rt, isb_I_rt, isl_I_rt, isd_I_rt, refP_rt, resP_rt, reaP_rt, xr40, xr41])
theorem rpaP_lo {s : SG} {f : Int32} {part : Int32}  {c : Nat} (ha : c < 42 ∨ 64 ≤ c) : (rpaP s f part).2 c = s c := by
  unfold rpaP
  first | done | rfl | (simp (decide := true) (maxDischargeDepth := 40) only [up_lo2 ha, pt_lo2 ha, fl_lo2 ha, cp_lo2 ha, setS7_lo ha, setS0_lo ha, briS7_lo ha, briS0_lo ha, tofP_lo ha, disP_lo ha, recP_lo ha, beaS_lo ha, rcdS_lo ha, comS_lo ha, decSL_lo ha, decS_lo ha, opeS_lo ha, hapPW_lo ha, hapP_lo ha, runPL_lo ha, runP_lo ha, dbeP_lo ha, drmS_lo ha, draSL_lo ha, draS_lo ha, stoPd_lo ha, iagP_lo ha, iag0_lo ha, magPL_lo ha, magP_lo ha, bagPL_lo ha, bagP_lo ha, magP0L_lo ha, magP0_lo ha, bagP0L_lo ha, bagP0_lo ha, agdbW_lo ha, agdb_lo ha, agdcW_lo ha, agdc_lo ha, fiwPL_lo ha, fiwP_lo ha, menPL_lo ha, menP_lo ha, natPc_lo ha, ffiPL_lo ha, ffiP_lo ha, unlPL_lo ha, unlP_lo ha, telPL_lo ha, telP_lo ha, drwP_lo ha, staP_lo ha, seaPW_lo ha, seaP_lo ha, clrS_lo ha, clwS_lo ha, admS_lo ha, setNW_lo ha, setN_lo ha, takSL_lo ha, takSW_lo ha, takS_lo ha, stwS_lo ha, adwSL_lo ha, adwS_lo ha, notS_lo ha, refP_lo ha, couS_lo ha, ttoS_lo ha, tkoS_lo ha, tkeSW_lo ha, tkeS_lo ha, advS_lo ha, resP_lo ha, rnuP_lo ha, reaP_lo ha]; done) | ((repeat' split) <;> first | rfl | (simp (decide := true) (maxDischargeDepth := 40) only [up_lo2 ha, pt_lo2 ha, fl_lo2 ha, cp_lo2 ha, setS7_lo ha, setS0_lo ha, briS7_lo ha, briS0_lo ha, tofP_lo ha, disP_lo ha, recP_lo ha, beaS_lo ha, rcdS_lo ha, comS_lo ha, decSL_lo ha, decS_lo ha, opeS_lo ha, hapPW_lo ha, hapP_lo ha, runPL_lo ha, runP_lo ha, dbeP_lo ha, drmS_lo ha, draSL_lo ha, draS_lo ha, stoPd_lo ha, iagP_lo ha, iag0_lo ha, magPL_lo ha, magP_lo ha, bagPL_lo ha, bagP_lo ha, magP0L_lo ha, magP0_lo ha, bagP0L_lo ha, bagP0_lo ha, agdbW_lo ha, agdb_lo ha, agdcW_lo ha, agdc_lo ha, fiwPL_lo ha, fiwP_lo ha, menPL_lo ha, menP_lo ha, natPc_lo ha, ffiPL_lo ha, ffiP_lo ha, unlPL_lo ha, unlP_lo ha, telPL_lo ha, telP_lo ha, drwP_lo ha, staP_lo ha, seaPW_lo ha, seaP_lo ha, clrS_lo ha, clwS_lo ha, admS_lo ha, setNW_lo ha, setN_lo ha, takSL_lo ha, takSW_lo ha, takS_lo ha, stwS_lo ha, adwSL_lo ha, adwS_lo ha, notS_lo ha, refP_lo ha, couS_lo ha, ttoS_lo ha, tkoS_lo ha, tkeSW_lo ha, tkeS_lo ha, advS_lo ha, resP_lo ha, rnuP_lo ha, reaP_lo ha]; done))
theorem rpaP_SZ {s : SG} {f : Int32} {part : Int32}  {c : Nat} (hc : c + 8 ≤ 42) : SZ ((rpaP s f part).2) c ↔ SZ s c := by unfold SZ sz; rw [rpaP_lo (Or.inl (by omega))]
theorem rpaP_sz {s : SG} {f : Int32} {part : Int32}  {c : Nat} (hc : c + 8 ≤ 42) : sz ((rpaP s f part).2) c = sz s c := by unfold sz; rw [rpaP_lo (Or.inl (by omega))]
theorem rpaP_RZ {s : SG} {f : Int32} {part : Int32}  {c : Nat} (hc : c + 2 ≤ 42) : RZ ((rpaP s f part).2) c ↔ RZ s c := by unfold RZ rz; rw [rpaP_lo (Or.inl (by omega))]
theorem rpaP_rz {s : SG} {f : Int32} {part : Int32}  {c : Nat} (hc : c + 2 ≤ 42) : rz ((rpaP s f part).2) c = rz s c := by unfold rz; rw [rpaP_lo (Or.inl (by omega))]
theorem rpaP_RS {s : SG} {f : Int32} {part : Int32}  : RS s → RS ((rpaP s f part).2) := by
  intro hi
  unfold rpaP
  first | done | first | exact hi | (simp (decide := true) (maxDischargeDepth := 40) only [RS_43, RS_up, RS_pt, RS_fl, RS_cp, RS_adv, adwS_RS, clrS_RS, clwS_RS, admS_RS, setNW_RS, setN_RS, takSL_RS, takSW_RS, takS_RS, stwS_RS, notS_RS, refP_RS, couS_RS, ttoS_RS, tkoS_RS, tkeSW_RS, tkeS_RS, resP_RS, rnuP_RS, reaP_RS, hi]; done) | ((repeat' split) <;> first | exact hi | (simp (decide := true) (maxDischargeDepth := 40) only [RS_43, RS_up, RS_pt, RS_fl, RS_cp, RS_adv, adwS_RS, clrS_RS, clwS_RS, admS_RS, setNW_RS, setN_RS, takSL_RS, takSW_RS, takS_RS, stwS_RS, notS_RS, refP_RS, couS_RS, ttoS_RS, tkoS_RS, tkeSW_RS, tkeS_RS, resP_RS, rnuP_RS, reaP_RS, hi]; done))
theorem rpaP_IR {s : SG} {f : Int32} {part : Int32}  : IR s → IR ((rpaP s f part).2) := by
  intro hi
  unfold rpaP
  first | done | first | exact hi | (simp (decide := true) (maxDischargeDepth := 40) only [IR_up, IR_44, IR_52, IR_pt, IR_fl, IR_cp, advS_IR, admS_IR, adwS_IR, setNW_IR, setN_IR, takSL_IR, takSW_IR, takS_IR, stwS_IR, notS_IR, refP_IR, couS_IR, ttoS_IR, tkoS_IR, tkeSW_IR, tkeS_IR, resP_IR, rnuP_IR, reaP_IR, hi]; done) | ((repeat' split) <;> first | exact hi | (simp (decide := true) (maxDischargeDepth := 40) only [IR_up, IR_44, IR_52, IR_pt, IR_fl, IR_cp, advS_IR, admS_IR, adwS_IR, setNW_IR, setN_IR, takSL_IR, takSW_IR, takS_IR, stwS_IR, notS_IR, refP_IR, couS_IR, ttoS_IR, tkoS_IR, tkeSW_IR, tkeS_IR, resP_IR, rnuP_IR, reaP_IR, hi]; done))
theorem c_readPart {s : SG} {f : Int32} {part : Int32}  (h : SH K) (rs : RS s) : xN sc (d + 7) 24 [.inr (.inr (.inl (some 43))), .inl f, .inl part] (wl K s) = some (some (.inl (rpaP s f part).1), wl K (rpaP s f part).2) := by
  rw [mX1_readPart]
  simp (decide := true) (maxDischargeDepth := 40) only [uX1_readPart_0, uX1_readPart_6, uX1_readPart_11, uX1_readPart_17, uX1_readPart_27, uX1_readPart_29, uX1_readPart_33, uX1_readPart_45, uX1_readPart_52, uX1_readPart_65, uX1_readPart_67, qX1_readPart_0, qX1_readPart_6, qX1_readPart_11, qX1_readPart_17, qX1_readPart_27, qX1_readPart_29, qX1_readPart_33, qX1_readPart_45, qX1_readPart_52, qX1_readPart_65, qX1_readPart_67, jX1_readPart_6_11, jX1_readPart_17_33, jX1_readPart_27_29, jX1_readPart_45_52, jX1_readPart_65_67, c43_v h, cond_true, c_readSemicolon h, rs, xci_eq, resP_rt, xr40, xr41, c_chosen16 h, c_advanceR h, xcv_eq, c_choicesOf, xck_eq, xst_z choZ_lt, c_isEmpty choZ_lt, c_chosen h choZ_lt, c43_g5 h, bd_eq, kc55 h, c_readNumber h, reaP_rt, rs, RS_43, RS_up, RS_pt, RS_fl, RS_cp, IR_up, IR_44, IR_52, IR_pt, IR_fl, IR_cp, advS_IR, RS_adv, admS_IR, adwS_IR, adwS_RS, clrS_RS, clwS_RS, admS_RS, setNW_RS, setNW_IR, setN_RS, setN_IR, takSL_RS, takSL_IR, takSW_RS, takSW_IR, takS_RS, takS_IR, stwS_RS, stwS_IR, notS_RS, notS_IR, refP_RS, refP_IR, couS_RS, couS_IR, ttoS_RS, ttoS_IR, tkoS_RS, tkoS_IR, tkeSW_RS, tkeSW_IR, tkeS_RS, tkeS_IR, resP_RS, resP_IR, rnuP_RS, rnuP_IR, reaP_RS, reaP_IR, rpaP_RS, rpaP_IR, up_a, up_b, up_c, pt_c, fl_c, cp_c]
  first | done | (unfold rpaP; first | done | with_reducible_and_instances rfl | ((repeat' split) <;> first | with_reducible_and_instances rfl | contradiction | exact absurd ‹(1 : Int32) = 0› (by decide) | exact absurd rfl ‹¬ (0 : Int32) = 0› | exact absurd rfl ‹¬ (1 : Int32) = 1› | (exfalso; rename_i h1 h2; exact h1 (by rw [h2]; exact Int32.le_refl _))))
end XCM
end
section
section XCN
variable {sc : Nat × (Nat → Int32)} {d : Nat} {K : List KD} {r q t a B m : Nat} {w : EW}
def rlT (s : SG) (so line : Int32) : SG := if s 43 2 = 0 then tkeS s so line else s
def rlL (so line : Int32) (z : Nat) : Nat → Nat → SG → Int32 → Int32 × SG
  | 0, _, s, _ => (1, rlT s so line)
  | n + 1, j, s, y => if chZ z j = 32 then (1, rlT s so line) else if (rpaP s (chZ z j) y).1 = 0 then ((refP (rpaP s (chZ z j) y).2).1, (refP (rpaP s (chZ z j) y).2).2) else rlL so line z n (j + 1) (rpaP s (chZ z j) y).2 (y + 1)
theorem rlT_lo {s : SG} {so line : Int32} {c : Nat} (ha : c < 42 ∨ 64 ≤ c) : (rlT s so line) c = s c := by
  unfold rlT
  first | done | rfl | (simp (decide := true) (maxDischargeDepth := 40) only [up_lo2 ha, pt_lo2 ha, fl_lo2 ha, cp_lo2 ha, setS7_lo ha, setS0_lo ha, briS7_lo ha, briS0_lo ha, tofP_lo ha, disP_lo ha, recP_lo ha, beaS_lo ha, rcdS_lo ha, comS_lo ha, decSL_lo ha, decS_lo ha, opeS_lo ha, hapPW_lo ha, hapP_lo ha, runPL_lo ha, runP_lo ha, dbeP_lo ha, drmS_lo ha, draSL_lo ha, draS_lo ha, stoPd_lo ha, iagP_lo ha, iag0_lo ha, magPL_lo ha, magP_lo ha, bagPL_lo ha, bagP_lo ha, magP0L_lo ha, magP0_lo ha, bagP0L_lo ha, bagP0_lo ha, agdbW_lo ha, agdb_lo ha, agdcW_lo ha, agdc_lo ha, fiwPL_lo ha, fiwP_lo ha, menPL_lo ha, menP_lo ha, natPc_lo ha, ffiPL_lo ha, ffiP_lo ha, unlPL_lo ha, unlP_lo ha, telPL_lo ha, telP_lo ha, drwP_lo ha, staP_lo ha, seaPW_lo ha, seaP_lo ha, clrS_lo ha, clwS_lo ha, admS_lo ha, setNW_lo ha, setN_lo ha, takSL_lo ha, takSW_lo ha, takS_lo ha, stwS_lo ha, adwSL_lo ha, adwS_lo ha, notS_lo ha, refP_lo ha, couS_lo ha, ttoS_lo ha, tkoS_lo ha, tkeSW_lo ha, tkeS_lo ha, advS_lo ha, resP_lo ha, rnuP_lo ha, reaP_lo ha, rpaP_lo ha]; done) | ((repeat' split) <;> first | rfl | (simp (decide := true) (maxDischargeDepth := 40) only [up_lo2 ha, pt_lo2 ha, fl_lo2 ha, cp_lo2 ha, setS7_lo ha, setS0_lo ha, briS7_lo ha, briS0_lo ha, tofP_lo ha, disP_lo ha, recP_lo ha, beaS_lo ha, rcdS_lo ha, comS_lo ha, decSL_lo ha, decS_lo ha, opeS_lo ha, hapPW_lo ha, hapP_lo ha, runPL_lo ha, runP_lo ha, dbeP_lo ha, drmS_lo ha, draSL_lo ha, draS_lo ha, stoPd_lo ha, iagP_lo ha, iag0_lo ha, magPL_lo ha, magP_lo ha, bagPL_lo ha, bagP_lo ha, magP0L_lo ha, magP0_lo ha, bagP0L_lo ha, bagP0_lo ha, agdbW_lo ha, agdb_lo ha, agdcW_lo ha, agdc_lo ha, fiwPL_lo ha, fiwP_lo ha, menPL_lo ha, menP_lo ha, natPc_lo ha, ffiPL_lo ha, ffiP_lo ha, unlPL_lo ha, unlP_lo ha, telPL_lo ha, telP_lo ha, drwP_lo ha, staP_lo ha, seaPW_lo ha, seaP_lo ha, clrS_lo ha, clwS_lo ha, admS_lo ha, setNW_lo ha, setN_lo ha, takSL_lo ha, takSW_lo ha, takS_lo ha, stwS_lo ha, adwSL_lo ha, adwS_lo ha, notS_lo ha, refP_lo ha, couS_lo ha, ttoS_lo ha, tkoS_lo ha, tkeSW_lo ha, tkeS_lo ha, advS_lo ha, resP_lo ha, rnuP_lo ha, reaP_lo ha, rpaP_lo ha]; done))
theorem rlT_SZ {s : SG} {so line : Int32} {c : Nat} (hc : c + 8 ≤ 42) : SZ ((rlT s so line)) c ↔ SZ s c := by unfold SZ sz; rw [rlT_lo (Or.inl (by omega))]
theorem rlT_sz {s : SG} {so line : Int32} {c : Nat} (hc : c + 8 ≤ 42) : sz ((rlT s so line)) c = sz s c := by unfold sz; rw [rlT_lo (Or.inl (by omega))]
theorem rlT_RZ {s : SG} {so line : Int32} {c : Nat} (hc : c + 2 ≤ 42) : RZ ((rlT s so line)) c ↔ RZ s c := by unfold RZ rz; rw [rlT_lo (Or.inl (by omega))]
theorem rlT_rz {s : SG} {so line : Int32} {c : Nat} (hc : c + 2 ≤ 42) : rz ((rlT s so line)) c = rz s c := by unfold rz; rw [rlT_lo (Or.inl (by omega))]
theorem rlT_RS {s : SG} {so line : Int32} : RS s → RS ((rlT s so line)) := by
  intro hi
  unfold rlT
  first | done | first | exact hi | (simp (decide := true) (maxDischargeDepth := 40) only [RS_43, RS_up, RS_pt, RS_fl, RS_cp, RS_adv, adwS_RS, clrS_RS, clwS_RS, admS_RS, setNW_RS, setN_RS, takSL_RS, takSW_RS, takS_RS, stwS_RS, notS_RS, refP_RS, couS_RS, ttoS_RS, tkoS_RS, tkeSW_RS, tkeS_RS, resP_RS, rnuP_RS, reaP_RS, rpaP_RS, hi]; done) | ((repeat' split) <;> first | exact hi | (simp (decide := true) (maxDischargeDepth := 40) only [RS_43, RS_up, RS_pt, RS_fl, RS_cp, RS_adv, adwS_RS, clrS_RS, clwS_RS, admS_RS, setNW_RS, setN_RS, takSL_RS, takSW_RS, takS_RS, stwS_RS, notS_RS, refP_RS, couS_RS, ttoS_RS, tkoS_RS, tkeSW_RS, tkeS_RS, resP_RS, rnuP_RS, reaP_RS, rpaP_RS, hi]; done))
theorem rlT_IR {s : SG} {so line : Int32} : IR s → IR ((rlT s so line)) := by
  intro hi
  unfold rlT
  first | done | first | exact hi | (simp (decide := true) (maxDischargeDepth := 40) only [IR_up, IR_44, IR_52, IR_pt, IR_fl, IR_cp, advS_IR, admS_IR, adwS_IR, setNW_IR, setN_IR, takSL_IR, takSW_IR, takS_IR, stwS_IR, notS_IR, refP_IR, couS_IR, ttoS_IR, tkoS_IR, tkeSW_IR, tkeS_IR, resP_IR, rnuP_IR, reaP_IR, rpaP_IR, hi]; done) | ((repeat' split) <;> first | exact hi | (simp (decide := true) (maxDischargeDepth := 40) only [IR_up, IR_44, IR_52, IR_pt, IR_fl, IR_cp, advS_IR, admS_IR, adwS_IR, setNW_IR, setN_IR, takSL_IR, takSW_IR, takS_IR, stwS_IR, notS_IR, refP_IR, couS_IR, ttoS_IR, tkoS_IR, tkeSW_IR, tkeS_IR, resP_IR, rnuP_IR, reaP_IR, rpaP_IR, hi]; done))
theorem rlL_lo {so line : Int32} {z : Nat} {c : Nat} (ha : c < 42 ∨ 64 ≤ c) : ∀ (n j : Nat) (s : SG) (y : Int32), (rlL so line z n j s y).2 c = s c := by
  intro n
  induction n with
  | zero =>
    intro j s y
    rw [rlL]
    first | done | rfl | (simp (decide := true) (maxDischargeDepth := 40) only [up_lo2 ha, pt_lo2 ha, fl_lo2 ha, cp_lo2 ha, setS7_lo ha, setS0_lo ha, briS7_lo ha, briS0_lo ha, tofP_lo ha, disP_lo ha, recP_lo ha, beaS_lo ha, rcdS_lo ha, comS_lo ha, decSL_lo ha, decS_lo ha, opeS_lo ha, hapPW_lo ha, hapP_lo ha, runPL_lo ha, runP_lo ha, dbeP_lo ha, drmS_lo ha, draSL_lo ha, draS_lo ha, stoPd_lo ha, iagP_lo ha, iag0_lo ha, magPL_lo ha, magP_lo ha, bagPL_lo ha, bagP_lo ha, magP0L_lo ha, magP0_lo ha, bagP0L_lo ha, bagP0_lo ha, agdbW_lo ha, agdb_lo ha, agdcW_lo ha, agdc_lo ha, fiwPL_lo ha, fiwP_lo ha, menPL_lo ha, menP_lo ha, natPc_lo ha, ffiPL_lo ha, ffiP_lo ha, unlPL_lo ha, unlP_lo ha, telPL_lo ha, telP_lo ha, drwP_lo ha, staP_lo ha, seaPW_lo ha, seaP_lo ha, clrS_lo ha, clwS_lo ha, admS_lo ha, setNW_lo ha, setN_lo ha, takSL_lo ha, takSW_lo ha, takS_lo ha, stwS_lo ha, adwSL_lo ha, adwS_lo ha, notS_lo ha, refP_lo ha, couS_lo ha, ttoS_lo ha, tkoS_lo ha, tkeSW_lo ha, tkeS_lo ha, advS_lo ha, resP_lo ha, rnuP_lo ha, reaP_lo ha, rpaP_lo ha, rlT_lo ha]; done) | ((repeat' split) <;> first | rfl | (simp (decide := true) (maxDischargeDepth := 40) only [up_lo2 ha, pt_lo2 ha, fl_lo2 ha, cp_lo2 ha, setS7_lo ha, setS0_lo ha, briS7_lo ha, briS0_lo ha, tofP_lo ha, disP_lo ha, recP_lo ha, beaS_lo ha, rcdS_lo ha, comS_lo ha, decSL_lo ha, decS_lo ha, opeS_lo ha, hapPW_lo ha, hapP_lo ha, runPL_lo ha, runP_lo ha, dbeP_lo ha, drmS_lo ha, draSL_lo ha, draS_lo ha, stoPd_lo ha, iagP_lo ha, iag0_lo ha, magPL_lo ha, magP_lo ha, bagPL_lo ha, bagP_lo ha, magP0L_lo ha, magP0_lo ha, bagP0L_lo ha, bagP0_lo ha, agdbW_lo ha, agdb_lo ha, agdcW_lo ha, agdc_lo ha, fiwPL_lo ha, fiwP_lo ha, menPL_lo ha, menP_lo ha, natPc_lo ha, ffiPL_lo ha, ffiP_lo ha, unlPL_lo ha, unlP_lo ha, telPL_lo ha, telP_lo ha, drwP_lo ha, staP_lo ha, seaPW_lo ha, seaP_lo ha, clrS_lo ha, clwS_lo ha, admS_lo ha, setNW_lo ha, setN_lo ha, takSL_lo ha, takSW_lo ha, takS_lo ha, stwS_lo ha, adwSL_lo ha, adwS_lo ha, notS_lo ha, refP_lo ha, couS_lo ha, ttoS_lo ha, tkoS_lo ha, tkeSW_lo ha, tkeS_lo ha, advS_lo ha, resP_lo ha, rnuP_lo ha, reaP_lo ha, rpaP_lo ha, rlT_lo ha]; done))
  | succ n ih =>
    intro j s y
    rw [rlL]
    first | done | rfl | (simp (decide := true) (maxDischargeDepth := 40) only [ih, up_lo2 ha, pt_lo2 ha, fl_lo2 ha, cp_lo2 ha, setS7_lo ha, setS0_lo ha, briS7_lo ha, briS0_lo ha, tofP_lo ha, disP_lo ha, recP_lo ha, beaS_lo ha, rcdS_lo ha, comS_lo ha, decSL_lo ha, decS_lo ha, opeS_lo ha, hapPW_lo ha, hapP_lo ha, runPL_lo ha, runP_lo ha, dbeP_lo ha, drmS_lo ha, draSL_lo ha, draS_lo ha, stoPd_lo ha, iagP_lo ha, iag0_lo ha, magPL_lo ha, magP_lo ha, bagPL_lo ha, bagP_lo ha, magP0L_lo ha, magP0_lo ha, bagP0L_lo ha, bagP0_lo ha, agdbW_lo ha, agdb_lo ha, agdcW_lo ha, agdc_lo ha, fiwPL_lo ha, fiwP_lo ha, menPL_lo ha, menP_lo ha, natPc_lo ha, ffiPL_lo ha, ffiP_lo ha, unlPL_lo ha, unlP_lo ha, telPL_lo ha, telP_lo ha, drwP_lo ha, staP_lo ha, seaPW_lo ha, seaP_lo ha, clrS_lo ha, clwS_lo ha, admS_lo ha, setNW_lo ha, setN_lo ha, takSL_lo ha, takSW_lo ha, takS_lo ha, stwS_lo ha, adwSL_lo ha, adwS_lo ha, notS_lo ha, refP_lo ha, couS_lo ha, ttoS_lo ha, tkoS_lo ha, tkeSW_lo ha, tkeS_lo ha, advS_lo ha, resP_lo ha, rnuP_lo ha, reaP_lo ha, rpaP_lo ha, rlT_lo ha]; done) | ((repeat' split) <;> first | rfl | (simp (decide := true) (maxDischargeDepth := 40) only [ih, up_lo2 ha, pt_lo2 ha, fl_lo2 ha, cp_lo2 ha, setS7_lo ha, setS0_lo ha, briS7_lo ha, briS0_lo ha, tofP_lo ha, disP_lo ha, recP_lo ha, beaS_lo ha, rcdS_lo ha, comS_lo ha, decSL_lo ha, decS_lo ha, opeS_lo ha, hapPW_lo ha, hapP_lo ha, runPL_lo ha, runP_lo ha, dbeP_lo ha, drmS_lo ha, draSL_lo ha, draS_lo ha, stoPd_lo ha, iagP_lo ha, iag0_lo ha, magPL_lo ha, magP_lo ha, bagPL_lo ha, bagP_lo ha, magP0L_lo ha, magP0_lo ha, bagP0L_lo ha, bagP0_lo ha, agdbW_lo ha, agdb_lo ha, agdcW_lo ha, agdc_lo ha, fiwPL_lo ha, fiwP_lo ha, menPL_lo ha, menP_lo ha, natPc_lo ha, ffiPL_lo ha, ffiP_lo ha, unlPL_lo ha, unlP_lo ha, telPL_lo ha, telP_lo ha, drwP_lo ha, staP_lo ha, seaPW_lo ha, seaP_lo ha, clrS_lo ha, clwS_lo ha, admS_lo ha, setNW_lo ha, setN_lo ha, takSL_lo ha, takSW_lo ha, takS_lo ha, stwS_lo ha, adwSL_lo ha, adwS_lo ha, notS_lo ha, refP_lo ha, couS_lo ha, ttoS_lo ha, tkoS_lo ha, tkeSW_lo ha, tkeS_lo ha, advS_lo ha, resP_lo ha, rnuP_lo ha, reaP_lo ha, rpaP_lo ha, rlT_lo ha]; done))
theorem rlL_SZ {so line : Int32} {z : Nat} {n j : Nat} {s : SG} {y : Int32} {c : Nat} (hc : c + 8 ≤ 42) : SZ ((rlL so line z n j s y).2) c ↔ SZ s c := by unfold SZ sz; rw [rlL_lo (Or.inl (by omega)) n j s y]
theorem rlL_sz {so line : Int32} {z : Nat} {n j : Nat} {s : SG} {y : Int32} {c : Nat} (hc : c + 8 ≤ 42) : sz ((rlL so line z n j s y).2) c = sz s c := by unfold sz; rw [rlL_lo (Or.inl (by omega)) n j s y]
theorem rlL_RZ {so line : Int32} {z : Nat} {n j : Nat} {s : SG} {y : Int32} {c : Nat} (hc : c + 2 ≤ 42) : RZ ((rlL so line z n j s y).2) c ↔ RZ s c := by unfold RZ rz; rw [rlL_lo (Or.inl (by omega)) n j s y]
theorem rlL_rz {so line : Int32} {z : Nat} {n j : Nat} {s : SG} {y : Int32} {c : Nat} (hc : c + 2 ≤ 42) : rz ((rlL so line z n j s y).2) c = rz s c := by unfold rz; rw [rlL_lo (Or.inl (by omega)) n j s y]
theorem rlL_RS {so line : Int32} {z : Nat} : ∀ (n j : Nat) (s : SG) (y : Int32), RS s → RS ((rlL so line z n j s y).2) := by
  intro n
  induction n with
  | zero =>
    intro j s y hi
    rw [rlL]
    first | done | first | exact hi | (simp (decide := true) (maxDischargeDepth := 40) only [RS_43, RS_up, RS_pt, RS_fl, RS_cp, RS_adv, adwS_RS, clrS_RS, clwS_RS, admS_RS, setNW_RS, setN_RS, takSL_RS, takSW_RS, takS_RS, stwS_RS, notS_RS, refP_RS, couS_RS, ttoS_RS, tkoS_RS, tkeSW_RS, tkeS_RS, resP_RS, rnuP_RS, reaP_RS, rpaP_RS, rlT_RS, hi]; done) | ((repeat' split) <;> first | exact hi | (simp (decide := true) (maxDischargeDepth := 40) only [RS_43, RS_up, RS_pt, RS_fl, RS_cp, RS_adv, adwS_RS, clrS_RS, clwS_RS, admS_RS, setNW_RS, setN_RS, takSL_RS, takSW_RS, takS_RS, stwS_RS, notS_RS, refP_RS, couS_RS, ttoS_RS, tkoS_RS, tkeSW_RS, tkeS_RS, resP_RS, rnuP_RS, reaP_RS, rpaP_RS, rlT_RS, hi]; done))
  | succ n ih =>
    intro j s y hi
    rw [rlL]
    first | done | first | exact hi | (exact ih _ _ _ hi) | (simp (decide := true) (maxDischargeDepth := 40) only [ih, RS_43, RS_up, RS_pt, RS_fl, RS_cp, RS_adv, adwS_RS, clrS_RS, clwS_RS, admS_RS, setNW_RS, setN_RS, takSL_RS, takSW_RS, takS_RS, stwS_RS, notS_RS, refP_RS, couS_RS, ttoS_RS, tkoS_RS, tkeSW_RS, tkeS_RS, resP_RS, rnuP_RS, reaP_RS, rpaP_RS, rlT_RS, hi]; done) | ((repeat' split) <;> first | exact hi | (exact ih _ _ _ hi) | (simp (decide := true) (maxDischargeDepth := 40) only [ih, RS_43, RS_up, RS_pt, RS_fl, RS_cp, RS_adv, adwS_RS, clrS_RS, clwS_RS, admS_RS, setNW_RS, setN_RS, takSL_RS, takSW_RS, takS_RS, stwS_RS, notS_RS, refP_RS, couS_RS, ttoS_RS, tkoS_RS, tkeSW_RS, tkeS_RS, resP_RS, rnuP_RS, reaP_RS, rpaP_RS, rlT_RS, hi]; done))
theorem rlL_IR {so line : Int32} {z : Nat} : ∀ (n j : Nat) (s : SG) (y : Int32), IR s → IR ((rlL so line z n j s y).2) := by
  intro n
  induction n with
  | zero =>
    intro j s y hi
    rw [rlL]
    first | done | first | exact hi | (simp (decide := true) (maxDischargeDepth := 40) only [IR_up, IR_44, IR_52, IR_pt, IR_fl, IR_cp, advS_IR, admS_IR, adwS_IR, setNW_IR, setN_IR, takSL_IR, takSW_IR, takS_IR, stwS_IR, notS_IR, refP_IR, couS_IR, ttoS_IR, tkoS_IR, tkeSW_IR, tkeS_IR, resP_IR, rnuP_IR, reaP_IR, rpaP_IR, rlT_IR, hi]; done) | ((repeat' split) <;> first | exact hi | (simp (decide := true) (maxDischargeDepth := 40) only [IR_up, IR_44, IR_52, IR_pt, IR_fl, IR_cp, advS_IR, admS_IR, adwS_IR, setNW_IR, setN_IR, takSL_IR, takSW_IR, takS_IR, stwS_IR, notS_IR, refP_IR, couS_IR, ttoS_IR, tkoS_IR, tkeSW_IR, tkeS_IR, resP_IR, rnuP_IR, reaP_IR, rpaP_IR, rlT_IR, hi]; done))
  | succ n ih =>
    intro j s y hi
    rw [rlL]
    first | done | first | exact hi | (exact ih _ _ _ hi) | (simp (decide := true) (maxDischargeDepth := 40) only [ih, IR_up, IR_44, IR_52, IR_pt, IR_fl, IR_cp, advS_IR, admS_IR, adwS_IR, setNW_IR, setN_IR, takSL_IR, takSW_IR, takS_IR, stwS_IR, notS_IR, refP_IR, couS_IR, ttoS_IR, tkoS_IR, tkeSW_IR, tkeS_IR, resP_IR, rnuP_IR, reaP_IR, rpaP_IR, rlT_IR, hi]; done) | ((repeat' split) <;> first | exact hi | (exact ih _ _ _ hi) | (simp (decide := true) (maxDischargeDepth := 40) only [ih, IR_up, IR_44, IR_52, IR_pt, IR_fl, IR_cp, advS_IR, admS_IR, adwS_IR, setNW_IR, setN_IR, takSL_IR, takSW_IR, takS_IR, stwS_IR, notS_IR, refP_IR, couS_IR, ttoS_IR, tkoS_IR, tkeSW_IR, tkeS_IR, resP_IR, rnuP_IR, reaP_IR, rpaP_IR, rlT_IR, hi]; done))
theorem s_rlT {s : SG} {so line : Int32} {z : Nat} {x4 x5 : Int32} {b : Nat → XL → List EV → EW → XR} (h : SH K) : fW sc 1 4 false 6 (xN sc (d + 7)) b kX1_readLine_101 101 [some (.inr (.inr (.inl (some 43)))), some (.inl so), some (.inl line), some (.inr (.inr (.inr (3 + z)))), some (.inl x4), some (.inl x5)] [] (wl K s) = some (some (.inl 1), wl K (rlT s so line)) := by
  simp (decide := true) only [uX1_readLine_101, uX1_readLine_108, uX1_readLine_114, qX1_readLine_101, qX1_readLine_108, qX1_readLine_114, jX1_readLine_14_19, jX1_readLine_61_101, jX1_readLine_72_101, jX1_readLine_87_92, jX1_readLine_108_114, jX1_readLine_0_52, c43_g2 h, bd_eq, c43_v h, cond_true, c_take h, xcv_eq]
  unfold rlT
  split <;> rfl
theorem l_readLine {so line : Int32} {z : Nat} (h : SH K) (hz : z < 18) : ∀ (n j k : Nat) (s : SG) (y : Int32), RS s → j + n = sl z → n ≤ k → fW sc 1 4 false 6 (xN sc (d + 7)) (ex sc 1 4 false 6 (xN sc (d + 7)) kX1_readLine_0 k) kX1_readLine_52 52 [some (.inr (.inr (.inl (some 43)))), some (.inl so), some (.inl line), some (.inr (.inr (.inr (3 + z)))), some (.inl y), some (.inl (nI j))] [] (wl K s) = some (some (.inl (rlL so line z n j s y).1), wl K (rlL so line z n j s y).2) := by
  have h3 := sl_le z hz
  intro n
  induction n with
  | zero =>
    intro j k s y rs hj hk
    simp only [uX1_readLine_52, qX1_readLine_52, jX1_readLine_14_19, jX1_readLine_61_101, jX1_readLine_72_101, jX1_readLine_87_92, jX1_readLine_108_114, jX1_readLine_0_52, xst_z hz, c_length hz, xci_eq, if_pos (k_ge hj)]
    simp only [s_rlT h]
    rw [rlL]
  | succ n ih =>
    intro j k s y rs hj hk
    obtain ⟨k, rfl⟩ : ∃ k', k = k' + 1 := ⟨k - 1, by omega⟩
    have rs2 : RS (rpaP s (chZ z j) y).2 := rpaP_RS rs
    have e := ih (j + 1) k (rpaP s (chZ z j) y).2 (y + 1) rs2 (by omega) (by omega)
    rw [nI_succ] at e
    simp only [uX1_readLine_52, qX1_readLine_52, jX1_readLine_14_19, jX1_readLine_61_101, jX1_readLine_72_101, jX1_readLine_87_92, jX1_readLine_108_114, jX1_readLine_0_52, xst_z hz, c_length hz, xci_eq, if_neg (k_lt hj (show sl z < 2 ^ 31 by omega))]
    simp only [uX1_readLine_61, qX1_readLine_61, jX1_readLine_14_19, jX1_readLine_61_101, jX1_readLine_72_101, jX1_readLine_87_92, jX1_readLine_108_114, jX1_readLine_0_52, xst_z hz, c_charAt hz (show j < sl z by omega), xci_eq]
    rw [rlL]
    by_cases c1 : chZ z j = 32
    · rw [if_pos c1, if_pos c1]
      simp only [jX1_readLine_14_19, jX1_readLine_61_101, jX1_readLine_72_101, jX1_readLine_87_92, jX1_readLine_108_114, jX1_readLine_0_52, s_rlT h]
    · rw [if_neg c1, if_neg c1]
      simp only [uX1_readLine_72, qX1_readLine_72, jX1_readLine_14_19, jX1_readLine_61_101, jX1_readLine_72_101, jX1_readLine_87_92, jX1_readLine_108_114, jX1_readLine_0_52, xst_z hz, c_charAt hz (show j < sl z by omega), xci_eq, c43_v h, cond_true, c_readPart h rs]
      by_cases c2 : (rpaP s (chZ z j) y).1 = 0
      · rw [if_pos c2, if_pos c2]
        simp only [uX1_readLine_87, qX1_readLine_87, jX1_readLine_14_19, jX1_readLine_61_101, jX1_readLine_72_101, jX1_readLine_87_92, jX1_readLine_108_114, jX1_readLine_0_52, c43_v h, cond_true, c_refuse h, xci_eq, refP_rt]
      · rw [if_neg c2, if_neg c2]
        simp only [uX1_readLine_92, qX1_readLine_92, jX1_readLine_14_19, jX1_readLine_61_101, jX1_readLine_72_101, jX1_readLine_87_92, jX1_readLine_108_114, jX1_readLine_0_52, eX_eq]
        exact e
/-- a line up to its parts -/
def rl0 (s : SG) (so : Int32) : SG := flS 5 (advS (couS s so (choI s (worZ so)))) 55 (-1)
def rliP (s : SG) (so : Int32) : Int32 × SG := if choI s (worZ so) = -1 then refP s else rlL so (choI s (worZ so)) (fomZ so) (sl (fomZ so) - staN (fomZ so) (choI s (worZ so))) (staN (fomZ so) (choI s (worZ so))) (rl0 s so) 0
theorem c_readLine {s : SG} {so : Int32} (h : SH K) (rs : RS s) : xN sc (d + 8) 22 [.inr (.inr (.inl (some 43))), .inl so] (wl K s) = some (some (.inl (rliP s so).1), wl K (rliP s so).2) := by
  have hz : fomZ so < 18 := fomZ_lt
  have h3 := sl_le (fomZ so) hz
  have rs1 : RS (couS s so (choI s (worZ so))) := couS_RS rs
  have rs2 : RS (rl0 s so) := RS_fl (by decide) (RS_adv rs1)
  have hl := staN_le (z := fomZ so) (x := choI s (worZ so))
  have L := l_readLine (sc := sc) (d := d) (so := so) (line := choI s (worZ so)) h hz (sl (fomZ so) - staN (fomZ so) (choI s (worZ so))) (staN (fomZ so) (choI s (worZ so))) xF (rl0 s so) 0 rs2 (by omega) (by have := xF_ge; omega)
  rw [mX1_readLine]
  simp only [uX1_readLine_0, qX1_readLine_0, jX1_readLine_14_19, jX1_readLine_61_101, jX1_readLine_72_101, jX1_readLine_87_92, jX1_readLine_108_114, jX1_readLine_0_52, c_wordsOf, xck_eq, c43_v h, cond_true, c_chosen h worZ_lt, xci_eq]
  unfold rliP
  by_cases c1 : choI s (worZ so) = -1
  · rw [if_pos c1, if_pos c1]
    simp only [uX1_readLine_14, qX1_readLine_14, jX1_readLine_14_19, jX1_readLine_61_101, jX1_readLine_72_101, jX1_readLine_87_92, jX1_readLine_108_114, jX1_readLine_0_52, c43_v h, cond_true, c_refuse h, xci_eq, refP_rt]
  · rw [if_neg c1, if_neg c1]
    simp only [uX1_readLine_19, qX1_readLine_19, jX1_readLine_14_19, jX1_readLine_61_101, jX1_readLine_72_101, jX1_readLine_87_92, jX1_readLine_108_114, jX1_readLine_0_52, c43_v h, cond_true, c_countLine h, xcv_eq, c_advanceR h rs1, c43_g5 h, bd_eq, fc55 h, c_formsOf, xck_eq, c_startOf hz, xci_eq]
    exact L
theorem rliP_RS {s : SG} {so : Int32} (rs : RS s) : RS (rliP s so).2 := by
  unfold rliP
  split
  · exact refP_RS rs
  · exact rlL_RS _ _ _ _ (RS_fl (by decide) (RS_adv (couS_RS rs)))
theorem rliP_IR {s : SG} {so : Int32} (hi : IR s) : IR (rliP s so).2 := by
  unfold rliP
  split
  · exact refP_IR hi
  · exact rlL_IR _ _ _ _ (IR_fl (by decide) (by decide) (advS_IR (couS_IR hi)))
theorem rliP_lo {s : SG} {so : Int32} {c : Nat} (ha : c < 42 ∨ 64 ≤ c) : (rliP s so).2 c = s c := by
  unfold rliP rl0
  split
  · exact refP_lo ha
  · rw [rlL_lo ha, fl_lo2 ha (by decide) (by decide), advS_lo ha, couS_lo ha]
def son0 (s : SG) (m : Nat) : SG := up (up (up (up (up (up (clwS (clrS s)) 43 2 0) 43 3 (-1)) 43 6 (nI m)) 43 9 0) 43 10 0) 43 11 0
def sonS (s : SG) (m : Nat) : SG := advS (son0 s m)
theorem son0_RA {s : SG} (hm : m ≤ 600) : RA (son0 s m) := by
  have e6 : son0 s m 43 6 = nI m := by unfold son0; simp (decide := true) only [up_a, up_b]
  have e9 : son0 s m 43 9 = nI 0 := by unfold son0; simp (decide := true) only [up_a, up_b]
  have l6 : ln (son0 s m) = m := by unfold ln; rw [e6, nI_clamp (by omega)]
  have l9 : en (son0 s m) = 0 := by unfold en; rw [e9, nI_clamp (by omega)]
  refine ⟨?_, ?_, ?_, ?_⟩
  · rw [l6]; exact e6
  · rw [l6]; exact hm
  · rw [l9]; exact e9
  · rw [l9]; omega
theorem c_startOn {s : SG} (h : SH K) (hm : m ≤ 600) : xN sc (d + 3) 17 [.inr (.inr (.inl (some 43))), .inl (nI m)] (wl K s) = some (none, wl K (sonS s m)) := by
  rw [mX1_startOn]
  have A := c_advance (sc := sc) (d := d) (s := son0 s m) h (son0_RA hm)
  simp only [uX1_startOn_0, qX1_startOn_0, c43_g0 h, c43_g1 h, bd_eq, c44_v h, c52_v h, cond_true, c_clearR h, c_clearW h, xcv_eq, c43_p2 h, c43_p3 h, c43_p6 h, c43_p9 h, c43_p10 h, c43_p11 h, c43_v h]
  unfold son0 at A
  rw [A]
  rfl
theorem sonS_RS {s : SG} (hm : m ≤ 600) : RS (sonS s m) := advS_RS (son0_RA hm)
theorem sonS_IR {s : SG} : IR (sonS s m) := by
  refine advS_IR ?_
  have e1 : son0 s m 44 0 = nI 0 := by
    unfold son0 clwS clrS
    simp (decide := true) only [up_a, up_b, up_c, fl_c]
  have e2 : son0 s m 52 0 = nI 0 := by
    unfold son0 clwS clrS
    simp (decide := true) only [up_a, up_b, up_c, fl_c]
  refine ⟨?_, ?_⟩
  · unfold SZ sz; rw [e1]; exact ⟨by decide, by decide⟩
  · unfold RZ rz; rw [e2]; exact ⟨by decide, by decide⟩
theorem sonS_lo {s : SG} {c : Nat} (ha : c < 42 ∨ 64 ≤ c) : sonS s m c = s c := by
  unfold sonS son0
  rw [advS_lo ha]
  simp (decide := true) only [up_lo2 ha, clwS_lo ha, clrS_lo ha]
def redT (s : SG) (so : Int32) : SG := if so = 0 then (if s 43 11 >>> (s 44 0 &&& 31) = 0 then s else notS s 4 (s 43 6)) else s
def redL (so : Int32) : Nat → SG → Int32 → SG
  | 0, s, _ => redT s so
  | n + 1, s, y => if y = 0 then redT s so else if s 43 7 = 0 then redT s so else redL so n (rliP s so).2 (rliP s so).1
theorem s_redT {s : SG} {so : Int32} {u : Nat} {x2 x4 x5 : Int32} {b : Nat → XL → List EV → EW → XR} (h : SH K) : fW sc 1 0 false 6 (xN sc (d + 8)) b kX1_read_52 52 [some (.inr (.inr (.inl (some 43)))), some (.inr (.inr (.inl (some u)))), some (.inl x2), some (.inl so), some (.inl x4), some (.inl x5)] [] (wl K s) = some (none, wl K (redT s so)) := by
  simp (decide := true) only [uX1_read_52, uX1_read_56, uX1_read_71, uX1_read_80, qX1_read_52, qX1_read_56, qX1_read_71, qX1_read_80, jX1_read_27_52, jX1_read_32_52, jX1_read_39_52, jX1_read_56_80, jX1_read_71_80, jX1_read_0_19, c43_g11 h, c43_g0 h, c44_g0 h, c43_g6 h, bd_eq, c43_v h, cond_true, c_note h, xcv_eq]
  unfold redT
  repeat' split
  all_goals first | rfl | contradiction
theorem l_read {so : Int32} {u : Nat} {x2 : Int32} (h : SH K) : ∀ (n j k : Nat) (s : SG) (y : Int32), RS s → j + n = 600 → n ≤ k → fW sc 1 0 false 6 (xN sc (d + 8)) (ex sc 1 0 false 6 (xN sc (d + 8)) kX1_read_0 k) kX1_read_19 19 [some (.inr (.inr (.inl (some 43)))), some (.inr (.inr (.inl (some u)))), some (.inl x2), some (.inl so), some (.inl y), some (.inl (nI j))] [] (wl K s) = some (none, wl K (redL so n s y)) := by
  intro n
  induction n with
  | zero =>
    intro j k s y rs hj hk
    simp only [uX1_read_19, qX1_read_19, jX1_read_27_52, jX1_read_32_52, jX1_read_39_52, jX1_read_56_80, jX1_read_71_80, jX1_read_0_19]
    rw [if_pos (show (600 : Int32) ≤ nI j from k_ge (m := 600) hj)]
    simp only [jX1_read_27_52, jX1_read_32_52, jX1_read_39_52, jX1_read_56_80, jX1_read_71_80, jX1_read_0_19, s_redT h]
    rw [redL]
  | succ n ih =>
    intro j k s y rs hj hk
    obtain ⟨k, rfl⟩ : ∃ k', k = k' + 1 := ⟨k - 1, by omega⟩
    have e := ih (j + 1) k (rliP s so).2 (rliP s so).1 (rliP_RS rs) (by omega) (by omega)
    rw [nI_succ] at e
    simp only [uX1_read_19, qX1_read_19, jX1_read_27_52, jX1_read_32_52, jX1_read_39_52, jX1_read_56_80, jX1_read_71_80, jX1_read_0_19]
    rw [if_neg (show ¬ (600 : Int32) ≤ nI j from k_lt (m := 600) hj (by decide))]
    simp only [uX1_read_27, uX1_read_32, uX1_read_39, qX1_read_27, qX1_read_32, qX1_read_39, jX1_read_27_52, jX1_read_32_52, jX1_read_39_52, jX1_read_56_80, jX1_read_71_80, jX1_read_0_19, c43_g7 h, bd_eq, c43_v h, cond_true, c_readLine h rs, xci_eq, eX_eq, s_redT h]
    rw [redL]
    repeat' split
    all_goals first | exact e | rfl | contradiction
def redS (s : SG) (u m : Nat) (so : Int32) : SG := redL so 600 (sonS (cpS 600 s u 54) m) 1
theorem c_read {s : SG} {so : Int32} {u : Nat} (h : SH K) (hu : K[u]? = some (kI 0 600)) (hm : m ≤ 600) : xN sc (d + 9) 16 [.inr (.inr (.inl (some 43))), .inr (.inr (.inl (some u))), .inl (nI m), .inl so] (wl K s) = some (none, wl K (redS s u m so)) := by
  rw [mX1_read]
  have L := l_read (sc := sc) (d := d) (so := so) (u := u) (x2 := nI m) h 600 0 xF (sonS (cpS 600 s u 54) m) 1 (sonS_RS hm) (by omega) (by have := xF_ge; omega)
  simp only [uX1_read_0, qX1_read_0, jX1_read_27_52, jX1_read_32_52, jX1_read_39_52, jX1_read_56_80, jX1_read_71_80, jX1_read_0_19, c43_g4 h, bd_eq, c_copy600 hu (K54 h), xcv_eq, c43_v h, cond_true, c_startOn h hm]
  exact L
theorem redT_lo {s : SG} {so : Int32} {c : Nat} (ha : c < 42 ∨ 64 ≤ c) : redT s so c = s c := by
  unfold redT
  repeat' split
  all_goals first | rfl | exact notS_lo ha
theorem redL_lo {so : Int32} {c : Nat} (ha : c < 42 ∨ 64 ≤ c) : ∀ (n : Nat) (s : SG) (y : Int32), redL so n s y c = s c := by
  intro n
  induction n with
  | zero => intro s y; rw [redL]; exact redT_lo ha
  | succ n ih =>
    intro s y
    rw [redL]
    repeat' split
    · exact redT_lo ha
    · exact redT_lo ha
    · rw [ih, rliP_lo ha]
theorem redL_IR {so : Int32} : ∀ (n : Nat) (s : SG) (y : Int32), IR s → IR (redL so n s y) := by
  have hT : ∀ s : SG, IR s → IR (redT s so) := by
    intro s hi
    unfold redT
    repeat' split
    all_goals first | exact hi | exact notS_IR hi
  intro n
  induction n with
  | zero => intro s y hi; rw [redL]; exact hT s hi
  | succ n ih =>
    intro s y hi
    rw [redL]
    repeat' split
    · exact hT s hi
    · exact hT s hi
    · exact ih _ _ (rliP_IR hi)
theorem redS_lo {s : SG} {so : Int32} {u c : Nat} (ha : c < 42 ∨ 64 ≤ c) : redS s u m so c = s c := by
  unfold redS
  rw [redL_lo ha, sonS_lo ha, cp_lo2 ha (by decide) (by decide)]
theorem redS_IR {s : SG} {so : Int32} {u : Nat} : IR (redS s u m so) := redL_IR 600 _ 1 sonS_IR
end XCN
end
