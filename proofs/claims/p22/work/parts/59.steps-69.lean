section
section XRQ
variable {sc : Nat × (Nat → Int32)} {d : Nat} {K : List KD} {s : SG} {b : Nat → XL → List EV → EW → XR} {x a1 a2 a3 a4 a5 a6 a7 : Int32}
/-! the law: one call -/
theorem LS_feed (h : INVP SIM1 K s) (g1 : ∀ w, xdi sc w (x + 1) (.inr (.inr (.inr 2))) = some a1) (g2 : ∀ w, xdi sc w (x + 2) (.inr (.inr (.inr 2))) = some a2) (g3 : ∀ w, xdi sc w (x + 3) (.inr (.inr (.inr 2))) = some a3) (g4 : ∀ w, xdi sc w (x + 4) (.inr (.inr (.inr 2))) = some a4) (g5 : ∀ w, xdi sc w (x + 5) (.inr (.inr (.inr 2))) = some a5) : ∃ s2, INVP SIM1 K s2 ∧ fW sc 8 4 false 4 (xN sc (d + 11)) b kL_law_164 164 [some (.inr (.inr (.inr 2))), some (.inr (.inr (.inl (some 0)))), some (.inr (.inr (.inl (some 64)))), some (.inl x)] [] (wl K s) = fW sc 8 4 false 4 (xN sc (d + 11)) b kL_law_1621 1621 [some (.inr (.inr (.inr 2))), some (.inr (.inr (.inl (some 0)))), some (.inr (.inr (.inl (some 64)))), some (.inl x)] [] (wl K s2) := by
  have hK := INVP_SH h
  obtain ⟨p, s2, e1, e2, _, i2⟩ := CQ_feed (sc := sc) (d := d) (x1 := a1) (x2 := a2) (x3 := a3) (x4 := a4) (x5 := a5) SIM1_gd h
  refine ⟨s2, i2, ?_⟩
  simp only [uL_law_164, qL_law_164, jL_law_164_227, jL_law_164_250, jL_law_164_283, jL_law_164_306, jL_law_164_339, jL_law_164_382, jL_law_164_457, jL_law_164_560, jL_law_164_603, jL_law_164_678, jL_law_164_721, jL_law_164_764, jL_law_164_827, jL_law_164_890, jL_law_164_949, jL_law_164_982, jL_law_164_1085, jL_law_164_1172, jL_law_164_1215, jL_law_164_1258, jL_law_164_1301, jL_law_164_1344, jL_law_164_1393, jL_law_164_1436, jL_law_164_1499, jL_law_164_1552, jL_law_164_1575, jL_law_164_1598, jL_law_164_1621, jL_law_227_1621, g1, g2, g3, g4, g5, bd2, c0_v hK, c64_v hK, cond_true, e1, e2, xci_eq]
theorem LS_end (h : INVP SIM1 K s) (g1 : ∀ w, xdi sc w (x + 1) (.inr (.inr (.inr 2))) = some a1) : ∃ s2, INVP SIM1 K s2 ∧ fW sc 8 4 false 4 (xN sc (d + 11)) b kL_law_227 227 [some (.inr (.inr (.inr 2))), some (.inr (.inr (.inl (some 0)))), some (.inr (.inr (.inl (some 64)))), some (.inl x)] [] (wl K s) = fW sc 8 4 false 4 (xN sc (d + 11)) b kL_law_1621 1621 [some (.inr (.inr (.inr 2))), some (.inr (.inr (.inl (some 0)))), some (.inr (.inr (.inl (some 64)))), some (.inl x)] [] (wl K s2) := by
  have hK := INVP_SH h
  obtain ⟨p, s2, e1, e2, _, i2⟩ := CQ_end (sc := sc) (d := d) (x1 := a1) SIM1_gd h
  refine ⟨s2, i2, ?_⟩
  simp only [uL_law_227, qL_law_227, jL_law_227_1621, jL_law_250_1621, g1, bd2, c0_v hK, c64_v hK, cond_true, e1, e2, xci_eq]
theorem LS_text (h : INVP SIM1 K s) (g1 : ∀ w, xdi sc w (x + 1) (.inr (.inr (.inr 2))) = some a1) (g2 : ∀ w, xdi sc w (x + 2) (.inr (.inr (.inr 2))) = some a2) : ∃ s2, INVP SIM1 K s2 ∧ fW sc 8 4 false 4 (xN sc (d + 11)) b kL_law_250 250 [some (.inr (.inr (.inr 2))), some (.inr (.inr (.inl (some 0)))), some (.inr (.inr (.inl (some 64)))), some (.inl x)] [] (wl K s) = fW sc 8 4 false 4 (xN sc (d + 11)) b kL_law_1621 1621 [some (.inr (.inr (.inr 2))), some (.inr (.inr (.inl (some 0)))), some (.inr (.inr (.inl (some 64)))), some (.inl x)] [] (wl K s2) := by
  have hK := INVP_SH h
  obtain ⟨p, s2, e1, e2, _, i2⟩ := CQ_text (sc := sc) (d := d) (x1 := a1) (x2 := a2) SIM1_gd h
  refine ⟨s2, i2, ?_⟩
  simp only [uL_law_250, qL_law_250, jL_law_250_1621, jL_law_283_1621, g1, g2, bd2, c0_v hK, c64_v hK, cond_true, e1, e2, xci_eq]
theorem LS_fault (h : INVP SIM1 K s) (g1 : ∀ w, xdi sc w (x + 1) (.inr (.inr (.inr 2))) = some a1) : ∃ s2, INVP SIM1 K s2 ∧ fW sc 8 4 false 4 (xN sc (d + 11)) b kL_law_283 283 [some (.inr (.inr (.inr 2))), some (.inr (.inr (.inl (some 0)))), some (.inr (.inr (.inl (some 64)))), some (.inl x)] [] (wl K s) = fW sc 8 4 false 4 (xN sc (d + 11)) b kL_law_1621 1621 [some (.inr (.inr (.inr 2))), some (.inr (.inr (.inl (some 0)))), some (.inr (.inr (.inl (some 64)))), some (.inl x)] [] (wl K s2) := by
  have hK := INVP_SH h
  obtain ⟨v1, v2, e1, e2, i2⟩ := CQ_fault (sc := sc) (d := d) (x1 := a1) SIM1_gd.1 h
  refine ⟨s, i2, ?_⟩
  simp only [uL_law_283, qL_law_283, jL_law_283_1621, jL_law_306_1621, g1, bd2, c0_v hK, c64_v hK, cond_true, e1, e2, xci_eq]
theorem LS_republic (h : INVP SIM1 K s) (g1 : ∀ w, xdi sc w (x + 1) (.inr (.inr (.inr 2))) = some a1) (g2 : ∀ w, xdi sc w (x + 2) (.inr (.inr (.inr 2))) = some a2) : ∃ s2, INVP SIM1 K s2 ∧ fW sc 8 4 false 4 (xN sc (d + 11)) b kL_law_306 306 [some (.inr (.inr (.inr 2))), some (.inr (.inr (.inl (some 0)))), some (.inr (.inr (.inl (some 64)))), some (.inl x)] [] (wl K s) = fW sc 8 4 false 4 (xN sc (d + 11)) b kL_law_1621 1621 [some (.inr (.inr (.inr 2))), some (.inr (.inr (.inl (some 0)))), some (.inr (.inr (.inl (some 64)))), some (.inl x)] [] (wl K s2) := by
  have hK := INVP_SH h
  obtain ⟨v1, v2, s1, s2, e1, e2, i2⟩ := CQ_republic (sc := sc) (d := d) (x1 := a1) (x2 := a2) SIM1_gd.1 h
  refine ⟨s2, i2, ?_⟩
  simp only [uL_law_306, qL_law_306, jL_law_306_1621, jL_law_339_1621, g1, g2, bd2, c0_v hK, c64_v hK, cond_true, e1, e2, xci_eq]
theorem LS_minister (h : INVP SIM1 K s) (g1 : ∀ w, xdi sc w (x + 1) (.inr (.inr (.inr 2))) = some a1) (g2 : ∀ w, xdi sc w (x + 2) (.inr (.inr (.inr 2))) = some a2) (g3 : ∀ w, xdi sc w (x + 3) (.inr (.inr (.inr 2))) = some a3) : ∃ s2, INVP SIM1 K s2 ∧ fW sc 8 4 false 4 (xN sc (d + 11)) b kL_law_339 339 [some (.inr (.inr (.inr 2))), some (.inr (.inr (.inl (some 0)))), some (.inr (.inr (.inl (some 64)))), some (.inl x)] [] (wl K s) = fW sc 8 4 false 4 (xN sc (d + 11)) b kL_law_1621 1621 [some (.inr (.inr (.inr 2))), some (.inr (.inr (.inl (some 0)))), some (.inr (.inr (.inl (some 64)))), some (.inl x)] [] (wl K s2) := by
  have hK := INVP_SH h
  obtain ⟨v1, v2, s1, s2, e1, e2, i2⟩ := CQ_minister (sc := sc) (d := d) (x1 := a1) (x2 := a2) (x3 := a3) SIM1_gd.1 h
  refine ⟨s2, i2, ?_⟩
  simp only [uL_law_339, qL_law_339, jL_law_339_1621, jL_law_382_1621, g1, g2, g3, bd2, c0_v hK, c64_v hK, cond_true, e1, e2, xci_eq]
theorem LS_off (h : INVP SIM1 K s) (g1 : ∀ w, xdi sc w (x + 1) (.inr (.inr (.inr 2))) = some a1) (g2 : ∀ w, xdi sc w (x + 2) (.inr (.inr (.inr 2))) = some a2) (g3 : ∀ w, xdi sc w (x + 3) (.inr (.inr (.inr 2))) = some a3) (g4 : ∀ w, xdi sc w (x + 4) (.inr (.inr (.inr 2))) = some a4) (g5 : ∀ w, xdi sc w (x + 5) (.inr (.inr (.inr 2))) = some a5) (g6 : ∀ w, xdi sc w (x + 6) (.inr (.inr (.inr 2))) = some a6) : ∃ s2, INVP SIM1 K s2 ∧ fW sc 8 4 false 4 (xN sc (d + 11)) b kL_law_382 382 [some (.inr (.inr (.inr 2))), some (.inr (.inr (.inl (some 0)))), some (.inr (.inr (.inl (some 64)))), some (.inl x)] [] (wl K s) = fW sc 8 4 false 4 (xN sc (d + 11)) b kL_law_1621 1621 [some (.inr (.inr (.inr 2))), some (.inr (.inr (.inl (some 0)))), some (.inr (.inr (.inl (some 64)))), some (.inl x)] [] (wl K s2) := by
  have hK := INVP_SH h
  obtain ⟨v1, v2, s1, s2, e1, e2, i2⟩ := CQ_off (sc := sc) (d := d) (x1 := a1) (x2 := a2) (x3 := a3) (x4 := a4) (x5 := a5) (x6 := a6) SIM1_gd.1 h
  refine ⟨s2, i2, ?_⟩
  simp only [uL_law_382, qL_law_382, jL_law_382_1621, jL_law_457_1621, g1, g2, g3, g4, g5, g6, bd2, c0_v hK, c64_v hK, cond_true, e1, e2, xci_eq]
theorem LS_vote (h : INVP SIM1 K s) (g1 : ∀ w, xdi sc w (x + 1) (.inr (.inr (.inr 2))) = some a1) (g2 : ∀ w, xdi sc w (x + 2) (.inr (.inr (.inr 2))) = some a2) (g3 : ∀ w, xdi sc w (x + 3) (.inr (.inr (.inr 2))) = some a3) (g4 : ∀ w, xdi sc w (x + 4) (.inr (.inr (.inr 2))) = some a4) (g5 : ∀ w, xdi sc w (x + 5) (.inr (.inr (.inr 2))) = some a5) (g6 : ∀ w, xdi sc w (x + 6) (.inr (.inr (.inr 2))) = some a6) (g7 : ∀ w, xdi sc w (x + 7) (.inr (.inr (.inr 2))) = some a7) : ∃ s2, INVP SIM1 K s2 ∧ fW sc 8 4 false 4 (xN sc (d + 11)) b kL_law_457 457 [some (.inr (.inr (.inr 2))), some (.inr (.inr (.inl (some 0)))), some (.inr (.inr (.inl (some 64)))), some (.inl x)] [] (wl K s) = fW sc 8 4 false 4 (xN sc (d + 11)) b kL_law_1621 1621 [some (.inr (.inr (.inr 2))), some (.inr (.inr (.inl (some 0)))), some (.inr (.inr (.inl (some 64)))), some (.inl x)] [] (wl K s2) := by
  have hK := INVP_SH h
  by_cases z : a7 = 0
  · skip
    obtain ⟨v1, v2, s1, s2, e1, e2, i2⟩ := CQ_vote (sc := sc) (d := d) (x1 := a1) (x2 := a2) (x3 := a3) (x4 := a4) (x5 := a5) (x6 := a6) (x7 := 0) SIM1_gd.1 h
    refine ⟨s2, i2, ?_⟩
    simp only [uL_law_457, uL_law_498, uL_law_502, uL_law_503, uL_law_548, uL_law_552, uL_law_553, qL_law_457, qL_law_498, qL_law_502, qL_law_503, qL_law_548, qL_law_552, qL_law_553, jL_law_457_1621, jL_law_498_502, jL_law_502_503, jL_law_548_552, jL_law_552_553, jL_law_560_1621, g1, g2, g3, g4, g5, g6, g7, bd2, c0_v hK, c64_v hK, cond_true, e1, e2, xci_eq, if_pos z]
  · skip
    obtain ⟨v1, v2, s1, s2, e1, e2, i2⟩ := CQ_vote (sc := sc) (d := d) (x1 := a1) (x2 := a2) (x3 := a3) (x4 := a4) (x5 := a5) (x6 := a6) (x7 := 1) SIM1_gd.1 h
    refine ⟨s2, i2, ?_⟩
    simp only [uL_law_457, uL_law_498, uL_law_502, uL_law_503, uL_law_548, uL_law_552, uL_law_553, qL_law_457, qL_law_498, qL_law_502, qL_law_503, qL_law_548, qL_law_552, qL_law_553, jL_law_457_1621, jL_law_498_502, jL_law_502_503, jL_law_548_552, jL_law_552_553, jL_law_560_1621, g1, g2, g3, g4, g5, g6, g7, bd2, c0_v hK, c64_v hK, cond_true, e1, e2, xci_eq, if_neg z]
theorem LS_order (h : INVP SIM1 K s) (g1 : ∀ w, xdi sc w (x + 1) (.inr (.inr (.inr 2))) = some a1) (g2 : ∀ w, xdi sc w (x + 2) (.inr (.inr (.inr 2))) = some a2) (g3 : ∀ w, xdi sc w (x + 3) (.inr (.inr (.inr 2))) = some a3) : ∃ s2, INVP SIM1 K s2 ∧ fW sc 8 4 false 4 (xN sc (d + 11)) b kL_law_560 560 [some (.inr (.inr (.inr 2))), some (.inr (.inr (.inl (some 0)))), some (.inr (.inr (.inl (some 64)))), some (.inl x)] [] (wl K s) = fW sc 8 4 false 4 (xN sc (d + 11)) b kL_law_1621 1621 [some (.inr (.inr (.inr 2))), some (.inr (.inr (.inl (some 0)))), some (.inr (.inr (.inl (some 64)))), some (.inl x)] [] (wl K s2) := by
  have hK := INVP_SH h
  obtain ⟨v1, v2, s1, s2, e1, e2, i2⟩ := CQ_order (sc := sc) (d := d) (x1 := a1) (x2 := a2) (x3 := a3) SIM1_gd.1 h
  refine ⟨s2, i2, ?_⟩
  simp only [uL_law_560, qL_law_560, jL_law_560_1621, jL_law_603_1621, g1, g2, g3, bd2, c0_v hK, c64_v hK, cond_true, e1, e2, xci_eq]
theorem LS_broken (h : INVP SIM1 K s) (g1 : ∀ w, xdi sc w (x + 1) (.inr (.inr (.inr 2))) = some a1) (g2 : ∀ w, xdi sc w (x + 2) (.inr (.inr (.inr 2))) = some a2) (g3 : ∀ w, xdi sc w (x + 3) (.inr (.inr (.inr 2))) = some a3) (g4 : ∀ w, xdi sc w (x + 4) (.inr (.inr (.inr 2))) = some a4) (g5 : ∀ w, xdi sc w (x + 5) (.inr (.inr (.inr 2))) = some a5) (g6 : ∀ w, xdi sc w (x + 6) (.inr (.inr (.inr 2))) = some a6) : ∃ s2, INVP SIM1 K s2 ∧ fW sc 8 4 false 4 (xN sc (d + 11)) b kL_law_603 603 [some (.inr (.inr (.inr 2))), some (.inr (.inr (.inl (some 0)))), some (.inr (.inr (.inl (some 64)))), some (.inl x)] [] (wl K s) = fW sc 8 4 false 4 (xN sc (d + 11)) b kL_law_1621 1621 [some (.inr (.inr (.inr 2))), some (.inr (.inr (.inl (some 0)))), some (.inr (.inr (.inl (some 64)))), some (.inl x)] [] (wl K s2) := by
  have hK := INVP_SH h
  obtain ⟨v1, v2, s1, s2, e1, e2, i2⟩ := CQ_broken (sc := sc) (d := d) (x1 := a1) (x2 := a2) (x3 := a3) (x4 := a4) (x5 := a5) (x6 := a6) SIM1_gd.1 h
  refine ⟨s2, i2, ?_⟩
  simp only [uL_law_603, qL_law_603, jL_law_603_1621, jL_law_678_1621, g1, g2, g3, g4, g5, g6, bd2, c0_v hK, c64_v hK, cond_true, e1, e2, xci_eq]
theorem LS_deed (h : INVP SIM1 K s) (g1 : ∀ w, xdi sc w (x + 1) (.inr (.inr (.inr 2))) = some a1) (g2 : ∀ w, xdi sc w (x + 2) (.inr (.inr (.inr 2))) = some a2) (g3 : ∀ w, xdi sc w (x + 3) (.inr (.inr (.inr 2))) = some a3) : ∃ s2, INVP SIM1 K s2 ∧ fW sc 8 4 false 4 (xN sc (d + 11)) b kL_law_678 678 [some (.inr (.inr (.inr 2))), some (.inr (.inr (.inl (some 0)))), some (.inr (.inr (.inl (some 64)))), some (.inl x)] [] (wl K s) = fW sc 8 4 false 4 (xN sc (d + 11)) b kL_law_1621 1621 [some (.inr (.inr (.inr 2))), some (.inr (.inr (.inl (some 0)))), some (.inr (.inr (.inl (some 64)))), some (.inl x)] [] (wl K s2) := by
  have hK := INVP_SH h
  obtain ⟨v1, v2, s1, s2, e1, e2, i2⟩ := CQ_deed (sc := sc) (d := d) (x1 := a1) (x2 := a2) (x3 := a3) SIM1_gd.1 h
  refine ⟨s2, i2, ?_⟩
  simp only [uL_law_678, qL_law_678, jL_law_678_1621, jL_law_721_1621, g1, g2, g3, bd2, c0_v hK, c64_v hK, cond_true, e1, e2, xci_eq]
theorem LS_stop (h : INVP SIM1 K s) (g1 : ∀ w, xdi sc w (x + 1) (.inr (.inr (.inr 2))) = some a1) (g2 : ∀ w, xdi sc w (x + 2) (.inr (.inr (.inr 2))) = some a2) (g3 : ∀ w, xdi sc w (x + 3) (.inr (.inr (.inr 2))) = some a3) : ∃ s2, INVP SIM1 K s2 ∧ fW sc 8 4 false 4 (xN sc (d + 11)) b kL_law_721 721 [some (.inr (.inr (.inr 2))), some (.inr (.inr (.inl (some 0)))), some (.inr (.inr (.inl (some 64)))), some (.inl x)] [] (wl K s) = fW sc 8 4 false 4 (xN sc (d + 11)) b kL_law_1621 1621 [some (.inr (.inr (.inr 2))), some (.inr (.inr (.inl (some 0)))), some (.inr (.inr (.inl (some 64)))), some (.inl x)] [] (wl K s2) := by
  have hK := INVP_SH h
  obtain ⟨v1, v2, s1, s2, e1, e2, i2⟩ := CQ_stop (sc := sc) (d := d) (x1 := a1) (x2 := a2) (x3 := a3) SIM1_gd.1 h
  refine ⟨s2, i2, ?_⟩
  simp only [uL_law_721, qL_law_721, jL_law_721_1621, jL_law_764_1621, g1, g2, g3, bd2, c0_v hK, c64_v hK, cond_true, e1, e2, xci_eq]
theorem LS_state (h : INVP SIM1 K s) (g1 : ∀ w, xdi sc w (x + 1) (.inr (.inr (.inr 2))) = some a1) (g2 : ∀ w, xdi sc w (x + 2) (.inr (.inr (.inr 2))) = some a2) (g3 : ∀ w, xdi sc w (x + 3) (.inr (.inr (.inr 2))) = some a3) (g4 : ∀ w, xdi sc w (x + 4) (.inr (.inr (.inr 2))) = some a4) (g5 : ∀ w, xdi sc w (x + 5) (.inr (.inr (.inr 2))) = some a5) : ∃ s2, INVP SIM1 K s2 ∧ fW sc 8 4 false 4 (xN sc (d + 11)) b kL_law_764 764 [some (.inr (.inr (.inr 2))), some (.inr (.inr (.inl (some 0)))), some (.inr (.inr (.inl (some 64)))), some (.inl x)] [] (wl K s) = fW sc 8 4 false 4 (xN sc (d + 11)) b kL_law_1621 1621 [some (.inr (.inr (.inr 2))), some (.inr (.inr (.inl (some 0)))), some (.inr (.inr (.inl (some 64)))), some (.inl x)] [] (wl K s2) := by
  have hK := INVP_SH h
  obtain ⟨v1, v2, s1, s2, e1, e2, i2⟩ := CQ_state (sc := sc) (d := d) (x1 := a1) (x2 := a2) (x3 := a3) (x4 := a4) (x5 := a5) SIM1_gd.1 h
  refine ⟨s2, i2, ?_⟩
  simp only [uL_law_764, qL_law_764, jL_law_764_1621, jL_law_827_1621, g1, g2, g3, g4, g5, bd2, c0_v hK, c64_v hK, cond_true, e1, e2, xci_eq]
theorem LS_agreed (h : INVP SIM1 K s) (g1 : ∀ w, xdi sc w (x + 1) (.inr (.inr (.inr 2))) = some a1) (g2 : ∀ w, xdi sc w (x + 2) (.inr (.inr (.inr 2))) = some a2) (g3 : ∀ w, xdi sc w (x + 3) (.inr (.inr (.inr 2))) = some a3) (g4 : ∀ w, xdi sc w (x + 4) (.inr (.inr (.inr 2))) = some a4) (g5 : ∀ w, xdi sc w (x + 5) (.inr (.inr (.inr 2))) = some a5) : ∃ s2, INVP SIM1 K s2 ∧ fW sc 8 4 false 4 (xN sc (d + 11)) b kL_law_827 827 [some (.inr (.inr (.inr 2))), some (.inr (.inr (.inl (some 0)))), some (.inr (.inr (.inl (some 64)))), some (.inl x)] [] (wl K s) = fW sc 8 4 false 4 (xN sc (d + 11)) b kL_law_1621 1621 [some (.inr (.inr (.inr 2))), some (.inr (.inr (.inl (some 0)))), some (.inr (.inr (.inl (some 64)))), some (.inl x)] [] (wl K s2) := by
  have hK := INVP_SH h
  obtain ⟨v1, v2, s1, s2, e1, e2, i2⟩ := CQ_agreed (sc := sc) (d := d) (x1 := a1) (x2 := a2) (x3 := a3) (x4 := a4) (x5 := a5) SIM1_gd.1 h
  refine ⟨s2, i2, ?_⟩
  simp only [uL_law_827, qL_law_827, jL_law_827_1621, jL_law_890_1621, g1, g2, g3, g4, g5, bd2, c0_v hK, c64_v hK, cond_true, e1, e2, xci_eq]
theorem LS_power (h : INVP SIM1 K s) (g1 : ∀ w, xdi sc w (x + 1) (.inr (.inr (.inr 2))) = some a1) (g2 : ∀ w, xdi sc w (x + 2) (.inr (.inr (.inr 2))) = some a2) (g3 : ∀ w, xdi sc w (x + 3) (.inr (.inr (.inr 2))) = some a3) : ∃ s2, INVP SIM1 K s2 ∧ fW sc 8 4 false 4 (xN sc (d + 11)) b kL_law_890 890 [some (.inr (.inr (.inr 2))), some (.inr (.inr (.inl (some 0)))), some (.inr (.inr (.inl (some 64)))), some (.inl x)] [] (wl K s) = fW sc 8 4 false 4 (xN sc (d + 11)) b kL_law_1621 1621 [some (.inr (.inr (.inr 2))), some (.inr (.inr (.inl (some 0)))), some (.inr (.inr (.inl (some 64)))), some (.inl x)] [] (wl K s2) := by
  have hK := INVP_SH h
  by_cases z : a3 = 0
  · skip
    obtain ⟨v1, v2, s1, s2, e1, e2, i2⟩ := CQ_power (sc := sc) (d := d) (x1 := a1) (x2 := a2) (x3 := 0) SIM1_gd.1 h
    refine ⟨s2, i2, ?_⟩
    simp only [uL_law_890, uL_law_909, uL_law_913, uL_law_914, uL_law_937, uL_law_941, uL_law_942, qL_law_890, qL_law_909, qL_law_913, qL_law_914, qL_law_937, qL_law_941, qL_law_942, jL_law_890_1621, jL_law_909_913, jL_law_913_914, jL_law_937_941, jL_law_941_942, jL_law_949_1621, g1, g2, g3, bd2, c0_v hK, c64_v hK, cond_true, e1, e2, xci_eq, if_pos z]
  · skip
    obtain ⟨v1, v2, s1, s2, e1, e2, i2⟩ := CQ_power (sc := sc) (d := d) (x1 := a1) (x2 := a2) (x3 := 1) SIM1_gd.1 h
    refine ⟨s2, i2, ?_⟩
    simp only [uL_law_890, uL_law_909, uL_law_913, uL_law_914, uL_law_937, uL_law_941, uL_law_942, qL_law_890, qL_law_909, qL_law_913, qL_law_914, qL_law_937, qL_law_941, qL_law_942, jL_law_890_1621, jL_law_909_913, jL_law_913_914, jL_law_937_941, jL_law_941_942, jL_law_949_1621, g1, g2, g3, bd2, c0_v hK, c64_v hK, cond_true, e1, e2, xci_eq, if_neg z]
theorem LS_coalition (h : INVP SIM1 K s) (g1 : ∀ w, xdi sc w (x + 1) (.inr (.inr (.inr 2))) = some a1) (g2 : ∀ w, xdi sc w (x + 2) (.inr (.inr (.inr 2))) = some a2) : ∃ s2, INVP SIM1 K s2 ∧ fW sc 8 4 false 4 (xN sc (d + 11)) b kL_law_949 949 [some (.inr (.inr (.inr 2))), some (.inr (.inr (.inl (some 0)))), some (.inr (.inr (.inl (some 64)))), some (.inl x)] [] (wl K s) = fW sc 8 4 false 4 (xN sc (d + 11)) b kL_law_1621 1621 [some (.inr (.inr (.inr 2))), some (.inr (.inr (.inl (some 0)))), some (.inr (.inr (.inl (some 64)))), some (.inl x)] [] (wl K s2) := by
  have hK := INVP_SH h
  obtain ⟨v1, v2, s1, s2, e1, e2, i2⟩ := CQ_coalition (sc := sc) (d := d) (x1 := a1) (x2 := a2) SIM1_gd.1 h
  refine ⟨s2, i2, ?_⟩
  simp only [uL_law_949, qL_law_949, jL_law_949_1621, jL_law_982_1621, g1, g2, bd2, c0_v hK, c64_v hK, cond_true, e1, e2, xci_eq]
theorem LS_bribe (h : INVP SIM1 K s) (g1 : ∀ w, xdi sc w (x + 1) (.inr (.inr (.inr 2))) = some a1) (g2 : ∀ w, xdi sc w (x + 2) (.inr (.inr (.inr 2))) = some a2) (g3 : ∀ w, xdi sc w (x + 3) (.inr (.inr (.inr 2))) = some a3) (g4 : ∀ w, xdi sc w (x + 4) (.inr (.inr (.inr 2))) = some a4) (g5 : ∀ w, xdi sc w (x + 5) (.inr (.inr (.inr 2))) = some a5) (g6 : ∀ w, xdi sc w (x + 6) (.inr (.inr (.inr 2))) = some a6) (g7 : ∀ w, xdi sc w (x + 7) (.inr (.inr (.inr 2))) = some a7) : ∃ s2, INVP SIM1 K s2 ∧ fW sc 8 4 false 4 (xN sc (d + 11)) b kL_law_982 982 [some (.inr (.inr (.inr 2))), some (.inr (.inr (.inl (some 0)))), some (.inr (.inr (.inl (some 64)))), some (.inl x)] [] (wl K s) = fW sc 8 4 false 4 (xN sc (d + 11)) b kL_law_1621 1621 [some (.inr (.inr (.inr 2))), some (.inr (.inr (.inl (some 0)))), some (.inr (.inr (.inl (some 64)))), some (.inl x)] [] (wl K s2) := by
  have hK := INVP_SH h
  by_cases z : a7 = 0
  · skip
    obtain ⟨v1, v2, s1, s2, e1, e2, i2⟩ := CQ_bribe (sc := sc) (d := d) (x1 := a1) (x2 := a2) (x3 := a3) (x4 := a4) (x5 := a5) (x6 := a6) (x7 := 0) SIM1_gd.1 h
    refine ⟨s2, i2, ?_⟩
    simp only [uL_law_982, uL_law_1023, uL_law_1027, uL_law_1028, uL_law_1073, uL_law_1077, uL_law_1078, qL_law_982, qL_law_1023, qL_law_1027, qL_law_1028, qL_law_1073, qL_law_1077, qL_law_1078, jL_law_982_1621, jL_law_1023_1027, jL_law_1027_1028, jL_law_1073_1077, jL_law_1077_1078, jL_law_1085_1621, g1, g2, g3, g4, g5, g6, g7, bd2, c0_v hK, c64_v hK, cond_true, e1, e2, xci_eq, if_pos z]
  · skip
    obtain ⟨v1, v2, s1, s2, e1, e2, i2⟩ := CQ_bribe (sc := sc) (d := d) (x1 := a1) (x2 := a2) (x3 := a3) (x4 := a4) (x5 := a5) (x6 := a6) (x7 := 1) SIM1_gd.1 h
    refine ⟨s2, i2, ?_⟩
    simp only [uL_law_982, uL_law_1023, uL_law_1027, uL_law_1028, uL_law_1073, uL_law_1077, uL_law_1078, qL_law_982, qL_law_1023, qL_law_1027, qL_law_1028, qL_law_1073, qL_law_1077, qL_law_1078, jL_law_982_1621, jL_law_1023_1027, jL_law_1027_1028, jL_law_1073_1077, jL_law_1077_1078, jL_law_1085_1621, g1, g2, g3, g4, g5, g6, g7, bd2, c0_v hK, c64_v hK, cond_true, e1, e2, xci_eq, if_neg z]
theorem LS_lobby (h : INVP SIM1 K s) (g1 : ∀ w, xdi sc w (x + 1) (.inr (.inr (.inr 2))) = some a1) (g2 : ∀ w, xdi sc w (x + 2) (.inr (.inr (.inr 2))) = some a2) (g3 : ∀ w, xdi sc w (x + 3) (.inr (.inr (.inr 2))) = some a3) (g4 : ∀ w, xdi sc w (x + 4) (.inr (.inr (.inr 2))) = some a4) (g5 : ∀ w, xdi sc w (x + 5) (.inr (.inr (.inr 2))) = some a5) (g6 : ∀ w, xdi sc w (x + 6) (.inr (.inr (.inr 2))) = some a6) (g7 : ∀ w, xdi sc w (x + 7) (.inr (.inr (.inr 2))) = some a7) : ∃ s2, INVP SIM1 K s2 ∧ fW sc 8 4 false 4 (xN sc (d + 11)) b kL_law_1085 1085 [some (.inr (.inr (.inr 2))), some (.inr (.inr (.inl (some 0)))), some (.inr (.inr (.inl (some 64)))), some (.inl x)] [] (wl K s) = fW sc 8 4 false 4 (xN sc (d + 11)) b kL_law_1621 1621 [some (.inr (.inr (.inr 2))), some (.inr (.inr (.inl (some 0)))), some (.inr (.inr (.inl (some 64)))), some (.inl x)] [] (wl K s2) := by
  have hK := INVP_SH h
  obtain ⟨v1, v2, s1, s2, e1, e2, i2⟩ := CQ_lobby (sc := sc) (d := d) (x1 := a1) (x2 := a2) (x3 := a3) (x4 := a4) (x5 := a5) (x6 := a6) (x7 := a7) SIM1_gd.1 h
  refine ⟨s2, i2, ?_⟩
  simp only [uL_law_1085, qL_law_1085, jL_law_1085_1621, jL_law_1172_1621, g1, g2, g3, g4, g5, g6, g7, bd2, c0_v hK, c64_v hK, cond_true, e1, e2, xci_eq]
theorem LS_bargain (h : INVP SIM1 K s) (g1 : ∀ w, xdi sc w (x + 1) (.inr (.inr (.inr 2))) = some a1) (g2 : ∀ w, xdi sc w (x + 2) (.inr (.inr (.inr 2))) = some a2) (g3 : ∀ w, xdi sc w (x + 3) (.inr (.inr (.inr 2))) = some a3) : ∃ s2, INVP SIM1 K s2 ∧ fW sc 8 4 false 4 (xN sc (d + 11)) b kL_law_1172 1172 [some (.inr (.inr (.inr 2))), some (.inr (.inr (.inl (some 0)))), some (.inr (.inr (.inl (some 64)))), some (.inl x)] [] (wl K s) = fW sc 8 4 false 4 (xN sc (d + 11)) b kL_law_1621 1621 [some (.inr (.inr (.inr 2))), some (.inr (.inr (.inl (some 0)))), some (.inr (.inr (.inl (some 64)))), some (.inl x)] [] (wl K s2) := by
  have hK := INVP_SH h
  obtain ⟨v1, v2, s1, s2, e1, e2, i2⟩ := CQ_bargain (sc := sc) (d := d) (x1 := a1) (x2 := a2) (x3 := a3) SIM1_gd.1 h
  refine ⟨s2, i2, ?_⟩
  simp only [uL_law_1172, qL_law_1172, jL_law_1172_1621, jL_law_1215_1621, g1, g2, g3, bd2, c0_v hK, c64_v hK, cond_true, e1, e2, xci_eq]
theorem LS_was (h : INVP SIM1 K s) (g1 : ∀ w, xdi sc w (x + 1) (.inr (.inr (.inr 2))) = some a1) (g2 : ∀ w, xdi sc w (x + 2) (.inr (.inr (.inr 2))) = some a2) (g3 : ∀ w, xdi sc w (x + 3) (.inr (.inr (.inr 2))) = some a3) : ∃ s2, INVP SIM1 K s2 ∧ fW sc 8 4 false 4 (xN sc (d + 11)) b kL_law_1215 1215 [some (.inr (.inr (.inr 2))), some (.inr (.inr (.inl (some 0)))), some (.inr (.inr (.inl (some 64)))), some (.inl x)] [] (wl K s) = fW sc 8 4 false 4 (xN sc (d + 11)) b kL_law_1621 1621 [some (.inr (.inr (.inr 2))), some (.inr (.inr (.inl (some 0)))), some (.inr (.inr (.inl (some 64)))), some (.inl x)] [] (wl K s2) := by
  have hK := INVP_SH h
  obtain ⟨v1, v2, s1, s2, e1, e2, i2⟩ := CQ_was (sc := sc) (d := d) (x1 := a1) (x2 := a2) (x3 := a3) SIM1_gd.1 h
  refine ⟨s2, i2, ?_⟩
  simp only [uL_law_1215, qL_law_1215, jL_law_1215_1621, jL_law_1258_1621, g1, g2, g3, bd2, c0_v hK, c64_v hK, cond_true, e1, e2, xci_eq]
theorem LS_nature (h : INVP SIM1 K s) (g1 : ∀ w, xdi sc w (x + 1) (.inr (.inr (.inr 2))) = some a1) (g2 : ∀ w, xdi sc w (x + 2) (.inr (.inr (.inr 2))) = some a2) (g3 : ∀ w, xdi sc w (x + 3) (.inr (.inr (.inr 2))) = some a3) : ∃ s2, INVP SIM1 K s2 ∧ fW sc 8 4 false 4 (xN sc (d + 11)) b kL_law_1258 1258 [some (.inr (.inr (.inr 2))), some (.inr (.inr (.inl (some 0)))), some (.inr (.inr (.inl (some 64)))), some (.inl x)] [] (wl K s) = fW sc 8 4 false 4 (xN sc (d + 11)) b kL_law_1621 1621 [some (.inr (.inr (.inr 2))), some (.inr (.inr (.inl (some 0)))), some (.inr (.inr (.inl (some 64)))), some (.inl x)] [] (wl K s2) := by
  have hK := INVP_SH h
  obtain ⟨v, s1, s2, e1, e2, i2⟩ := CE_nature (sc := sc) (d := d) (x1 := a1) (x2 := a2) (x3 := a3) SIM1_gd.1 h
  refine ⟨s2, i2, ?_⟩
  simp only [uL_law_1258, uL_law_1299, qL_law_1258, qL_law_1299, jL_law_1258_1621, jL_law_1299_1621, g1, g2, g3, bd2, c0_v hK, c64_v hK, cond_true, e1, e2, xci_eq, if_true]
theorem LS_seats (h : INVP SIM1 K s) (g1 : ∀ w, xdi sc w (x + 1) (.inr (.inr (.inr 2))) = some a1) (g2 : ∀ w, xdi sc w (x + 2) (.inr (.inr (.inr 2))) = some a2) (g3 : ∀ w, xdi sc w (x + 3) (.inr (.inr (.inr 2))) = some a3) : ∃ s2, INVP SIM1 K s2 ∧ fW sc 8 4 false 4 (xN sc (d + 11)) b kL_law_1301 1301 [some (.inr (.inr (.inr 2))), some (.inr (.inr (.inl (some 0)))), some (.inr (.inr (.inl (some 64)))), some (.inl x)] [] (wl K s) = fW sc 8 4 false 4 (xN sc (d + 11)) b kL_law_1621 1621 [some (.inr (.inr (.inr 2))), some (.inr (.inr (.inl (some 0)))), some (.inr (.inr (.inl (some 64)))), some (.inl x)] [] (wl K s2) := by
  have hK := INVP_SH h
  obtain ⟨v1, v2, s1, s2, e1, e2, i2⟩ := CQ_seats (sc := sc) (d := d) (x1 := a1) (x2 := a2) (x3 := a3) SIM1_gd.1 h
  refine ⟨s2, i2, ?_⟩
  simp only [uL_law_1301, qL_law_1301, jL_law_1344_1621, g1, g2, g3, bd2, c0_v hK, c64_v hK, cond_true, e1, e2, xci_eq]
theorem LS_reshuffle (h : INVP SIM1 K s) (g1 : ∀ w, xdi sc w (x + 1) (.inr (.inr (.inr 2))) = some a1) (g2 : ∀ w, xdi sc w (x + 2) (.inr (.inr (.inr 2))) = some a2) : ∃ s2, INVP SIM1 K s2 ∧ fW sc 8 4 false 4 (xN sc (d + 11)) b kL_law_1344 1344 [some (.inr (.inr (.inr 2))), some (.inr (.inr (.inl (some 0)))), some (.inr (.inr (.inl (some 64)))), some (.inl x)] [] (wl K s) = fW sc 8 4 false 4 (xN sc (d + 11)) b kL_law_1621 1621 [some (.inr (.inr (.inr 2))), some (.inr (.inr (.inl (some 0)))), some (.inr (.inr (.inl (some 64)))), some (.inl x)] [] (wl K s2) := by
  have hK := INVP_SH h
  by_cases z : a2 = 0
  · skip
    obtain ⟨v1, v2, s1, s2, e1, e2, i2⟩ := CQ_reshuffle (sc := sc) (d := d) (x1 := a1) (x2 := 0) SIM1_gd.1 h
    refine ⟨s2, i2, ?_⟩
    simp only [uL_law_1344, uL_law_1358, uL_law_1362, uL_law_1363, uL_law_1381, uL_law_1385, uL_law_1386, qL_law_1344, qL_law_1358, qL_law_1362, qL_law_1363, qL_law_1381, qL_law_1385, qL_law_1386, jL_law_1344_1621, jL_law_1358_1362, jL_law_1362_1363, jL_law_1381_1385, jL_law_1385_1386, jL_law_1393_1621, g1, g2, bd2, c0_v hK, c64_v hK, cond_true, e1, e2, xci_eq, if_pos z]
  · skip
    obtain ⟨v1, v2, s1, s2, e1, e2, i2⟩ := CQ_reshuffle (sc := sc) (d := d) (x1 := a1) (x2 := 1) SIM1_gd.1 h
    refine ⟨s2, i2, ?_⟩
    simp only [uL_law_1344, uL_law_1358, uL_law_1362, uL_law_1363, uL_law_1381, uL_law_1385, uL_law_1386, qL_law_1344, qL_law_1358, qL_law_1362, qL_law_1363, qL_law_1381, qL_law_1385, qL_law_1386, jL_law_1344_1621, jL_law_1358_1362, jL_law_1362_1363, jL_law_1381_1385, jL_law_1385_1386, jL_law_1393_1621, g1, g2, bd2, c0_v hK, c64_v hK, cond_true, e1, e2, xci_eq, if_neg z]
theorem LS_leak (h : INVP SIM1 K s) (g1 : ∀ w, xdi sc w (x + 1) (.inr (.inr (.inr 2))) = some a1) (g2 : ∀ w, xdi sc w (x + 2) (.inr (.inr (.inr 2))) = some a2) (g3 : ∀ w, xdi sc w (x + 3) (.inr (.inr (.inr 2))) = some a3) : ∃ s2, INVP SIM1 K s2 ∧ fW sc 8 4 false 4 (xN sc (d + 11)) b kL_law_1393 1393 [some (.inr (.inr (.inr 2))), some (.inr (.inr (.inl (some 0)))), some (.inr (.inr (.inl (some 64)))), some (.inl x)] [] (wl K s) = fW sc 8 4 false 4 (xN sc (d + 11)) b kL_law_1621 1621 [some (.inr (.inr (.inr 2))), some (.inr (.inr (.inl (some 0)))), some (.inr (.inr (.inl (some 64)))), some (.inl x)] [] (wl K s2) := by
  have hK := INVP_SH h
  obtain ⟨v1, v2, s1, s2, e1, e2, i2⟩ := CQ_leak (sc := sc) (d := d) (x1 := a1) (x2 := a2) (x3 := a3) SIM1_gd.1 h
  refine ⟨s2, i2, ?_⟩
  simp only [uL_law_1393, qL_law_1393, jL_law_1393_1621, jL_law_1436_1621, g1, g2, g3, bd2, c0_v hK, c64_v hK, cond_true, e1, e2, xci_eq]
theorem LS_fits (h : INVP SIM1 K s) (g1 : ∀ w, xdi sc w (x + 1) (.inr (.inr (.inr 2))) = some a1) (g2 : ∀ w, xdi sc w (x + 2) (.inr (.inr (.inr 2))) = some a2) (g3 : ∀ w, xdi sc w (x + 3) (.inr (.inr (.inr 2))) = some a3) (g4 : ∀ w, xdi sc w (x + 4) (.inr (.inr (.inr 2))) = some a4) (g5 : ∀ w, xdi sc w (x + 5) (.inr (.inr (.inr 2))) = some a5) : ∃ s2, INVP SIM1 K s2 ∧ fW sc 8 4 false 4 (xN sc (d + 11)) b kL_law_1436 1436 [some (.inr (.inr (.inr 2))), some (.inr (.inr (.inl (some 0)))), some (.inr (.inr (.inl (some 64)))), some (.inl x)] [] (wl K s) = fW sc 8 4 false 4 (xN sc (d + 11)) b kL_law_1621 1621 [some (.inr (.inr (.inr 2))), some (.inr (.inr (.inl (some 0)))), some (.inr (.inr (.inl (some 64)))), some (.inl x)] [] (wl K s2) := by
  have hK := INVP_SH h
  obtain ⟨v1, v2, s1, s2, e1, e2, i2⟩ := CQ_fits (sc := sc) (d := d) (x1 := a1) (x2 := a2) (x3 := a3) (x4 := a4) (x5 := a5) SIM1_gd.1 h
  refine ⟨s2, i2, ?_⟩
  simp only [uL_law_1436, qL_law_1436, jL_law_1436_1621, jL_law_1499_1621, g1, g2, g3, g4, g5, bd2, c0_v hK, c64_v hK, cond_true, e1, e2, xci_eq]
theorem LS_drawn (h : INVP SIM1 K s) (g1 : ∀ w, xdi sc w (x + 1) (.inr (.inr (.inr 2))) = some a1) (g2 : ∀ w, xdi sc w (x + 2) (.inr (.inr (.inr 2))) = some a2) (g3 : ∀ w, xdi sc w (x + 3) (.inr (.inr (.inr 2))) = some a3) (g4 : ∀ w, xdi sc w (x + 4) (.inr (.inr (.inr 2))) = some a4) : ∃ s2, INVP SIM1 K s2 ∧ fW sc 8 4 false 4 (xN sc (d + 11)) b kL_law_1499 1499 [some (.inr (.inr (.inr 2))), some (.inr (.inr (.inl (some 0)))), some (.inr (.inr (.inl (some 64)))), some (.inl x)] [] (wl K s) = fW sc 8 4 false 4 (xN sc (d + 11)) b kL_law_1621 1621 [some (.inr (.inr (.inr 2))), some (.inr (.inr (.inl (some 0)))), some (.inr (.inr (.inl (some 64)))), some (.inl x)] [] (wl K s2) := by
  have hK := INVP_SH h
  obtain ⟨v1, v2, s1, s2, e1, e2, i2⟩ := CQ_drawn (sc := sc) (d := d) (x1 := a1) (x2 := a2) (x3 := a3) (x4 := a4) SIM1_gd.1 h
  refine ⟨s2, i2, ?_⟩
  simp only [uL_law_1499, qL_law_1499, jL_law_1499_1621, jL_law_1552_1621, g1, g2, g3, g4, bd2, c0_v hK, c64_v hK, cond_true, e1, e2, xci_eq]
theorem LS_count (h : INVP SIM1 K s) (g1 : ∀ w, xdi sc w (x + 1) (.inr (.inr (.inr 2))) = some a1) : ∃ s2, INVP SIM1 K s2 ∧ fW sc 8 4 false 4 (xN sc (d + 11)) b kL_law_1552 1552 [some (.inr (.inr (.inr 2))), some (.inr (.inr (.inl (some 0)))), some (.inr (.inr (.inl (some 64)))), some (.inl x)] [] (wl K s) = fW sc 8 4 false 4 (xN sc (d + 11)) b kL_law_1621 1621 [some (.inr (.inr (.inr 2))), some (.inr (.inr (.inl (some 0)))), some (.inr (.inr (.inl (some 64)))), some (.inl x)] [] (wl K s2) := by
  have hK := INVP_SH h
  obtain ⟨v1, v2, e1, e2, i2⟩ := CQ_count (sc := sc) (d := d) (x1 := a1) SIM1_gd.1 h
  refine ⟨s, i2, ?_⟩
  simp only [uL_law_1552, qL_law_1552, jL_law_1552_1621, jL_law_1575_1621, g1, bd2, c0_v hK, c64_v hK, cond_true, e1, e2, xci_eq]
theorem LS_image (h : INVP SIM1 K s) (g1 : ∀ w, xdi sc w (x + 1) (.inr (.inr (.inr 2))) = some a1) : ∃ K2 s2, INVP SIM1 K2 s2 ∧ fW sc 8 4 false 4 (xN sc (d + 11)) b kL_law_1575 1575 [some (.inr (.inr (.inr 2))), some (.inr (.inr (.inl (some 0)))), some (.inr (.inr (.inl (some 64)))), some (.inl x)] [] (wl K s) = fW sc 8 4 false 4 (xN sc (d + 11)) b kL_law_1621 1621 [some (.inr (.inr (.inr 2))), some (.inr (.inr (.inl (some 0)))), some (.inr (.inr (.inl (some 64)))), some (.inl x)] [] (wl K2 s2) := by
  have hK := INVP_SH h
  obtain ⟨v, K2, s1, s2, e1, hK2, e2, i2⟩ := CE_image (sc := sc) (d := d) (x1 := a1) SIM1_gd.1 h
  refine ⟨K2, s2, i2, ?_⟩
  simp only [uL_law_1575, qL_law_1575, jL_law_1575_1621, jL_law_1598_1621, g1, bd2, c0_v hK, c64_v hK2, cond_true, e1, e2, xci_eq]
theorem LS_again (h : INVP SIM1 K s) (g1 : ∀ w, xdi sc w (x + 1) (.inr (.inr (.inr 2))) = some a1) : ∃ s2, INVP SIM1 K s2 ∧ fW sc 8 4 false 4 (xN sc (d + 11)) b kL_law_1598 1598 [some (.inr (.inr (.inr 2))), some (.inr (.inr (.inl (some 0)))), some (.inr (.inr (.inl (some 64)))), some (.inl x)] [] (wl K s) = fW sc 8 4 false 4 (xN sc (d + 11)) b kL_law_1621 1621 [some (.inr (.inr (.inr 2))), some (.inr (.inr (.inl (some 0)))), some (.inr (.inr (.inl (some 64)))), some (.inl x)] [] (wl K s2) := by
  have hK := INVP_SH h
  obtain ⟨v, s1, s2, e1, e2, i2⟩ := CE_again (sc := sc) (d := d) (x1 := a1) SIM1_gd.1 h
  refine ⟨s2, i2, ?_⟩
  simp only [uL_law_1598, qL_law_1598, jL_law_1598_1621, g1, bd2, c0_v hK, c64_v hK, cond_true, e1, e2, xci_eq]
end XRQ
end
section
section XRR
variable {sc : Nat × (Nat → Int32)} {d : Nat} {K : List KD} {s : SG} {b : Nat → XL → List EV → EW → XR} {x a1 : Int32}
/-! the law: its loop -/
theorem LSW {j a : Nat} (ha : a ≤ 63) (hj : j + 8 ≤ sc.1) (hN : sc.1 ≤ 4096) (h : INVP SIM1 K s) : ∃ K2 s2, INVP SIM1 K2 s2 ∧ fW sc 8 4 false 4 (xN sc (d + 11)) b kL_law_33 33 [some (.inr (.inr (.inr 2))), some (.inr (.inr (.inl (some 0)))), some (.inr (.inr (.inl (some 64)))), some (.inl (nI j))] [.inl (nI a)] (wl K s) = fW sc 8 4 false 4 (xN sc (d + 11)) b kL_law_1621 1621 [some (.inr (.inr (.inr 2))), some (.inr (.inr (.inl (some 0)))), some (.inr (.inr (.inl (some 64)))), some (.inl (nI j))] [] (wl K2 s2) := by
  have g : ∀ i, i < 8 → ∀ w, xdi sc w (nI j + nI i) (.inr (.inr (.inr 2))) = some (sc.2 (j + i)) := by
    intro i hi w
    rw [nI_add]
    show (bif xvb (nI (j + i)) sc.1 then some (sc.2 (nI (j + i)).toNatClampNeg) else none) = _
    rw [xvb_nI (by omega) (by omega), nI_clamp (by omega)]; rfl
  have g1 : ∀ w, xdi sc w (nI j + 1) (.inr (.inr (.inr 2))) = some (sc.2 (j + 1)) := g 1 (by omega)
  have g2 : ∀ w, xdi sc w (nI j + 2) (.inr (.inr (.inr 2))) = some (sc.2 (j + 2)) := g 2 (by omega)
  have g3 : ∀ w, xdi sc w (nI j + 3) (.inr (.inr (.inr 2))) = some (sc.2 (j + 3)) := g 3 (by omega)
  have g4 : ∀ w, xdi sc w (nI j + 4) (.inr (.inr (.inr 2))) = some (sc.2 (j + 4)) := g 4 (by omega)
  have g5 : ∀ w, xdi sc w (nI j + 5) (.inr (.inr (.inr 2))) = some (sc.2 (j + 5)) := g 5 (by omega)
  have g6 : ∀ w, xdi sc w (nI j + 6) (.inr (.inr (.inr 2))) = some (sc.2 (j + 6)) := g 6 (by omega)
  have g7 : ∀ w, xdi sc w (nI j + 7) (.inr (.inr (.inr 2))) = some (sc.2 (j + 7)) := g 7 (by omega)
  rw [uL_law_33]
  by_cases c : 28 < a
  · refine ⟨K, s, h, ?_⟩
    rw [qL_law_33_d (Or.inr (by rw [nI_toInt (by omega)]; omega)), jL_law_164_1621]
  have cs : a = 0 ∨ a = 1 ∨ a = 2 ∨ a = 3 ∨ a = 4 ∨ a = 5 ∨ a = 6 ∨ a = 7 ∨ a = 8 ∨ a = 9 ∨ a = 10 ∨ a = 11 ∨ a = 12 ∨ a = 13 ∨ a = 14 ∨ a = 15 ∨ a = 16 ∨ a = 17 ∨ a = 18 ∨ a = 19 ∨ a = 20 ∨ a = 21 ∨ a = 22 ∨ a = 23 ∨ a = 24 ∨ a = 25 ∨ a = 26 ∨ a = 27 ∨ a = 28 := by omega
  rcases cs with rfl | rfl | rfl | rfl | rfl | rfl | rfl | rfl | rfl | rfl | rfl | rfl | rfl | rfl | rfl | rfl | rfl | rfl | rfl | rfl | rfl | rfl | rfl | rfl | rfl | rfl | rfl | rfl | rfl
  · rw [show (nI 0 : Int32) = 0 from rfl, qL_law_33_c0]
    obtain ⟨s2, i2, e⟩ := LS_feed (sc := sc) (d := d) (b := b) h g1 g2 g3 g4 g5
    exact ⟨K, s2, i2, e⟩
  · rw [show (nI 1 : Int32) = 1 from rfl, qL_law_33_c1, jL_law_164_227]
    obtain ⟨s2, i2, e⟩ := LS_end (sc := sc) (d := d) (b := b) h g1
    exact ⟨K, s2, i2, e⟩
  · rw [show (nI 2 : Int32) = 2 from rfl, qL_law_33_c2, jL_law_164_250]
    obtain ⟨s2, i2, e⟩ := LS_text (sc := sc) (d := d) (b := b) h g1 g2
    exact ⟨K, s2, i2, e⟩
  · rw [show (nI 3 : Int32) = 3 from rfl, qL_law_33_c3, jL_law_164_283]
    obtain ⟨s2, i2, e⟩ := LS_fault (sc := sc) (d := d) (b := b) h g1
    exact ⟨K, s2, i2, e⟩
  · rw [show (nI 4 : Int32) = 4 from rfl, qL_law_33_c4, jL_law_164_306]
    obtain ⟨s2, i2, e⟩ := LS_republic (sc := sc) (d := d) (b := b) h g1 g2
    exact ⟨K, s2, i2, e⟩
  · rw [show (nI 5 : Int32) = 5 from rfl, qL_law_33_c5, jL_law_164_339]
    obtain ⟨s2, i2, e⟩ := LS_minister (sc := sc) (d := d) (b := b) h g1 g2 g3
    exact ⟨K, s2, i2, e⟩
  · rw [show (nI 6 : Int32) = 6 from rfl, qL_law_33_c6, jL_law_164_382]
    obtain ⟨s2, i2, e⟩ := LS_off (sc := sc) (d := d) (b := b) h g1 g2 g3 g4 g5 g6
    exact ⟨K, s2, i2, e⟩
  · rw [show (nI 7 : Int32) = 7 from rfl, qL_law_33_c7, jL_law_164_457]
    obtain ⟨s2, i2, e⟩ := LS_vote (sc := sc) (d := d) (b := b) h g1 g2 g3 g4 g5 g6 g7
    exact ⟨K, s2, i2, e⟩
  · rw [show (nI 8 : Int32) = 8 from rfl, qL_law_33_c8, jL_law_164_560]
    obtain ⟨s2, i2, e⟩ := LS_order (sc := sc) (d := d) (b := b) h g1 g2 g3
    exact ⟨K, s2, i2, e⟩
  · rw [show (nI 9 : Int32) = 9 from rfl, qL_law_33_c9, jL_law_164_603]
    obtain ⟨s2, i2, e⟩ := LS_broken (sc := sc) (d := d) (b := b) h g1 g2 g3 g4 g5 g6
    exact ⟨K, s2, i2, e⟩
  · rw [show (nI 10 : Int32) = 10 from rfl, qL_law_33_c10, jL_law_164_678]
    obtain ⟨s2, i2, e⟩ := LS_deed (sc := sc) (d := d) (b := b) h g1 g2 g3
    exact ⟨K, s2, i2, e⟩
  · rw [show (nI 11 : Int32) = 11 from rfl, qL_law_33_c11, jL_law_164_721]
    obtain ⟨s2, i2, e⟩ := LS_stop (sc := sc) (d := d) (b := b) h g1 g2 g3
    exact ⟨K, s2, i2, e⟩
  · rw [show (nI 12 : Int32) = 12 from rfl, qL_law_33_c12, jL_law_164_764]
    obtain ⟨s2, i2, e⟩ := LS_state (sc := sc) (d := d) (b := b) h g1 g2 g3 g4 g5
    exact ⟨K, s2, i2, e⟩
  · rw [show (nI 13 : Int32) = 13 from rfl, qL_law_33_c13, jL_law_164_827]
    obtain ⟨s2, i2, e⟩ := LS_agreed (sc := sc) (d := d) (b := b) h g1 g2 g3 g4 g5
    exact ⟨K, s2, i2, e⟩
  · rw [show (nI 14 : Int32) = 14 from rfl, qL_law_33_c14, jL_law_164_890]
    obtain ⟨s2, i2, e⟩ := LS_power (sc := sc) (d := d) (b := b) h g1 g2 g3
    exact ⟨K, s2, i2, e⟩
  · rw [show (nI 15 : Int32) = 15 from rfl, qL_law_33_c15, jL_law_164_949]
    obtain ⟨s2, i2, e⟩ := LS_coalition (sc := sc) (d := d) (b := b) h g1 g2
    exact ⟨K, s2, i2, e⟩
  · rw [show (nI 16 : Int32) = 16 from rfl, qL_law_33_c16, jL_law_164_982]
    obtain ⟨s2, i2, e⟩ := LS_bribe (sc := sc) (d := d) (b := b) h g1 g2 g3 g4 g5 g6 g7
    exact ⟨K, s2, i2, e⟩
  · rw [show (nI 17 : Int32) = 17 from rfl, qL_law_33_c17, jL_law_164_1085]
    obtain ⟨s2, i2, e⟩ := LS_lobby (sc := sc) (d := d) (b := b) h g1 g2 g3 g4 g5 g6 g7
    exact ⟨K, s2, i2, e⟩
  · rw [show (nI 18 : Int32) = 18 from rfl, qL_law_33_c18, jL_law_164_1172]
    obtain ⟨s2, i2, e⟩ := LS_bargain (sc := sc) (d := d) (b := b) h g1 g2 g3
    exact ⟨K, s2, i2, e⟩
  · rw [show (nI 19 : Int32) = 19 from rfl, qL_law_33_c19, jL_law_164_1215]
    obtain ⟨s2, i2, e⟩ := LS_was (sc := sc) (d := d) (b := b) h g1 g2 g3
    exact ⟨K, s2, i2, e⟩
  · rw [show (nI 20 : Int32) = 20 from rfl, qL_law_33_c20, jL_law_164_1258]
    obtain ⟨s2, i2, e⟩ := LS_nature (sc := sc) (d := d) (b := b) h g1 g2 g3
    exact ⟨K, s2, i2, e⟩
  · rw [show (nI 21 : Int32) = 21 from rfl, qL_law_33_c21, jL_law_164_1301]
    obtain ⟨s2, i2, e⟩ := LS_seats (sc := sc) (d := d) (b := b) h g1 g2 g3
    exact ⟨K, s2, i2, e⟩
  · rw [show (nI 22 : Int32) = 22 from rfl, qL_law_33_c22, jL_law_164_1344]
    obtain ⟨s2, i2, e⟩ := LS_reshuffle (sc := sc) (d := d) (b := b) h g1 g2
    exact ⟨K, s2, i2, e⟩
  · rw [show (nI 23 : Int32) = 23 from rfl, qL_law_33_c23, jL_law_164_1393]
    obtain ⟨s2, i2, e⟩ := LS_leak (sc := sc) (d := d) (b := b) h g1 g2 g3
    exact ⟨K, s2, i2, e⟩
  · rw [show (nI 24 : Int32) = 24 from rfl, qL_law_33_c24, jL_law_164_1436]
    obtain ⟨s2, i2, e⟩ := LS_fits (sc := sc) (d := d) (b := b) h g1 g2 g3 g4 g5
    exact ⟨K, s2, i2, e⟩
  · rw [show (nI 25 : Int32) = 25 from rfl, qL_law_33_c25, jL_law_164_1499]
    obtain ⟨s2, i2, e⟩ := LS_drawn (sc := sc) (d := d) (b := b) h g1 g2 g3 g4
    exact ⟨K, s2, i2, e⟩
  · rw [show (nI 26 : Int32) = 26 from rfl, qL_law_33_c26, jL_law_164_1552]
    obtain ⟨s2, i2, e⟩ := LS_count (sc := sc) (d := d) (b := b) h g1
    exact ⟨K, s2, i2, e⟩
  · rw [show (nI 27 : Int32) = 27 from rfl, qL_law_33_c27, jL_law_164_1575]
    exact LS_image h g1
  · rw [show (nI 28 : Int32) = 28 from rfl, qL_law_33_c28, jL_law_164_1598]
    obtain ⟨s2, i2, e⟩ := LS_again (sc := sc) (d := d) (b := b) h g1
    exact ⟨K, s2, i2, e⟩
theorem n8 {N j : Nat} (hN : N ≤ 4096) (hj : j ≤ 8192) : (N < j + 8 → nI N - 8 < nI j) ∧ (j + 8 ≤ N → ¬ nI N - 8 < nI j) := by
  by_cases c : 8 ≤ N
  · have e : nI N - 8 = nI (N - 8) := nI_subn c
    rw [e]
    exact ⟨fun h => nI_lt2 (by omega) (by omega), fun h => Int32.not_lt.mpr (nI_le2 (by omega) (by omega))⟩
  · have k : ∀ n, n < 8 → nI n - 8 < 0 := by decide
    exact ⟨fun _ => Int32.lt_of_lt_of_le (k N (by omega)) (nI_le2 (a := 0) (by omega) (by omega)), fun h => by omega⟩
theorem LOOP (hN : sc.1 ≤ 4096) : ∀ (n z j : Nat) (K : List KD) (s : SG), INVP SIM1 K s → j ≤ 8192 → sc.1 < j + 8 + 8 * n → n ≤ z → ∃ K2 s2, INVP SIM1 K2 s2 ∧ fW sc 8 4 false 4 (xN sc (d + 11)) (ex sc 8 4 false 4 (xN sc (d + 11)) kL_law_0 z) kL_law_18 18 [some (.inr (.inr (.inr 2))), some (.inr (.inr (.inl (some 0)))), some (.inr (.inr (.inl (some 64)))), some (.inl (nI j))] [] (wl K s) = some (some (.inl 1), wl K2 s2) := by
  intro n
  have fin : ∀ (z j : Nat) (K : List KD) (s : SG), INVP SIM1 K s → j ≤ 8192 → sc.1 < j + 8 → ∃ K2 s2, INVP SIM1 K2 s2 ∧ fW sc 8 4 false 4 (xN sc (d + 11)) (ex sc 8 4 false 4 (xN sc (d + 11)) kL_law_0 z) kL_law_18 18 [some (.inr (.inr (.inr 2))), some (.inr (.inr (.inl (some 0)))), some (.inr (.inr (.inl (some 64)))), some (.inl (nI j))] [] (wl K s) = some (some (.inl 1), wl K2 s2) := by
    intro z j K s h hj hn
    refine ⟨K, s, h, ?_⟩
    rw [uL_law_18, qL_law_18, show xnn sc (wl K s) (.inr (.inr (.inr 2))) = some sc.1 from rfl, bd2, if_pos ((n8 hN hj).1 hn), jL_law_27_1627, uL_law_1627, qL_law_1627]
  induction n with
  | zero =>
    intro z j K s h hj hn hz
    exact fin z j K s h hj (by omega)
  | succ n ih =>
    intro z j K s h hj hn hz
    by_cases c : sc.1 < j + 8
    · exact fin z j K s h hj c
    · obtain ⟨z, rfl⟩ : ∃ z', z = z' + 1 := ⟨z - 1, by omega⟩
      have e31 : ∀ v : Int32, ∃ a, v &&& 31 = nI a ∧ a ≤ 63 := fun v => b63 (by rw [Int32.and_assoc]; rfl)
      obtain ⟨a, ea, ha⟩ := e31 (sc.2 j)
      obtain ⟨K2, s2, i2, e⟩ := LSW (sc := sc) (d := d) (b := ex sc 8 4 false 4 (xN sc (d + 11)) kL_law_0 (z + 1)) ha (j := j) (by omega) hN h
      obtain ⟨K3, s3, i3, e3⟩ := ih z (j + 8) K2 s2 i2 (by omega) (by omega) (by omega)
      refine ⟨K3, s3, i3, ?_⟩
      have g0 : xdi sc (wl K s) (nI j) (.inr (.inr (.inr 2))) = some (sc.2 j) := by
        show (bif xvb (nI j) sc.1 then some (sc.2 (nI j).toNatClampNeg) else none) = _
        rw [xvb_nI (by omega) (by omega), nI_clamp (by omega)]; rfl
      rw [uL_law_18, qL_law_18, show xnn sc (wl K s) (.inr (.inr (.inr 2))) = some sc.1 from rfl, bd2, if_neg ((n8 hN hj).2 (by omega)), uL_law_27, qL_law_27, g0, bd2, ea, e, uL_law_1621, qL_law_1621, eX_eq, jL_law_0_18, show (nI j + 8 : Int32) = nI (j + 8) from nI_add j 8]
      exact e3
end XRR
end
section
section XRS
variable {sc : Nat × (Nat → Int32)} {d : Nat} {K : List KD} {r q t a B m : Nat} {w : EW}
section XIN
variable {sc : Nat × (Nat → Int32)} {d : Nat}
/-! the law's start: the constructors of the whole -/
theorem tld0_len {n : Nat} : (tld0 n).length = 41 := by
  unfold tld0
  rw [List.length_append, List.length_append, rps_len, rws_len]; rfl
theorem rep0_len {n : Nat} : (rep0 n).length = 8 := rfl
theorem row0_len {n : Nat} : (row0 n).length = 2 := rfl
def ix1 (n : Nat) : EW := cO 1 [eR (n + 1), eR (n + 9), eI 0, eI 0, eR (n + 11), eR (n + 12), eI 0, eI 0, eI 0, eI 0, eI 0, eI 0] :: (rep0 (n + 1) ++ (row0 (n + 9) ++ [cI 0 600 z0, cI 0 5 z0]))
def ix0 (n : Nat) : EW := [cO 0 [eR (n + 1), eI 0, eI 0, eI 0, eR (n + 2), eR (n + 3), eI 0, eI 0, eI 0, eI 0, eI 0, eI 0, eI 0], cO 4 [eI 0, eI 0, eI 0], cI 0 6 z0, cI 0 3 z0]
theorem ix1_len {n : Nat} : (ix1 n).length = 13 := rfl
theorem ix0_len {n : Nat} : (ix0 n).length = 4 := rfl
theorem c_init4 {w : EW} {r0 : Nat} : xN sc (d + 1) 63 [.inr (.inr (.inl (some r0)))] w = some (none, w) := by
  rw [mX4_init, uX4_init_0, qX4_init_0]
theorem c_init0 {w : EW} : xN sc (d + 2) 0 [.inr (.inr (.inl (some w.length)))] (w ++ [cO 0 [eN, eI 0, eI 0, eI 0, eN, eN, eI 0, eI 0, eI 0, eI 0, eI 0, eI 0, eI 0]]) = some (none, w ++ ix0 w.length) := by
  rw [mX0_init]
  have e1 : xp (w ++ [cO 0 [eN, eI 0, eI 0, eI 0, eN, eN, eI 0, eI 0, eI 0, eI 0, eI 0, eI 0, eI 0], cO 4 [eI 0, eI 0, eI 0]]) 0 0 (.inr (.inr (.inl (some (w.length + 1))))) (.inr (.inr (.inl (some w.length)))) = some (w ++ [cO 0 [eR (w.length + 1), eI 0, eI 0, eI 0, eN, eN, eI 0, eI 0, eI 0, eI 0, eI 0, eI 0, eI 0], cO 4 [eI 0, eI 0, eI 0]]) := xpA (k := 0) (fs := [eN, eI 0, eI 0, eI 0, eN, eN, eI 0, eI 0, eI 0, eI 0, eI 0, eI 0, eI 0]) rfl rfl
  have e2 : xp (w ++ [cO 0 [eR (w.length + 1), eI 0, eI 0, eI 0, eN, eN, eI 0, eI 0, eI 0, eI 0, eI 0, eI 0, eI 0], cO 4 [eI 0, eI 0, eI 0], cI 0 6 z0]) 0 4 (.inr (.inr (.inl (some (w.length + 2))))) (.inr (.inr (.inl (some w.length)))) = some (w ++ [cO 0 [eR (w.length + 1), eI 0, eI 0, eI 0, eR (w.length + 2), eN, eI 0, eI 0, eI 0, eI 0, eI 0, eI 0, eI 0], cO 4 [eI 0, eI 0, eI 0], cI 0 6 z0]) := xpA (k := 0) (fs := [eR (w.length + 1), eI 0, eI 0, eI 0, eN, eN, eI 0, eI 0, eI 0, eI 0, eI 0, eI 0, eI 0]) rfl rfl
  have e3 : xp (w ++ [cO 0 [eR (w.length + 1), eI 0, eI 0, eI 0, eR (w.length + 2), eN, eI 0, eI 0, eI 0, eI 0, eI 0, eI 0, eI 0], cO 4 [eI 0, eI 0, eI 0], cI 0 6 z0, cI 0 3 z0]) 0 5 (.inr (.inr (.inl (some (w.length + 3))))) (.inr (.inr (.inl (some w.length)))) = some (w ++ ix0 w.length) := xpA (k := 0) (fs := [eR (w.length + 1), eI 0, eI 0, eI 0, eR (w.length + 2), eN, eI 0, eI 0, eI 0, eI 0, eI 0, eI 0, eI 0]) rfl rfl
  simp only [uX0_init_0, qX0_init_0, List.append_assoc, List.cons_append, List.nil_append, List.length_append, List.length_cons, List.length_nil, Nat.zero_add, Nat.reduceAdd, Nat.add_assoc, tld0_len, ix1_len, ix0_len, rep0_len, row0_len, c_init4, xcv_eq, e1, e2, e3, bd_eq]
theorem c_init1 {w : EW} : xN sc (d + 2) 15 [.inr (.inr (.inl (some w.length)))] (w ++ [cO 1 [eN, eN, eI 0, eI 0, eN, eN, eI 0, eI 0, eI 0, eI 0, eI 0, eI 0]]) = some (none, w ++ ix1 w.length) := by
  rw [mX1_init]
  have a1 := c_init2 (sc := sc) (d := d) (w := w ++ [cO 1 [eN, eN, eI 0, eI 0, eN, eN, eI 0, eI 0, eI 0, eI 0, eI 0, eI 0]])
  simp only [List.append_assoc, List.cons_append, List.nil_append, List.length_append, List.length_cons, List.length_nil, Nat.zero_add, Nat.reduceAdd, Nat.add_assoc, tld0_len, ix1_len, ix0_len, rep0_len, row0_len] at a1
  have e1 : xp (w ++ (cO 1 [eN, eN, eI 0, eI 0, eN, eN, eI 0, eI 0, eI 0, eI 0, eI 0, eI 0] :: rep0 (w.length + 1))) 1 0 (.inr (.inr (.inl (some (w.length + 1))))) (.inr (.inr (.inl (some w.length)))) = some (w ++ (cO 1 [eR (w.length + 1), eN, eI 0, eI 0, eN, eN, eI 0, eI 0, eI 0, eI 0, eI 0, eI 0] :: rep0 (w.length + 1))) := xpA (k := 0) (fs := [eN, eN, eI 0, eI 0, eN, eN, eI 0, eI 0, eI 0, eI 0, eI 0, eI 0]) rfl rfl
  have a2 := c_init3 (sc := sc) (d := d) (w := w ++ (cO 1 [eR (w.length + 1), eN, eI 0, eI 0, eN, eN, eI 0, eI 0, eI 0, eI 0, eI 0, eI 0] :: rep0 (w.length + 1)))
  simp only [List.append_assoc, List.cons_append, List.nil_append, List.length_append, List.length_cons, List.length_nil, Nat.zero_add, Nat.reduceAdd, Nat.add_assoc, tld0_len, ix1_len, ix0_len, rep0_len, row0_len] at a2
  have e2 : xp (w ++ (cO 1 [eR (w.length + 1), eN, eI 0, eI 0, eN, eN, eI 0, eI 0, eI 0, eI 0, eI 0, eI 0] :: (rep0 (w.length + 1) ++ row0 (w.length + 9)))) 1 1 (.inr (.inr (.inl (some (w.length + 9))))) (.inr (.inr (.inl (some w.length)))) = some (w ++ (cO 1 [eR (w.length + 1), eR (w.length + 9), eI 0, eI 0, eN, eN, eI 0, eI 0, eI 0, eI 0, eI 0, eI 0] :: (rep0 (w.length + 1) ++ row0 (w.length + 9)))) := xpA (k := 0) (fs := [eR (w.length + 1), eN, eI 0, eI 0, eN, eN, eI 0, eI 0, eI 0, eI 0, eI 0, eI 0]) rfl rfl
  have e3 : xp (w ++ (cO 1 [eR (w.length + 1), eR (w.length + 9), eI 0, eI 0, eN, eN, eI 0, eI 0, eI 0, eI 0, eI 0, eI 0] :: (rep0 (w.length + 1) ++ (row0 (w.length + 9) ++ [cI 0 600 z0])))) 1 4 (.inr (.inr (.inl (some (w.length + 11))))) (.inr (.inr (.inl (some w.length)))) = some (w ++ (cO 1 [eR (w.length + 1), eR (w.length + 9), eI 0, eI 0, eR (w.length + 11), eN, eI 0, eI 0, eI 0, eI 0, eI 0, eI 0] :: (rep0 (w.length + 1) ++ (row0 (w.length + 9) ++ [cI 0 600 z0])))) := xpA (k := 0) (fs := [eR (w.length + 1), eR (w.length + 9), eI 0, eI 0, eN, eN, eI 0, eI 0, eI 0, eI 0, eI 0, eI 0]) rfl rfl
  have e4 : xp (w ++ (cO 1 [eR (w.length + 1), eR (w.length + 9), eI 0, eI 0, eR (w.length + 11), eN, eI 0, eI 0, eI 0, eI 0, eI 0, eI 0] :: (rep0 (w.length + 1) ++ (row0 (w.length + 9) ++ [cI 0 600 z0, cI 0 5 z0])))) 1 5 (.inr (.inr (.inl (some (w.length + 12))))) (.inr (.inr (.inl (some w.length)))) = some (w ++ ix1 w.length) := xpA (k := 0) (fs := [eR (w.length + 1), eR (w.length + 9), eI 0, eI 0, eR (w.length + 11), eN, eI 0, eI 0, eI 0, eI 0, eI 0, eI 0]) rfl rfl
  simp only [uX1_init_0, qX1_init_0, List.append_assoc, List.cons_append, List.nil_append, List.length_append, List.length_cons, List.length_nil, Nat.zero_add, Nat.reduceAdd, Nat.add_assoc, tld0_len, ix1_len, ix0_len, rep0_len, row0_len, a1, a2, xcv_eq, e1, e2, e3, e4, bd_eq]
def wl6 (n : Nat) : EW := cO 6 [eR (n + 1), eR (n + 42), eR (n + 43), eR (n + 56), eR (n + 60), eR (n + 61), eR (n + 62), eR (n + 63)] :: (tld0 (n + 1) ++ (cQ 4 3 (fun _ => none) :: (ix1 (n + 43) ++ (ix0 (n + 56) ++ [cO 4 [eI 0, eI 0, eI 0], cI 0 40 z0, cI 0 216 z0, cI 0 1000 z0]))))
theorem c_init6 {w : EW} : xN sc (d + 3) 71 [.inr (.inr (.inl (some w.length)))] (w ++ [cO 6 [eN, eN, eN, eN, eN, eN, eN, eN]]) = some (none, w ++ wl6 w.length) := by
  rw [mX6_init]
  have a1 := c_init5 (sc := sc) (d := d) (w := w ++ [cO 6 [eN, eN, eN, eN, eN, eN, eN, eN]])
  simp only [List.append_assoc, List.cons_append, List.nil_append, List.length_append, List.length_cons, List.length_nil, Nat.zero_add, Nat.reduceAdd, Nat.add_assoc, tld0_len, ix1_len, ix0_len, rep0_len, row0_len] at a1
  have e1 : xp (w ++ (cO 6 [eN, eN, eN, eN, eN, eN, eN, eN] :: tld0 (w.length + 1))) 6 0 (.inr (.inr (.inl (some (w.length + 1))))) (.inr (.inr (.inl (some w.length)))) = some (w ++ (cO 6 [eR (w.length + 1), eN, eN, eN, eN, eN, eN, eN] :: tld0 (w.length + 1))) := xpA (k := 0) (fs := [eN, eN, eN, eN, eN, eN, eN, eN]) rfl rfl
  have e2 : xp (w ++ (cO 6 [eR (w.length + 1), eN, eN, eN, eN, eN, eN, eN] :: (tld0 (w.length + 1) ++ [cQ 4 3 (fun _ => none)]))) 6 1 (.inr (.inr (.inl (some (w.length + 42))))) (.inr (.inr (.inl (some w.length)))) = some (w ++ (cO 6 [eR (w.length + 1), eR (w.length + 42), eN, eN, eN, eN, eN, eN] :: (tld0 (w.length + 1) ++ [cQ 4 3 (fun _ => none)]))) := xpA (k := 0) (fs := [eR (w.length + 1), eN, eN, eN, eN, eN, eN, eN]) rfl rfl
  have a2 := c_init1 (sc := sc) (d := d) (w := w ++ (cO 6 [eR (w.length + 1), eR (w.length + 42), eN, eN, eN, eN, eN, eN] :: (tld0 (w.length + 1) ++ [cQ 4 3 (fun _ => none)])))
  simp only [List.append_assoc, List.cons_append, List.nil_append, List.length_append, List.length_cons, List.length_nil, Nat.zero_add, Nat.reduceAdd, Nat.add_assoc, tld0_len, ix1_len, ix0_len, rep0_len, row0_len] at a2
  have e3 : xp (w ++ (cO 6 [eR (w.length + 1), eR (w.length + 42), eN, eN, eN, eN, eN, eN] :: (tld0 (w.length + 1) ++ (cQ 4 3 (fun _ => none) :: ix1 (w.length + 43))))) 6 2 (.inr (.inr (.inl (some (w.length + 43))))) (.inr (.inr (.inl (some w.length)))) = some (w ++ (cO 6 [eR (w.length + 1), eR (w.length + 42), eR (w.length + 43), eN, eN, eN, eN, eN] :: (tld0 (w.length + 1) ++ (cQ 4 3 (fun _ => none) :: ix1 (w.length + 43))))) := xpA (k := 0) (fs := [eR (w.length + 1), eR (w.length + 42), eN, eN, eN, eN, eN, eN]) rfl rfl
  have a3 := c_init0 (sc := sc) (d := d) (w := w ++ (cO 6 [eR (w.length + 1), eR (w.length + 42), eR (w.length + 43), eN, eN, eN, eN, eN] :: (tld0 (w.length + 1) ++ (cQ 4 3 (fun _ => none) :: ix1 (w.length + 43)))))
  simp only [List.append_assoc, List.cons_append, List.nil_append, List.length_append, List.length_cons, List.length_nil, Nat.zero_add, Nat.reduceAdd, Nat.add_assoc, tld0_len, ix1_len, ix0_len, rep0_len, row0_len] at a3
  have e4 : xp (w ++ (cO 6 [eR (w.length + 1), eR (w.length + 42), eR (w.length + 43), eN, eN, eN, eN, eN] :: (tld0 (w.length + 1) ++ (cQ 4 3 (fun _ => none) :: (ix1 (w.length + 43) ++ ix0 (w.length + 56)))))) 6 3 (.inr (.inr (.inl (some (w.length + 56))))) (.inr (.inr (.inl (some w.length)))) = some (w ++ (cO 6 [eR (w.length + 1), eR (w.length + 42), eR (w.length + 43), eR (w.length + 56), eN, eN, eN, eN] :: (tld0 (w.length + 1) ++ (cQ 4 3 (fun _ => none) :: (ix1 (w.length + 43) ++ ix0 (w.length + 56)))))) := xpA (k := 0) (fs := [eR (w.length + 1), eR (w.length + 42), eR (w.length + 43), eN, eN, eN, eN, eN]) rfl rfl
  have e5 : xp (w ++ (cO 6 [eR (w.length + 1), eR (w.length + 42), eR (w.length + 43), eR (w.length + 56), eN, eN, eN, eN] :: (tld0 (w.length + 1) ++ (cQ 4 3 (fun _ => none) :: (ix1 (w.length + 43) ++ (ix0 (w.length + 56) ++ [cO 4 [eI 0, eI 0, eI 0]])))))) 6 4 (.inr (.inr (.inl (some (w.length + 60))))) (.inr (.inr (.inl (some w.length)))) = some (w ++ (cO 6 [eR (w.length + 1), eR (w.length + 42), eR (w.length + 43), eR (w.length + 56), eR (w.length + 60), eN, eN, eN] :: (tld0 (w.length + 1) ++ (cQ 4 3 (fun _ => none) :: (ix1 (w.length + 43) ++ (ix0 (w.length + 56) ++ [cO 4 [eI 0, eI 0, eI 0]])))))) := xpA (k := 0) (fs := [eR (w.length + 1), eR (w.length + 42), eR (w.length + 43), eR (w.length + 56), eN, eN, eN, eN]) rfl rfl
  have e6 : xp (w ++ (cO 6 [eR (w.length + 1), eR (w.length + 42), eR (w.length + 43), eR (w.length + 56), eR (w.length + 60), eN, eN, eN] :: (tld0 (w.length + 1) ++ (cQ 4 3 (fun _ => none) :: (ix1 (w.length + 43) ++ (ix0 (w.length + 56) ++ [cO 4 [eI 0, eI 0, eI 0], cI 0 40 z0])))))) 6 5 (.inr (.inr (.inl (some (w.length + 61))))) (.inr (.inr (.inl (some w.length)))) = some (w ++ (cO 6 [eR (w.length + 1), eR (w.length + 42), eR (w.length + 43), eR (w.length + 56), eR (w.length + 60), eR (w.length + 61), eN, eN] :: (tld0 (w.length + 1) ++ (cQ 4 3 (fun _ => none) :: (ix1 (w.length + 43) ++ (ix0 (w.length + 56) ++ [cO 4 [eI 0, eI 0, eI 0], cI 0 40 z0])))))) := xpA (k := 0) (fs := [eR (w.length + 1), eR (w.length + 42), eR (w.length + 43), eR (w.length + 56), eR (w.length + 60), eN, eN, eN]) rfl rfl
  have e7 : xp (w ++ (cO 6 [eR (w.length + 1), eR (w.length + 42), eR (w.length + 43), eR (w.length + 56), eR (w.length + 60), eR (w.length + 61), eN, eN] :: (tld0 (w.length + 1) ++ (cQ 4 3 (fun _ => none) :: (ix1 (w.length + 43) ++ (ix0 (w.length + 56) ++ [cO 4 [eI 0, eI 0, eI 0], cI 0 40 z0, cI 0 216 z0])))))) 6 6 (.inr (.inr (.inl (some (w.length + 62))))) (.inr (.inr (.inl (some w.length)))) = some (w ++ (cO 6 [eR (w.length + 1), eR (w.length + 42), eR (w.length + 43), eR (w.length + 56), eR (w.length + 60), eR (w.length + 61), eR (w.length + 62), eN] :: (tld0 (w.length + 1) ++ (cQ 4 3 (fun _ => none) :: (ix1 (w.length + 43) ++ (ix0 (w.length + 56) ++ [cO 4 [eI 0, eI 0, eI 0], cI 0 40 z0, cI 0 216 z0])))))) := xpA (k := 0) (fs := [eR (w.length + 1), eR (w.length + 42), eR (w.length + 43), eR (w.length + 56), eR (w.length + 60), eR (w.length + 61), eN, eN]) rfl rfl
  have e8 : xp (w ++ (cO 6 [eR (w.length + 1), eR (w.length + 42), eR (w.length + 43), eR (w.length + 56), eR (w.length + 60), eR (w.length + 61), eR (w.length + 62), eN] :: (tld0 (w.length + 1) ++ (cQ 4 3 (fun _ => none) :: (ix1 (w.length + 43) ++ (ix0 (w.length + 56) ++ [cO 4 [eI 0, eI 0, eI 0], cI 0 40 z0, cI 0 216 z0, cI 0 1000 z0])))))) 6 7 (.inr (.inr (.inl (some (w.length + 63))))) (.inr (.inr (.inl (some w.length)))) = some (w ++ (cO 6 [eR (w.length + 1), eR (w.length + 42), eR (w.length + 43), eR (w.length + 56), eR (w.length + 60), eR (w.length + 61), eR (w.length + 62), eR (w.length + 63)] :: (tld0 (w.length + 1) ++ (cQ 4 3 (fun _ => none) :: (ix1 (w.length + 43) ++ (ix0 (w.length + 56) ++ [cO 4 [eI 0, eI 0, eI 0], cI 0 40 z0, cI 0 216 z0, cI 0 1000 z0])))))) := xpA (k := 0) (fs := [eR (w.length + 1), eR (w.length + 42), eR (w.length + 43), eR (w.length + 56), eR (w.length + 60), eR (w.length + 61), eR (w.length + 62), eN]) rfl rfl
  simp only [uX6_init_0, qX6_init_0, List.append_assoc, List.cons_append, List.nil_append, List.length_append, List.length_cons, List.length_nil, Nat.zero_add, Nat.reduceAdd, Nat.add_assoc, tld0_len, ix1_len, ix0_len, rep0_len, row0_len, a1, a2, a3, c_init4, xcv_eq, e1, e2, e3, e4, e5, e6, e7, e8, bd_eq]
  rfl
end XIN
end XRS
end
section
section XRT
variable {sc : Nat × (Nat → Int32)} {d : Nat} {K : List KD} {r q t a B m : Nat} {w : EW}
section XIL
variable {sc : Nat × (Nat → Int32)} {d : Nat}
theorem xtiA {w L : EW} {k n j : Nat} {x : Int32} {f : Nat → Int32} (hk : L[k]? = some (cI 0 n f)) (hj : j < n) (hn : n < 2 ^ 31) : xti (w ++ L) (nI j) x (.inr (.inr (.inl (some (w.length + k))))) = some (w ++ L.set k (cI 0 n (upd f j x))) := by
  have e : (w ++ L)[w.length + k]? = some (cI 0 n f) := by
    rw [List.getElem?_append_right (by omega), Nat.add_sub_cancel_left]; exact hk
  unfold xti
  simp only [e, xvb_nI hj hn, Nat.beq_refl, Bool.and_self, cond_true, Option.some.injEq]
  rw [List.set_append_right _ _ (by omega), Nat.add_sub_cancel_left, nI_clamp (by omega)]
def wl7 (n : Nat) : EW := [cO 7 [eR (n + 1), eR (n + 2), eI 0, eI 0, eI 0, eI 0, eI 0, eI 0, eI 0, eI 0, eR (n + 3), eI 0, eI 0, eI 0, eI 0, eI 0, eI 0, eI 0, eI 0, eI 0, eI 0, eI 0, eI 0, eI 0, eI 0, eI 0, eI 0, eR (n + 4), eR (n + 5), eI 0, eI 0, eR (n + 6), eR (n + 7), eI 0, eI 0], cI 0 5768 (upd z0 8 (-1)), cI 1 3 z0, cI 0 201 z0, cI 0 3 z0, cI 0 6 z0, cI 0 1791 z0, cI 1 1000 z0]
theorem c_init7 {w : EW} : xN sc (d + 1) 149 [.inr (.inr (.inl (some w.length)))] (w ++ [cO 7 [eN, eN, eI 0, eI 0, eI 0, eI 0, eI 0, eI 0, eI 0, eI 0, eN, eI 0, eI 0, eI 0, eI 0, eI 0, eI 0, eI 0, eI 0, eI 0, eI 0, eI 0, eI 0, eI 0, eI 0, eI 0, eI 0, eN, eN, eI 0, eI 0, eN, eN, eI 0, eI 0]]) = some (none, w ++ wl7 w.length) := by
  rw [mX7_init]
  have e1 : xp (w ++ [cO 7 [eN, eN, eI 0, eI 0, eI 0, eI 0, eI 0, eI 0, eI 0, eI 0, eN, eI 0, eI 0, eI 0, eI 0, eI 0, eI 0, eI 0, eI 0, eI 0, eI 0, eI 0, eI 0, eI 0, eI 0, eI 0, eI 0, eN, eN, eI 0, eI 0, eN, eN, eI 0, eI 0], cI 0 5768 z0]) 7 0 (.inr (.inr (.inl (some (w.length + 1))))) (.inr (.inr (.inl (some w.length)))) = some (w ++ [cO 7 [eR (w.length + 1), eN, eI 0, eI 0, eI 0, eI 0, eI 0, eI 0, eI 0, eI 0, eN, eI 0, eI 0, eI 0, eI 0, eI 0, eI 0, eI 0, eI 0, eI 0, eI 0, eI 0, eI 0, eI 0, eI 0, eI 0, eI 0, eN, eN, eI 0, eI 0, eN, eN, eI 0, eI 0], cI 0 5768 z0]) := xpA (k := 0) (fs := [eN, eN, eI 0, eI 0, eI 0, eI 0, eI 0, eI 0, eI 0, eI 0, eN, eI 0, eI 0, eI 0, eI 0, eI 0, eI 0, eI 0, eI 0, eI 0, eI 0, eI 0, eI 0, eI 0, eI 0, eI 0, eI 0, eN, eN, eI 0, eI 0, eN, eN, eI 0, eI 0]) rfl rfl
  have e2 : xp (w ++ [cO 7 [eR (w.length + 1), eN, eI 0, eI 0, eI 0, eI 0, eI 0, eI 0, eI 0, eI 0, eN, eI 0, eI 0, eI 0, eI 0, eI 0, eI 0, eI 0, eI 0, eI 0, eI 0, eI 0, eI 0, eI 0, eI 0, eI 0, eI 0, eN, eN, eI 0, eI 0, eN, eN, eI 0, eI 0], cI 0 5768 z0, cI 1 3 z0]) 7 1 (.inr (.inr (.inl (some (w.length + 2))))) (.inr (.inr (.inl (some w.length)))) = some (w ++ [cO 7 [eR (w.length + 1), eR (w.length + 2), eI 0, eI 0, eI 0, eI 0, eI 0, eI 0, eI 0, eI 0, eN, eI 0, eI 0, eI 0, eI 0, eI 0, eI 0, eI 0, eI 0, eI 0, eI 0, eI 0, eI 0, eI 0, eI 0, eI 0, eI 0, eN, eN, eI 0, eI 0, eN, eN, eI 0, eI 0], cI 0 5768 z0, cI 1 3 z0]) := xpA (k := 0) (fs := [eR (w.length + 1), eN, eI 0, eI 0, eI 0, eI 0, eI 0, eI 0, eI 0, eI 0, eN, eI 0, eI 0, eI 0, eI 0, eI 0, eI 0, eI 0, eI 0, eI 0, eI 0, eI 0, eI 0, eI 0, eI 0, eI 0, eI 0, eN, eN, eI 0, eI 0, eN, eN, eI 0, eI 0]) rfl rfl
  have e3 : xp (w ++ [cO 7 [eR (w.length + 1), eR (w.length + 2), eI 0, eI 0, eI 0, eI 0, eI 0, eI 0, eI 0, eI 0, eN, eI 0, eI 0, eI 0, eI 0, eI 0, eI 0, eI 0, eI 0, eI 0, eI 0, eI 0, eI 0, eI 0, eI 0, eI 0, eI 0, eN, eN, eI 0, eI 0, eN, eN, eI 0, eI 0], cI 0 5768 z0, cI 1 3 z0, cI 0 201 z0]) 7 10 (.inr (.inr (.inl (some (w.length + 3))))) (.inr (.inr (.inl (some w.length)))) = some (w ++ [cO 7 [eR (w.length + 1), eR (w.length + 2), eI 0, eI 0, eI 0, eI 0, eI 0, eI 0, eI 0, eI 0, eR (w.length + 3), eI 0, eI 0, eI 0, eI 0, eI 0, eI 0, eI 0, eI 0, eI 0, eI 0, eI 0, eI 0, eI 0, eI 0, eI 0, eI 0, eN, eN, eI 0, eI 0, eN, eN, eI 0, eI 0], cI 0 5768 z0, cI 1 3 z0, cI 0 201 z0]) := xpA (k := 0) (fs := [eR (w.length + 1), eR (w.length + 2), eI 0, eI 0, eI 0, eI 0, eI 0, eI 0, eI 0, eI 0, eN, eI 0, eI 0, eI 0, eI 0, eI 0, eI 0, eI 0, eI 0, eI 0, eI 0, eI 0, eI 0, eI 0, eI 0, eI 0, eI 0, eN, eN, eI 0, eI 0, eN, eN, eI 0, eI 0]) rfl rfl
  have e4 : xp (w ++ [cO 7 [eR (w.length + 1), eR (w.length + 2), eI 0, eI 0, eI 0, eI 0, eI 0, eI 0, eI 0, eI 0, eR (w.length + 3), eI 0, eI 0, eI 0, eI 0, eI 0, eI 0, eI 0, eI 0, eI 0, eI 0, eI 0, eI 0, eI 0, eI 0, eI 0, eI 0, eN, eN, eI 0, eI 0, eN, eN, eI 0, eI 0], cI 0 5768 z0, cI 1 3 z0, cI 0 201 z0, cI 0 3 z0]) 7 27 (.inr (.inr (.inl (some (w.length + 4))))) (.inr (.inr (.inl (some w.length)))) = some (w ++ [cO 7 [eR (w.length + 1), eR (w.length + 2), eI 0, eI 0, eI 0, eI 0, eI 0, eI 0, eI 0, eI 0, eR (w.length + 3), eI 0, eI 0, eI 0, eI 0, eI 0, eI 0, eI 0, eI 0, eI 0, eI 0, eI 0, eI 0, eI 0, eI 0, eI 0, eI 0, eR (w.length + 4), eN, eI 0, eI 0, eN, eN, eI 0, eI 0], cI 0 5768 z0, cI 1 3 z0, cI 0 201 z0, cI 0 3 z0]) := xpA (k := 0) (fs := [eR (w.length + 1), eR (w.length + 2), eI 0, eI 0, eI 0, eI 0, eI 0, eI 0, eI 0, eI 0, eR (w.length + 3), eI 0, eI 0, eI 0, eI 0, eI 0, eI 0, eI 0, eI 0, eI 0, eI 0, eI 0, eI 0, eI 0, eI 0, eI 0, eI 0, eN, eN, eI 0, eI 0, eN, eN, eI 0, eI 0]) rfl rfl
  have e5 : xp (w ++ [cO 7 [eR (w.length + 1), eR (w.length + 2), eI 0, eI 0, eI 0, eI 0, eI 0, eI 0, eI 0, eI 0, eR (w.length + 3), eI 0, eI 0, eI 0, eI 0, eI 0, eI 0, eI 0, eI 0, eI 0, eI 0, eI 0, eI 0, eI 0, eI 0, eI 0, eI 0, eR (w.length + 4), eN, eI 0, eI 0, eN, eN, eI 0, eI 0], cI 0 5768 z0, cI 1 3 z0, cI 0 201 z0, cI 0 3 z0, cI 0 6 z0]) 7 28 (.inr (.inr (.inl (some (w.length + 5))))) (.inr (.inr (.inl (some w.length)))) = some (w ++ [cO 7 [eR (w.length + 1), eR (w.length + 2), eI 0, eI 0, eI 0, eI 0, eI 0, eI 0, eI 0, eI 0, eR (w.length + 3), eI 0, eI 0, eI 0, eI 0, eI 0, eI 0, eI 0, eI 0, eI 0, eI 0, eI 0, eI 0, eI 0, eI 0, eI 0, eI 0, eR (w.length + 4), eR (w.length + 5), eI 0, eI 0, eN, eN, eI 0, eI 0], cI 0 5768 z0, cI 1 3 z0, cI 0 201 z0, cI 0 3 z0, cI 0 6 z0]) := xpA (k := 0) (fs := [eR (w.length + 1), eR (w.length + 2), eI 0, eI 0, eI 0, eI 0, eI 0, eI 0, eI 0, eI 0, eR (w.length + 3), eI 0, eI 0, eI 0, eI 0, eI 0, eI 0, eI 0, eI 0, eI 0, eI 0, eI 0, eI 0, eI 0, eI 0, eI 0, eI 0, eR (w.length + 4), eN, eI 0, eI 0, eN, eN, eI 0, eI 0]) rfl rfl
  have e6 : xp (w ++ [cO 7 [eR (w.length + 1), eR (w.length + 2), eI 0, eI 0, eI 0, eI 0, eI 0, eI 0, eI 0, eI 0, eR (w.length + 3), eI 0, eI 0, eI 0, eI 0, eI 0, eI 0, eI 0, eI 0, eI 0, eI 0, eI 0, eI 0, eI 0, eI 0, eI 0, eI 0, eR (w.length + 4), eR (w.length + 5), eI 0, eI 0, eN, eN, eI 0, eI 0], cI 0 5768 z0, cI 1 3 z0, cI 0 201 z0, cI 0 3 z0, cI 0 6 z0, cI 0 1791 z0]) 7 31 (.inr (.inr (.inl (some (w.length + 6))))) (.inr (.inr (.inl (some w.length)))) = some (w ++ [cO 7 [eR (w.length + 1), eR (w.length + 2), eI 0, eI 0, eI 0, eI 0, eI 0, eI 0, eI 0, eI 0, eR (w.length + 3), eI 0, eI 0, eI 0, eI 0, eI 0, eI 0, eI 0, eI 0, eI 0, eI 0, eI 0, eI 0, eI 0, eI 0, eI 0, eI 0, eR (w.length + 4), eR (w.length + 5), eI 0, eI 0, eR (w.length + 6), eN, eI 0, eI 0], cI 0 5768 z0, cI 1 3 z0, cI 0 201 z0, cI 0 3 z0, cI 0 6 z0, cI 0 1791 z0]) := xpA (k := 0) (fs := [eR (w.length + 1), eR (w.length + 2), eI 0, eI 0, eI 0, eI 0, eI 0, eI 0, eI 0, eI 0, eR (w.length + 3), eI 0, eI 0, eI 0, eI 0, eI 0, eI 0, eI 0, eI 0, eI 0, eI 0, eI 0, eI 0, eI 0, eI 0, eI 0, eI 0, eR (w.length + 4), eR (w.length + 5), eI 0, eI 0, eN, eN, eI 0, eI 0]) rfl rfl
  have e7 : xp (w ++ [cO 7 [eR (w.length + 1), eR (w.length + 2), eI 0, eI 0, eI 0, eI 0, eI 0, eI 0, eI 0, eI 0, eR (w.length + 3), eI 0, eI 0, eI 0, eI 0, eI 0, eI 0, eI 0, eI 0, eI 0, eI 0, eI 0, eI 0, eI 0, eI 0, eI 0, eI 0, eR (w.length + 4), eR (w.length + 5), eI 0, eI 0, eR (w.length + 6), eN, eI 0, eI 0], cI 0 5768 z0, cI 1 3 z0, cI 0 201 z0, cI 0 3 z0, cI 0 6 z0, cI 0 1791 z0, cI 1 1000 z0]) 7 32 (.inr (.inr (.inl (some (w.length + 7))))) (.inr (.inr (.inl (some w.length)))) = some (w ++ [cO 7 [eR (w.length + 1), eR (w.length + 2), eI 0, eI 0, eI 0, eI 0, eI 0, eI 0, eI 0, eI 0, eR (w.length + 3), eI 0, eI 0, eI 0, eI 0, eI 0, eI 0, eI 0, eI 0, eI 0, eI 0, eI 0, eI 0, eI 0, eI 0, eI 0, eI 0, eR (w.length + 4), eR (w.length + 5), eI 0, eI 0, eR (w.length + 6), eR (w.length + 7), eI 0, eI 0], cI 0 5768 z0, cI 1 3 z0, cI 0 201 z0, cI 0 3 z0, cI 0 6 z0, cI 0 1791 z0, cI 1 1000 z0]) := xpA (k := 0) (fs := [eR (w.length + 1), eR (w.length + 2), eI 0, eI 0, eI 0, eI 0, eI 0, eI 0, eI 0, eI 0, eR (w.length + 3), eI 0, eI 0, eI 0, eI 0, eI 0, eI 0, eI 0, eI 0, eI 0, eI 0, eI 0, eI 0, eI 0, eI 0, eI 0, eI 0, eR (w.length + 4), eR (w.length + 5), eI 0, eI 0, eR (w.length + 6), eN, eI 0, eI 0]) rfl rfl
  have e8 : xga (w ++ [cO 7 [eR (w.length + 1), eR (w.length + 2), eI 0, eI 0, eI 0, eI 0, eI 0, eI 0, eI 0, eI 0, eR (w.length + 3), eI 0, eI 0, eI 0, eI 0, eI 0, eI 0, eI 0, eI 0, eI 0, eI 0, eI 0, eI 0, eI 0, eI 0, eI 0, eI 0, eR (w.length + 4), eR (w.length + 5), eI 0, eI 0, eR (w.length + 6), eR (w.length + 7), eI 0, eI 0], cI 0 5768 z0, cI 1 3 z0, cI 0 201 z0, cI 0 3 z0, cI 0 6 z0, cI 0 1791 z0, cI 1 1000 z0]) 7 0 (.inr (.inr (.inl (some w.length)))) = some (some (w.length + 1)) := xgaA (k := 0) rfl rfl
  have e9 : xti (w ++ [cO 7 [eR (w.length + 1), eR (w.length + 2), eI 0, eI 0, eI 0, eI 0, eI 0, eI 0, eI 0, eI 0, eR (w.length + 3), eI 0, eI 0, eI 0, eI 0, eI 0, eI 0, eI 0, eI 0, eI 0, eI 0, eI 0, eI 0, eI 0, eI 0, eI 0, eI 0, eR (w.length + 4), eR (w.length + 5), eI 0, eI 0, eR (w.length + 6), eR (w.length + 7), eI 0, eI 0], cI 0 5768 z0, cI 1 3 z0, cI 0 201 z0, cI 0 3 z0, cI 0 6 z0, cI 0 1791 z0, cI 1 1000 z0]) 8 (-1) (.inr (.inr (.inl (some (w.length + 1))))) = some (w ++ wl7 w.length) := xtiA (k := 1) (j := 8) (n := 5768) (f := z0) rfl (by omega) (by decide)
  simp only [uX7_init_0, qX7_init_0, List.append_assoc, List.cons_append, List.nil_append, List.length_append, List.length_cons, List.length_nil, Nat.zero_add, Nat.reduceAdd, Nat.add_assoc, tld0_len, ix1_len, ix0_len, rep0_len, row0_len, e1, e2, e3, e4, e5, e6, e7, e8, e9, bd_eq]
def s00 : SG := up (up (fun _ _ => 0) 1 3 (-1)) 65 8 (-1)
theorem s00_z {c j : Nat} (h1 : c ≠ 1 ∨ j ≠ 3) (h2 : c ≠ 65 ∨ j ≠ 8) : s00 c j = 0 := by
  unfold s00
  have e1 : up (fun _ _ => 0 : SG) 1 3 (-1) c j = 0 := by
    by_cases a : c = 1
    · subst a; rw [up_bn (by omega)]
    · rw [up_n a]
  by_cases a : c = 65
  · subst a; rw [up_bn (by omega)]; exact e1
  · rw [up_n a]; exact e1
theorem s00_c {c : Nat} (h1 : c ≠ 1) (h2 : c ≠ 65) : s00 c = z0 := funext fun _ => s00_z (Or.inl h1) (Or.inl h2)
theorem RB0_z {f : Nat → Int32} (h : ∀ j, j ≠ 8 → f j = 0) : RB0 f := by
  have z : ∀ j n, j ≠ 8 → NB (f j) n := fun j n hj => ⟨0, h j hj, by omega⟩
  exact ⟨fun i hi => z _ _ (by omega), z _ _ (by omega), fun k hk => ⟨⟨z _ _ (by omega), z _ _ (by omega), z _ _ (by omega), fun m i _ _ => z _ _ (by omega)⟩, z _ _ (by omega), ⟨z _ _ (by omega), fun j _ => ⟨fun _ => z _ _ (by omega), fun _ => z _ _ (by omega)⟩⟩, z _ _ (by omega), ⟨z _ _ (by omega), fun j _ => ⟨z _ _ (by omega), z _ _ (by omega), z _ _ (by omega), z _ _ (by omega)⟩⟩⟩⟩
theorem INVP_0 {P : SG → Nat → Nat → Prop} (p0 : P s00 1 0) : INVP P KZ s00 := by
  have sz0 : ∀ c, c ≠ 1 → c ≠ 65 → SZ s00 c := fun c h1 h2 => by
    unfold SZ sz
    rw [s00_c h1 h2]; exact ⟨rfl, by decide⟩
  have rz0 : ∀ c, c ≠ 1 → c ≠ 65 → RZ s00 c := fun c h1 h2 => by
    unfold RZ rz
    rw [s00_c h1 h2]; exact ⟨rfl, by decide⟩
  refine ⟨fun _ => none, ⟨⟨[], (List.append_nil _).symm⟩, fun j _ => Or.inl rfl⟩, ⟨sz0 _ (by omega) (by omega), sz0 _ (by omega) (by omega), fun j hj => rz0 _ (by omega) (by omega), 0, s00_z (Or.inr (by decide)) (Or.inl (by decide)), by omega⟩, ⟨RB0_z (fun j hj => s00_z (Or.inl (by decide)) (Or.inr hj)), fun k _ => RB0_z (fun j _ => s00_z (Or.inl (by decide)) (Or.inr (by omega)))⟩, ⟨rfl, rfl⟩, fun k _ => ⟨fun _ => s00_z (Or.inl (by decide)) (Or.inl (by decide)), fun _ => rfl⟩, fun _ _ _ _ _ e => (nomatch e), p0, fun _ _ _ e => (nomatch e)⟩
theorem SIM1_0 : SIM1 s00 1 0 := by
  refine SIM_n.2 ⟨⟨rfl, rfl, rfl⟩, fun j hj => ?_, fun k hk => ?_, fun k i n hk hi en hn hin => ?_⟩
  · rw [s00_z (c := 2) (Or.inl (by decide)) (Or.inl (by decide)), s00_z (c := 65) (Or.inl (by decide)) (Or.inr (by omega))]; exact ⟨rfl, by decide⟩
  · rw [s00_z (c := 3) (Or.inl (by decide)) (Or.inl (by decide)), s00_z (c := 65) (Or.inl (by decide)) (Or.inr (by omega))]
  · rw [s00_z (c := 65) (Or.inl (by decide)) (Or.inr (by omega))] at en
    have := nI_inj (a := 0) (b := n) (by omega) (by omega) en
    omega
set_option maxRecDepth 100000 in theorem wl_00 : ([] ++ wl6 0) ++ wl7 64 = wl KZ s00 := by
  have c0 : ∀ c, c ≠ 1 → c ≠ 65 → s00 c = z0 := fun c h1 h2 => s00_c h1 h2
  rfl
end XIL
end XRT
end
section
section XRU
variable {sc : Nat × (Nat → Int32)} {d : Nat} {K : List KD} {r q t a B m : Nat} {w : EW}
section XLW
variable {sc : Nat × (Nat → Int32)} {d : Nat}
theorem LAW (hN : sc.1 ≤ 4096) : ∃ K2 s2, INVP SIM1 K2 s2 ∧ xN sc (d + 12) 293 [.inr (.inr (.inr 2))] [] = some (some (.inl 1), wl K2 s2) := by
  obtain ⟨K2, s2, i2, e⟩ := LOOP (sc := sc) (d := d) hN 512 xF 0 KZ s00 (INVP_0 SIM1_0) (by omega) (by omega) (by have := xF_ge; omega)
  refine ⟨K2, s2, i2, ?_⟩
  have a6 := c_init6 (sc := sc) (d := d + 8) (w := [])
  have a7 := c_init7 (sc := sc) (d := d + 10) (w := [] ++ wl6 0)
  have hl : ([] ++ wl6 0 : EW).length = 64 := rfl
  rw [mL_law, uL_law_0, qL_law_0]
  refine Eq.trans (congrArg (fun r => xcv r _) a6) ?_
  rw [xcv_eq]
  refine Eq.trans (congrArg (fun r => xcv r _) a7) ?_
  rw [xcv_eq]
  rw [← e, ← wl_00]
  rfl
end XLW
end XRU
end
section
section XRV
variable {sc : Nat × (Nat → Int32)} {d : Nat} {K : List KD} {r q t a B m : Nat} {w : EW}
/-! a smaller room within a greater one; the law's body -/
theorem lx_room {s : State} {pl : Platform} {R R2 : Room} (h : s.hasRoom pl R = true) (h1 : R2.frames ≤ R.frames) (h2 : R2.cells ≤ R.cells) (h3 : R2.slots ≤ R.slots) (h4 : R2.locals ≤ R.locals) : s.hasRoom pl R2 = true := by
  unfold State.hasRoom at *
  simp only [Bool.and_eq_true, decide_eq_true_eq] at *
  obtain ⟨⟨⟨⟨a, b1, b2, b3, b4, b5⟩, c⟩, d⟩, e⟩ := h
  exact ⟨⟨⟨⟨by omega, by omega, by omega, by omega, by omega, b5⟩, by omega⟩, by omega⟩, e⟩
theorem lx_stand {p : Program} {l : Launch} {e : Env} {R R2 : Room} {s : State} {m : MethodId} {args : Array Value} {below : List Frame} {meth : Method} {c : Code} {T : State} {locs : List Loc} {cells slots : Nat} (X : Stand p l e R s m args below meth c T locs cells slots) (h1 : R2.frames ≤ R.frames) (h2 : R2.cells ≤ R.cells) (h3 : R2.slots ≤ R.slots) (h4 : R2.locals ≤ R.locals) : Stand p l e R2 s m args below meth c T locs cells slots :=
  ⟨X.admits, X.cas, X.clock, X.frames, lx_room X.room h1 h2 h3 h4, X.hears, X.method, X.code, X.here, X.tail, X.warmed, X.limits, X.bytes, X.same⟩
theorem lx_W {p : Program} {l : Launch} {e : Env} {R R2 : Room} {s : State} {m : MethodId} {args : Array Value} {below : List Frame} {meth : Method} {c : Code} {H : Heap} {locs : List Loc} {cells slots : Nat} {Z : State → Prop} {F : JFrame} (w : W p l e R2 s m args below meth c H locs cells slots Z F) (h1 : R2.frames ≤ R.frames) (h2 : R2.cells ≤ R.cells) (h3 : R2.slots ≤ R.slots) (h4 : R2.locals ≤ R.locals) : W p l e R s m args below meth c H locs cells slots Z F :=
  fun T hT X => w T hT (lx_stand X h1 h2 h3 h4)
theorem xM_body {G : EG} {l : Launch} {sc : Nat × (Nat → Int32)} (hsc : xsc G sc) {T : List (Nat × XM)} (hT : xall okT T) {F d y : Nat} {as : List EV} {w w2 : EW} {r : Option EV} (h : xM sc T F (d + 1) y as w = some (r, w2)) : ∃ o rt ini C, xk T y = some (o, rt, ini, C) ∧ PP G l o (yq y).2.1 (yq y).2.2.1 rt ini d r w2 0 (wc_in (yq y).2.2.1 as) [] w := by
  unfold xM at h
  split at h
  · rename_i o rt ini C e
    have hz := xb_some h
    clear h
    obtain ⟨h0, h⟩ := hz
    obtain ⟨g1, g2, g3, g4, g5⟩ := xk_in hT e
    have g5 : xdk (yq y).2.1 C = true := g5
    exact ⟨o, rt, ini, C, e, ex_sound (cc := (yq y).2.1) hsc (xM_sound hsc hT d) (xdk_ok g5) F 0 _ _ _ h⟩
  · cases h
end XRV
end
section
section XRW
variable {sc : Nat × (Nat → Int32)} {d : Nat} {K : List KD} {r q t a B m : Nat} {w : EW}
/-! the law's body, its cells and slots -/
theorem fc_sl {s : Nat → Int32} {kd : KD} : wc_sl (fc s kd) = kS1 kd := by
  rcases kd with ⟨ci, fs⟩ | ⟨t, n⟩ | ⟨t, n, f⟩
  · show (fs.mapIdx _).length = fs.length
    exact List.length_mapIdx
  · rfl
  · rfl
theorem wl_SL {K : List KD} {s : SG} : wc_SL (wl K s) = kSL K := by
  unfold wc_SL kSL
  have e : (wl K s).map wc_sl = K.map kS1 := by
    apply List.ext_getElem?
    intro k
    rw [List.getElem?_map, List.getElem?_map]
    cases h : K[k]? with
    | none =>
      have : (wl K s)[k]? = none := by
        rw [List.getElem?_eq_none_iff, wl_len]
        exact List.getElem?_eq_none_iff.mp h
      rw [this]; rfl
    | some kd =>
      rw [wl_get h]
      exact congrArg some fc_sl
  rw [e]
theorem kSL_KZ : kSL KZ + kT * 3 ≤ 600000 := by decide +kernel
theorem INV_sl {P : SG → Nat → Nat → Prop} {K : List KD} {s : SG} (h : INVP P K s) : K.length ≤ 195 ∧ kSL K ≤ 600000 := by
  obtain ⟨f, _, _, _, ⟨a, b⟩, _⟩ := h
  have := kSL_KZ
  exact ⟨by omega, by omega⟩
end XRW
end
section
section XRX
variable {sc : Nat × (Nat → Int32)} {d : Nat} {K : List KD} {r q t a B m : Nat} {w : EW}
/-! the law's body on the machine -/
set_option maxRecDepth 100000 in theorem LAWB {G : EG} {l : Launch} {sc : Nat × (Nat → Int32)} (hsc : xsc G sc) (hN : sc.1 ≤ 4096) : ∃ K2 s2, K2.length ≤ 195 ∧ kSL K2 ≤ 600000 ∧ PX G l 8 cL_law 4 4 false 11 (some (.inl 1)) (wl K2 s2) K2.length (kSL K2) 0 (wc_in 4 [eK 2]) [] [] := by
  obtain ⟨K2, s2, i2, e⟩ := LAW (sc := sc) (d := 0) hN
  rw [xN_eq] at e
  obtain ⟨o, rt, ini, C, ek, rc, rs, h1, h2, k⟩ := xM_body (l := l) (d := 11) hsc oTT e
  have ek2 : xk TT 293 = some (8, 4, false, kL_law_0) := rfl
  rw [ek2] at ek
  cases ek
  have e1 : rc = K2.length := by rw [wl_len] at h1; simpa using h1.symm
  have e2 : rs = kSL K2 := by rw [wl_SL] at h2; have z : wc_SL [] = 0 := rfl; omega
  subst e1 e2
  exact ⟨K2, s2, (INV_sl i2).1, (INV_sl i2).2, k⟩
end XRX
end
section
-- ===== end of PART A; then your names; then what follows =====
/-! THE CLAIM OUT OF ONE WALK OF THE LAW'S BODY. Your part is whole_start (and what it stands on); all else here is the same for every law, but numbers. -/
def R_law : String := "WindCabinetLaw"
def lw_P (b : Addr) (xs : List Int32) (args : Array Value) (s : State) : Prop := args = #[.ref b] ∧ s.IntsAt b xs ∧ xs.length ≤ 4096 ∧ (Jvm.Cond.and given_1 narrow_1).before args s = true
def lw_Q (_ : Array Value) (s : State) (o : Outcome) (t : State) : Prop := o = .returned (some (.int 1)) ∧ Framed s o t [] 600000 7302249
def lw_Z (below : List Frame) (a : Array Value) (s : State) : State → Prop := fun t => ∃ o, t.status = .running ∧ Ended t below o ∧ lw_Q a s o t
/-- the law's own end, with 1 on the stack, nothing written that was there before, its room as the claim has it -/
theorem lw_ret {p : Program} {l : Launch} {e : Env} {s : State} {m : MethodId} {below : List Frame} {meth : Method} {c : Code} {b : Nat} (hx : p.tables.exec = Jvm.exec) (hb : c.code = code) (hr : meth.sig.returnType = ret) (hlocks : meth.locks = false) {pc : Nat} {H : Heap} {ls : Array Slot} (hdg : decode code pc = .ok (.ireturn, 1)) : W p l e room_1 s m #[Value.ref b] below meth c H [] 600000 7302249 (lw_Z below #[Value.ref b] s) (F0 m pc ls [.int 1]) := by
  intro T hT X
  obtain ⟨fs, hret, hrun, hended, hW, hframe⟩ := X.leave (v := some (.int 1)) (hlocks := hlocks) (fun h => by rw [hr] at h; cases h)
  have hmeth' : T.vm.method? m = some meth := X.method'
  refine ⟨T.setFrames fs, ?_, .returned (some (.int 1)), hrun, hended, rfl, ⟨_, rfl⟩, hW, hframe⟩
  jvm_step X.here [X.here.top, hx, hb, hdg, hmeth', hr, ret, narrow_b1]
  (try refine ⟨rfl, ?_⟩); (try refine ⟨rfl, ?_⟩)
  first | (intro acts; rw [hret _ acts rfl rfl rfl]) | rw [hret _ _ rfl rfl rfl]
  exact Steps.refl _
/-- what holds at the law's entry: the machine, the code, the tables' words (any of lw_tbl by 'hts w (by decide +kernel)'), the script of L ints xs at the cell b, what the Statement gives of the start (any of its parts by flat_of_before) -/
def lw_At (p : Program) (s : State) (m : MethodId) (meth : Method) (c : Code) (b L : Nat) (xs : Nat → Int32) : Prop :=
  p.tables.exec = Jvm.exec ∧ c.code = code ∧ meth.sig.returnType = ret ∧ c.maxLocals = 4 ∧ s.vm.findClass R_law = some m.cls ∧ (∀ w ∈ lw_tbl, w.before #[Value.ref b] s = true) ∧ va_X b L xs s s.heap ∧ b < s.heap.size ∧ meth.locks = false ∧ (Jvm.Cond.and given_1 narrow_1).before #[Value.ref b] s = true

theorem wc_Sl {ws : List Cond} (ps : List (Nat × Nat)) (hp : ws = ps.filterMap (fun i => (wc_seg i.1)[i.2]?)) : ∀ w ∈ ws, w ∈ lw_tbl := by
  intro w hw
  rw [hp] at hw
  obtain ⟨i, -, hi⟩ := List.mem_filterMap.mp hw
  exact wc_seg_in i.1 _ (List.mem_of_getElem? hi)
theorem wc_nests_in : ∀ q ∈ wc_nests, q ∈ lw_tbl := wc_Sl [(1, 36), (1, 105), (1, 147), (1, 152), (1, 154), (1, 198), (1, 204), (2, 34), (2, 90), (2, 119), (3, 16), (3, 25), (3, 30), (3, 51), (3, 52), (3, 66), (3, 75), (3, 96), (3, 177), (3, 196), (3, 238), (4, 9), (4, 10), (4, 15), (4, 16), (4, 32), (4, 38), (4, 39), (4, 45), (4, 211)] (by decide +kernel)
theorem wc_flat {b : Nat} {s : State} (h : (Jvm.Cond.and given_1 narrow_1).before #[Value.ref b] s = true) : ∀ c ∈ flatC (Jvm.Cond.and given_1 narrow_1), c.before #[Value.ref b] s = true := flat_of_before _ h
def wc_rowM : Nat → Int32 := fun j => match j with
  | 0 => 6
  | 1 => 8
  | 2 => 40
  | 3 => 8
  | 4 => 8
  | 5 => 600
  | _ => 0
theorem wc_inM0 : Cond.arrayOf (Term.static "WindCabinet" "MOST_OF_A_TEXT" "[I") .int ∈ flatC (Jvm.Cond.and given_1 narrow_1) := by decide +kernel
theorem wc_inM1 : Cond.eq (.length (Term.static "WindCabinet" "MOST_OF_A_TEXT" "[I")) (.int 6) ∈ flatC (Jvm.Cond.and given_1 narrow_1) := by decide +kernel
theorem wc_inM2_0 : Cond.eq (.elem (Term.static "WindCabinet" "MOST_OF_A_TEXT" "[I") (.int 0)) (.int 6) ∈ flatC (Jvm.Cond.and given_1 narrow_1) := by decide +kernel
theorem wc_inM2_1 : Cond.eq (.elem (Term.static "WindCabinet" "MOST_OF_A_TEXT" "[I") (.int 1)) (.int 8) ∈ flatC (Jvm.Cond.and given_1 narrow_1) := by decide +kernel
theorem wc_inM2_2 : Cond.eq (.elem (Term.static "WindCabinet" "MOST_OF_A_TEXT" "[I") (.int 2)) (.int 40) ∈ flatC (Jvm.Cond.and given_1 narrow_1) := by decide +kernel
theorem wc_inM2_3 : Cond.eq (.elem (Term.static "WindCabinet" "MOST_OF_A_TEXT" "[I") (.int 3)) (.int 8) ∈ flatC (Jvm.Cond.and given_1 narrow_1) := by decide +kernel
theorem wc_inM2_4 : Cond.eq (.elem (Term.static "WindCabinet" "MOST_OF_A_TEXT" "[I") (.int 4)) (.int 8) ∈ flatC (Jvm.Cond.and given_1 narrow_1) := by decide +kernel
theorem wc_inM2_5 : Cond.eq (.elem (Term.static "WindCabinet" "MOST_OF_A_TEXT" "[I") (.int 5)) (.int 600) ∈ flatC (Jvm.Cond.and given_1 narrow_1) := by decide +kernel
theorem wc_constM {b : Nat} {s : State} {A : Nat → Prop} (h : (Jvm.Cond.and given_1 narrow_1).before #[Value.ref b] s = true) (hA : ∀ a : Nat, a < s.heap.size → ¬ A a) : ∃ t : Nat, (Term.static "WindCabinet" "MOST_OF_A_TEXT" "[I").eval #[Value.ref b] s none [] s = some (.ref t) ∧ va_T .int t 6 (fun j => .int (wc_rowM j)) A s s.heap := by
  have hs := wc_flat h
  refine va_Tof (by decide) (hs _ wc_inM0) (va_eqt (hs _ wc_inM1)) (fun j hj => ?_) hA
  rcases (by omega : j = 0 ∨ j = 1 ∨ j = 2 ∨ j = 3 ∨ j = 4 ∨ j = 5) with rfl | rfl | rfl | rfl | rfl | rfl
  · exact va_eqt (hs _ wc_inM2_0)
  · exact va_eqt (hs _ wc_inM2_1)
  · exact va_eqt (hs _ wc_inM2_2)
  · exact va_eqt (hs _ wc_inM2_3)
  · exact va_eqt (hs _ wc_inM2_4)
  · exact va_eqt (hs _ wc_inM2_5)
def wc_rowF : Nat → Int32 := fun j => match j with
  | 0 => 1
  | 1 => 1
  | 2 => 2
  | 3 => 6
  | 4 => 24
  | 5 => 120
  | 6 => 720
  | _ => 0
theorem wc_inF0 : Cond.arrayOf (Term.static "WindCabinet" "FACTORIALS" "[I") .int ∈ flatC (Jvm.Cond.and given_1 narrow_1) := by decide +kernel
theorem wc_inF1 : Cond.eq (.length (Term.static "WindCabinet" "FACTORIALS" "[I")) (.int 7) ∈ flatC (Jvm.Cond.and given_1 narrow_1) := by decide +kernel
theorem wc_inF2_0 : Cond.eq (.elem (Term.static "WindCabinet" "FACTORIALS" "[I") (.int 0)) (.int 1) ∈ flatC (Jvm.Cond.and given_1 narrow_1) := by decide +kernel
theorem wc_inF2_1 : Cond.eq (.elem (Term.static "WindCabinet" "FACTORIALS" "[I") (.int 1)) (.int 1) ∈ flatC (Jvm.Cond.and given_1 narrow_1) := by decide +kernel
theorem wc_inF2_2 : Cond.eq (.elem (Term.static "WindCabinet" "FACTORIALS" "[I") (.int 2)) (.int 2) ∈ flatC (Jvm.Cond.and given_1 narrow_1) := by decide +kernel
theorem wc_inF2_3 : Cond.eq (.elem (Term.static "WindCabinet" "FACTORIALS" "[I") (.int 3)) (.int 6) ∈ flatC (Jvm.Cond.and given_1 narrow_1) := by decide +kernel
theorem wc_inF2_4 : Cond.eq (.elem (Term.static "WindCabinet" "FACTORIALS" "[I") (.int 4)) (.int 24) ∈ flatC (Jvm.Cond.and given_1 narrow_1) := by decide +kernel
theorem wc_inF2_5 : Cond.eq (.elem (Term.static "WindCabinet" "FACTORIALS" "[I") (.int 5)) (.int 120) ∈ flatC (Jvm.Cond.and given_1 narrow_1) := by decide +kernel
theorem wc_inF2_6 : Cond.eq (.elem (Term.static "WindCabinet" "FACTORIALS" "[I") (.int 6)) (.int 720) ∈ flatC (Jvm.Cond.and given_1 narrow_1) := by decide +kernel
theorem wc_constF {b : Nat} {s : State} {A : Nat → Prop} (h : (Jvm.Cond.and given_1 narrow_1).before #[Value.ref b] s = true) (hA : ∀ a : Nat, a < s.heap.size → ¬ A a) : ∃ t : Nat, (Term.static "WindCabinet" "FACTORIALS" "[I").eval #[Value.ref b] s none [] s = some (.ref t) ∧ va_T .int t 7 (fun j => .int (wc_rowF j)) A s s.heap := by
  have hs := wc_flat h
  refine va_Tof (by decide) (hs _ wc_inF0) (va_eqt (hs _ wc_inF1)) (fun j hj => ?_) hA
  rcases (by omega : j = 0 ∨ j = 1 ∨ j = 2 ∨ j = 3 ∨ j = 4 ∨ j = 5 ∨ j = 6) with rfl | rfl | rfl | rfl | rfl | rfl | rfl
  · exact va_eqt (hs _ wc_inF2_0)
  · exact va_eqt (hs _ wc_inF2_1)
  · exact va_eqt (hs _ wc_inF2_2)
  · exact va_eqt (hs _ wc_inF2_3)
  · exact va_eqt (hs _ wc_inF2_4)
  · exact va_eqt (hs _ wc_inF2_5)
  · exact va_eqt (hs _ wc_inF2_6)
end
section
/-! the law's return, in any room -/
theorem lx_ret {R : Room} {p : Program} {l : Launch} {e : Env} {s : State} {m : MethodId} {below : List Frame} {meth : Method} {c : Code} {b : Nat} (hx : p.tables.exec = Jvm.exec) (hb : c.code = code) (hr : meth.sig.returnType = ret) (hlocks : meth.locks = false) {pc : Nat} {H : Heap} {ls : Array Slot} (hdg : decode code pc = .ok (.ireturn, 1)) : W p l e R s m #[Value.ref b] below meth c H [] 600000 7302249 (lw_Z below #[Value.ref b] s) (F0 m pc ls [.int 1]) := by
  intro T hT X
  obtain ⟨fs, hret, hrun, hended, hW, hframe⟩ := X.leave (v := some (.int 1)) (hlocks := hlocks) (fun h => by rw [hr] at h; cases h)
  have hmeth' : T.vm.method? m = some meth := X.method'
  refine ⟨T.setFrames fs, ?_, .returned (some (.int 1)), hrun, hended, rfl, ⟨_, rfl⟩, hW, hframe⟩
  jvm_step X.here [X.here.top, hx, hb, hdg, hmeth', hr, ret, narrow_b1]
  (try refine ⟨rfl, ?_⟩); (try refine ⟨rfl, ?_⟩)
  first | (intro acts; rw [hret _ acts rfl rfl rfl]) | rw [hret _ _ rfl rfl rfl]
  exact Steps.refl _
theorem lx_lawret {R : Room} {p : Program} {l : Launch} {e : Env} {s : State} {m : MethodId} {below : List Frame} {meth : Method} {c : Code} {b : Nat} {G : EG} {rc rs pc : Nat} {ls : List (Option EV)} {w : EW} (K : wc_C p s m #[Value.ref b] meth c G RL cL_law 4 0) (hr : meth.sig.returnType = ret) (hd : decode cL_law pc = .ok (.ireturn, 1)) (hc : R.cells ≤ 600000) (hs : R.slots ≤ 7302249) : WW p l e R s m #[Value.ref b] below meth c (lw_Z below #[Value.ref b] s) G 4 0 0 rc rs pc ls [eI 1] w := by
  intro H locs arr h1 h2 h3 h4 hP hS hL
  have e3 : w.length + rc = R.cells := by have q : w.length + rc = 0 + R.cells := h3; omega
  have e4 : wc_SL w + rs = R.slots := by have q : wc_SL w + rs = 0 + R.slots := h4; omega
  have hz : gZ G = s.heap.size := by have q := K.2.2.2.2.2.2.1; omega
  refine va_forget (fun q hq => by have := hS.2.2 q hq; rw [← hz]; exact this) ?_
  refine W.widen (k := 600000) (n := 7302249) (by omega) (by omega) ?_
  exact lx_ret K.1 K.2.1 hr K.2.2.2.2.2.2.2 hd
end
section
/-! the law's entry -/
theorem law_start {p : Program} {l : Launch} {e : Env} {s : State} {m : MethodId} {below : List Frame} {meth : Method} {c : Code} {b : Nat} {G : EG} {sc : Nat × (Nat → Int32)} (K : wc_C p s m #[Value.ref b] meth c G RL cL_law 4 0) (hr : meth.sig.returnType = ret) (ga : gA G 2 = b) (hsc : xsc G sc) (hN : sc.1 ≤ 4096) : W p l e room_1 s m #[Value.ref b] below meth c s.heap [] 0 0 (lw_Z below #[Value.ref b] s) (entryFrame m ([Value.ref b] : List Value).toArray 4) := by
  obtain ⟨K2, s2, n1, n2, k⟩ := LAWB (l := l) hsc hN
  have hP0 : va_P (gD G) vwCl (wc_l G []) s.heap := fun k q h => by simp [wc_l] at h
  have hv : ([eK 2] : List EV).map (wc_v G) = [Value.ref b] := by show [wc_k G 2] = _; rw [wc_k_lt (by omega), ga]
  obtain ⟨R, eR⟩ : ∃ R : Room, R = { frames := 13, cells := K2.length, slots := kSL K2, locals := 522 } := ⟨_, rfl⟩
  have r1 : R.frames = 13 := by rw [eR]
  have r2 : R.cells = K2.length := by rw [eR]
  have r3 : R.slots = kSL K2 := by rw [eR]
  have r4 : R.locals = 522 := by rw [eR]
  have rt : RT p l e R s m #[Value.ref b] below meth c (lw_Z below #[Value.ref b] s) G cL_law 4 0 0 4 (some (.inl 1)) (wl K2 s2) := by
    refine ⟨fun pc ls x hx _ hd => ?_, fun pc ls x hx _ _ => ?_, fun pc ls x hx _ _ => ?_, fun pc ls hx _ _ => ?_⟩
    · cases hx
      exact lx_lawret K hr hd (by omega) (by omega)
    · cases hx
    · cases hx
    · cases hx
  have H := k K (fun h => nomatch h) ⟨by omega, by omega⟩ rt
  rw [lg_entry_eq]
  have h9 := H s.heap [] _ (Nat.zero_le _) (Nat.zero_le _) (by rw [r2]; rfl) (by rw [r3]; rfl) hP0 va_S.rf (wc_entry [eK 2] (Nat.le_of_ble_eq_true rfl))
  rw [hv] at h9
  exact lx_W h9 (by rw [r1]; decide) (by rw [r2]; show K2.length ≤ 600000; omega) (by rw [r3]; show kSL K2 ≤ 7302249; omega) (by rw [r4]; decide)
end
