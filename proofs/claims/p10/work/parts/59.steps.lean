section XRQ
variable {sc : Nat × (Nat → Int32)} {d : Nat} {K : List KD} {s : SG} {b : Nat → XL → List EV → EW → XR} {x a1 a2 a3 a4 a5 a6 a7 : Int32}
/-! the law: one call -/
theorem LS_feed (h : INVP SIM1 K s) (g1 : ∀ w, xdi sc w (x + 1) (.inr (.inr (.inr 2))) = some a1) (g2 : ∀ w, xdi sc w (x + 2) (.inr (.inr (.inr 2))) = some a2) (g3 : ∀ w, xdi sc w (x + 3) (.inr (.inr (.inr 2))) = some a3) (g4 : ∀ w, xdi sc w (x + 4) (.inr (.inr (.inr 2))) = some a4) (g5 : ∀ w, xdi sc w (x + 5) (.inr (.inr (.inr 2))) = some a5) : ∃ s2, INVP SIM1 K s2 ∧ fW sc 8 4 false 4 (xN sc (d + 11)) b kL_law_164 164 [some (.inr (.inr (.inr 2))), some (.inr (.inr (.inl (some 0)))), some (.inr (.inr (.inl (some 64)))), some (.inl x)] [] (wl K s) = fW sc 8 4 false 4 (xN sc (d + 11)) b kL_law_1621 1621 [some (.inr (.inr (.inr 2))), some (.inr (.inr (.inl (some 0)))), some (.inr (.inr (.inl (some 64)))), some (.inl x)] [] (wl K s2) := by
  have hK := INVP_SH h
  obtain ⟨p, s2, e1, e2, _, i2⟩ := CQ_feed (sc := sc) (d := d) (x1 := a1) (x2 := a2) (x3 := a3) (x4 := a4) (x5 := a5) SIM1_gd h
  refine ⟨s2, i2, ?_⟩
  simp only [uL_law_164, qL_law_164, jL_law_164_227, jL_law_164_250, jL_law_164_283, jL_law_164_306, jL_law_164_339, jL_law_164_382, jL_law_164_457, jL_law_164_560, jL_law_164_603, jL_law_164_678, jL_law_164_721, jL_law_164_764, jL_law_164_827, jL_law_164_890, jL_law_164_949, jL_law_164_982, jL_law_164_1085, jL_law_164_1172, jL_law_164_1215, jL_law_164_1258, jL_law_164_1301, jL_law_164_1344, jL_law_164_1393, jL_law_164_1436, jL_law_164_1499, jL_law_164_1552, jL_law_164_1575, jL_law_164_1598, jL_law_164_1621, jL_law_227_1621, g1, g2, g3, g4, g5, bd2, c0_v hK, c64_v hK, cond_true, e1, e2, xci_eq]
theorem LS_end (h : INVP SIM1 K s) (g1 : ∀ w, xdi sc w (x + 1) (.inr (.inr (.inr 2))) = some a1) : ∃ s2, INVP SIM1 K s2 ∧ fW sc 8 4 false 4 (xN sc (d + 11)) b kL_law_227 227 [some (.inr (.inr (.inr 2))), some (.inr (.inr (.inl (some 0)))), some (.inr (.inr (.inl (some 64)))), some (.inl x)] [] (wl K s) = fW sc 8 4 false 4 (xN sc (d + 11)) b kL_law_1621 1621 [some (.inr (.inr (.inr 2))), some (.inr (.inr (.inl (some 0)))), some (.inr (.inr (.inl (some 64)))), some (.inl x)] [] (wl K s2) := by
  have hK := INVP_SH h
  obtain ⟨p, s2, e1, e2, _, i2⟩ := CQ_end (sc := sc) (d := d) (x1 := a1) SIM1_gd h
  refine ⟨s2, i2, ?_⟩
  simp only [uL_law_227, qL_law_227, jL_law_227_1621, jL_law_250_1621, g1, bd2, c0_v hK, c64_v hK, cond_true, e1, e2, xci_eq]
theorem LS_text (h : INVP SIM1 K s) (g1 : ∀ w, xdi sc w (x + 1) (.inr (.inr (.inr 2))) = some a1) (g2 : ∀ w, xdi sc w (x + 2) (.inr (.inr (.inr 2))) = some a2) : ∃ s2, INVP SIM1 K s2 ∧ fW sc 8 4 false 4 (xN sc (d + 11)) b kL_law_250 250 [some (.inr (.inr (.inr 2))), some (.inr (.inr (.inl (some 0)))), some (.inr (.inr (.inl (some 64)))), some (.inl x)] [] (wl K s) = fW sc 8 4 false 4 (xN sc (d + 11)) b kL_law_1621 1621 [some (.inr (.inr (.inr 2))), some (.inr (.inr (.inl (some 0)))), some (.inr (.inr (.inl (some 64)))), some (.inl x)] [] (wl K s2) := by
  have hK := INVP_SH h
  obtain ⟨p, s2, e1, e2, _, i2⟩ := CQ_text (sc := sc) (d := d) (x1 := a1) (x2 := a2) SIM1_gd h
  refine ⟨s2, i2, ?_⟩
  simp only [uL_law_250, qL_law_250, jL_law_250_1621, jL_law_283_1621, g1, g2, bd2, c0_v hK, c64_v hK, cond_true, e1, e2, xci_eq]
theorem LS_fault (h : INVP SIM1 K s) (g1 : ∀ w, xdi sc w (x + 1) (.inr (.inr (.inr 2))) = some a1) : ∃ s2, INVP SIM1 K s2 ∧ fW sc 8 4 false 4 (xN sc (d + 11)) b kL_law_283 283 [some (.inr (.inr (.inr 2))), some (.inr (.inr (.inl (some 0)))), some (.inr (.inr (.inl (some 64)))), some (.inl x)] [] (wl K s) = fW sc 8 4 false 4 (xN sc (d + 11)) b kL_law_1621 1621 [some (.inr (.inr (.inr 2))), some (.inr (.inr (.inl (some 0)))), some (.inr (.inr (.inl (some 64)))), some (.inl x)] [] (wl K s2) := by
  have hK := INVP_SH h
  obtain ⟨v1, v2, e1, e2, i2⟩ := CQ_fault (sc := sc) (d := d) (x1 := a1) SIM1_gd.1 h
  refine ⟨s, i2, ?_⟩
  simp only [uL_law_283, qL_law_283, jL_law_283_1621, jL_law_306_1621, g1, bd2, c0_v hK, c64_v hK, cond_true, e1, e2, xci_eq]
theorem LS_republic (h : INVP SIM1 K s) (g1 : ∀ w, xdi sc w (x + 1) (.inr (.inr (.inr 2))) = some a1) (g2 : ∀ w, xdi sc w (x + 2) (.inr (.inr (.inr 2))) = some a2) : ∃ s2, INVP SIM1 K s2 ∧ fW sc 8 4 false 4 (xN sc (d + 11)) b kL_law_306 306 [some (.inr (.inr (.inr 2))), some (.inr (.inr (.inl (some 0)))), some (.inr (.inr (.inl (some 64)))), some (.inl x)] [] (wl K s) = fW sc 8 4 false 4 (xN sc (d + 11)) b kL_law_1621 1621 [some (.inr (.inr (.inr 2))), some (.inr (.inr (.inl (some 0)))), some (.inr (.inr (.inl (some 64)))), some (.inl x)] [] (wl K s2) := by
  have hK := INVP_SH h
  obtain ⟨v1, v2, s1, s2, e1, e2, i2⟩ := CQ_republic (sc := sc) (d := d) (x1 := a1) (x2 := a2) SIM1_gd.1 h
  refine ⟨s2, i2, ?_⟩
  simp only [uL_law_306, qL_law_306, jL_law_306_1621, jL_law_339_1621, g1, g2, bd2, c0_v hK, c64_v hK, cond_true, e1, e2, xci_eq]
theorem LS_minister (h : INVP SIM1 K s) (g1 : ∀ w, xdi sc w (x + 1) (.inr (.inr (.inr 2))) = some a1) (g2 : ∀ w, xdi sc w (x + 2) (.inr (.inr (.inr 2))) = some a2) (g3 : ∀ w, xdi sc w (x + 3) (.inr (.inr (.inr 2))) = some a3) : ∃ s2, INVP SIM1 K s2 ∧ fW sc 8 4 false 4 (xN sc (d + 11)) b kL_law_339 339 [some (.inr (.inr (.inr 2))), some (.inr (.inr (.inl (some 0)))), some (.inr (.inr (.inl (some 64)))), some (.inl x)] [] (wl K s) = fW sc 8 4 false 4 (xN sc (d + 11)) b kL_law_1621 1621 [some (.inr (.inr (.inr 2))), some (.inr (.inr (.inl (some 0)))), some (.inr (.inr (.inl (some 64)))), some (.inl x)] [] (wl K s2) := by
  have hK := INVP_SH h
  obtain ⟨v1, v2, s1, s2, e1, e2, i2⟩ := CQ_minister (sc := sc) (d := d) (x1 := a1) (x2 := a2) (x3 := a3) SIM1_gd.1 h
  refine ⟨s2, i2, ?_⟩
  simp only [uL_law_339, qL_law_339, jL_law_339_1621, jL_law_382_1621, g1, g2, g3, bd2, c0_v hK, c64_v hK, cond_true, e1, e2, xci_eq]
theorem LS_off (h : INVP SIM1 K s) (g1 : ∀ w, xdi sc w (x + 1) (.inr (.inr (.inr 2))) = some a1) (g2 : ∀ w, xdi sc w (x + 2) (.inr (.inr (.inr 2))) = some a2) (g3 : ∀ w, xdi sc w (x + 3) (.inr (.inr (.inr 2))) = some a3) (g4 : ∀ w, xdi sc w (x + 4) (.inr (.inr (.inr 2))) = some a4) (g5 : ∀ w, xdi sc w (x + 5) (.inr (.inr (.inr 2))) = some a5) (g6 : ∀ w, xdi sc w (x + 6) (.inr (.inr (.inr 2))) = some a6) : ∃ s2, INVP SIM1 K s2 ∧ fW sc 8 4 false 4 (xN sc (d + 11)) b kL_law_382 382 [some (.inr (.inr (.inr 2))), some (.inr (.inr (.inl (some 0)))), some (.inr (.inr (.inl (some 64)))), some (.inl x)] [] (wl K s) = fW sc 8 4 false 4 (xN sc (d + 11)) b kL_law_1621 1621 [some (.inr (.inr (.inr 2))), some (.inr (.inr (.inl (some 0)))), some (.inr (.inr (.inl (some 64)))), some (.inl x)] [] (wl K s2) := by
  have hK := INVP_SH h
  obtain ⟨v1, v2, s1, s2, e1, e2, i2⟩ := CQ_off (sc := sc) (d := d) (x1 := a1) (x2 := a2) (x3 := a3) (x4 := a4) (x5 := a5) (x6 := a6) SIM1_gd.1 h
  refine ⟨s2, i2, ?_⟩
  simp only [uL_law_382, qL_law_382, jL_law_382_1621, jL_law_457_1621, g1, g2, g3, g4, g5, g6, bd2, c0_v hK, c64_v hK, cond_true, e1, e2, xci_eq]
theorem LS_vote (h : INVP SIM1 K s) (g1 : ∀ w, xdi sc w (x + 1) (.inr (.inr (.inr 2))) = some a1) (g2 : ∀ w, xdi sc w (x + 2) (.inr (.inr (.inr 2))) = some a2) (g3 : ∀ w, xdi sc w (x + 3) (.inr (.inr (.inr 2))) = some a3) (g4 : ∀ w, xdi sc w (x + 4) (.inr (.inr (.inr 2))) = some a4) (g5 : ∀ w, xdi sc w (x + 5) (.inr (.inr (.inr 2))) = some a5) (g6 : ∀ w, xdi sc w (x + 6) (.inr (.inr (.inr 2))) = some a6) (g7 : ∀ w, xdi sc w (x + 7) (.inr (.inr (.inr 2))) = some a7) : ∃ s2, INVP SIM1 K s2 ∧ fW sc 8 4 false 4 (xN sc (d + 11)) b kL_law_457 457 [some (.inr (.inr (.inr 2))), some (.inr (.inr (.inl (some 0)))), some (.inr (.inr (.inl (some 64)))), some (.inl x)] [] (wl K s) = fW sc 8 4 false 4 (xN sc (d + 11)) b kL_law_1621 1621 [some (.inr (.inr (.inr 2))), some (.inr (.inr (.inl (some 0)))), some (.inr (.inr (.inl (some 64)))), some (.inl x)] [] (wl K s2) := by
  have hK := INVP_SH h
  by_cases z : a7 = 0
  · skip
    obtain ⟨v1, v2, s1, s2, e1, e2, i2⟩ := CQ_vote (sc := sc) (d := d) (x1 := a1) (x2 := a2) (x3 := a3) (x4 := a4) (x5 := a5) (x6 := a6) (x7 := 0) SIM1_gd.1 h
    refine ⟨s2, i2, ?_⟩
    simp only [uL_law_457, uL_law_498, uL_law_502, uL_law_503, uL_law_548, uL_law_552, uL_law_553, qL_law_457, qL_law_498, qL_law_502, qL_law_503, qL_law_548, qL_law_552, qL_law_553, jL_law_457_1621, jL_law_498_502, jL_law_502_503, jL_law_548_552, jL_law_552_553, jL_law_560_1621, g1, g2, g3, g4, g5, g6, g7, bd2, c0_v hK, c64_v hK, cond_true, e1, e2, xci_eq, if_pos z]
  · skip
    obtain ⟨v1, v2, s1, s2, e1, e2, i2⟩ := CQ_vote (sc := sc) (d := d) (x1 := a1) (x2 := a2) (x3 := a3) (x4 := a4) (x5 := a5) (x6 := a6) (x7 := 1) SIM1_gd.1 h
    refine ⟨s2, i2, ?_⟩
    simp only [uL_law_457, uL_law_498, uL_law_502, uL_law_503, uL_law_548, uL_law_552, uL_law_553, qL_law_457, qL_law_498, qL_law_502, qL_law_503, qL_law_548, qL_law_552, qL_law_553, jL_law_457_1621, jL_law_498_502, jL_law_502_503, jL_law_548_552, jL_law_552_553, jL_law_560_1621, g1, g2, g3, g4, g5, g6, g7, bd2, c0_v hK, c64_v hK, cond_true, e1, e2, xci_eq, if_neg z]
theorem LS_order (h : INVP SIM1 K s) (g1 : ∀ w, xdi sc w (x + 1) (.inr (.inr (.inr 2))) = some a1) (g2 : ∀ w, xdi sc w (x + 2) (.inr (.inr (.inr 2))) = some a2) (g3 : ∀ w, xdi sc w (x + 3) (.inr (.inr (.inr 2))) = some a3) : ∃ s2, INVP SIM1 K s2 ∧ fW sc 8 4 false 4 (xN sc (d + 11)) b kL_law_560 560 [some (.inr (.inr (.inr 2))), some (.inr (.inr (.inl (some 0)))), some (.inr (.inr (.inl (some 64)))), some (.inl x)] [] (wl K s) = fW sc 8 4 false 4 (xN sc (d + 11)) b kL_law_1621 1621 [some (.inr (.inr (.inr 2))), some (.inr (.inr (.inl (some 0)))), some (.inr (.inr (.inl (some 64)))), some (.inl x)] [] (wl K s2) := by
  have hK := INVP_SH h
  obtain ⟨v, s1, s2, e1, e2, i2⟩ := CE_order (sc := sc) (d := d) (x1 := a1) (x2 := a2) (x3 := a3) SIM1_gd.1 h
  refine ⟨s2, i2, ?_⟩
  simp only [uL_law_560, uL_law_601, qL_law_560, qL_law_601, jL_law_560_1621, jL_law_601_1621, g1, g2, g3, bd2, c0_v hK, c64_v hK, cond_true, e1, e2, xci_eq, if_true]
theorem LS_broken (h : INVP SIM1 K s) (g1 : ∀ w, xdi sc w (x + 1) (.inr (.inr (.inr 2))) = some a1) (g2 : ∀ w, xdi sc w (x + 2) (.inr (.inr (.inr 2))) = some a2) (g3 : ∀ w, xdi sc w (x + 3) (.inr (.inr (.inr 2))) = some a3) (g4 : ∀ w, xdi sc w (x + 4) (.inr (.inr (.inr 2))) = some a4) (g5 : ∀ w, xdi sc w (x + 5) (.inr (.inr (.inr 2))) = some a5) (g6 : ∀ w, xdi sc w (x + 6) (.inr (.inr (.inr 2))) = some a6) : ∃ s2, INVP SIM1 K s2 ∧ fW sc 8 4 false 4 (xN sc (d + 11)) b kL_law_603 603 [some (.inr (.inr (.inr 2))), some (.inr (.inr (.inl (some 0)))), some (.inr (.inr (.inl (some 64)))), some (.inl x)] [] (wl K s) = fW sc 8 4 false 4 (xN sc (d + 11)) b kL_law_1621 1621 [some (.inr (.inr (.inr 2))), some (.inr (.inr (.inl (some 0)))), some (.inr (.inr (.inl (some 64)))), some (.inl x)] [] (wl K s2) := by
  have hK := INVP_SH h
  obtain ⟨v1, v2, s1, s2, e1, e2, i2⟩ := CQ_broken (sc := sc) (d := d) (x1 := a1) (x2 := a2) (x3 := a3) (x4 := a4) (x5 := a5) (x6 := a6) SIM1_gd.1 h
  refine ⟨s2, i2, ?_⟩
  simp only [uL_law_603, qL_law_603, jL_law_678_1621, g1, g2, g3, g4, g5, g6, bd2, c0_v hK, c64_v hK, cond_true, e1, e2, xci_eq]
theorem LS_deed (h : INVP SIM1 K s) (g1 : ∀ w, xdi sc w (x + 1) (.inr (.inr (.inr 2))) = some a1) (g2 : ∀ w, xdi sc w (x + 2) (.inr (.inr (.inr 2))) = some a2) (g3 : ∀ w, xdi sc w (x + 3) (.inr (.inr (.inr 2))) = some a3) : ∃ s2, INVP SIM1 K s2 ∧ fW sc 8 4 false 4 (xN sc (d + 11)) b kL_law_678 678 [some (.inr (.inr (.inr 2))), some (.inr (.inr (.inl (some 0)))), some (.inr (.inr (.inl (some 64)))), some (.inl x)] [] (wl K s) = fW sc 8 4 false 4 (xN sc (d + 11)) b kL_law_1621 1621 [some (.inr (.inr (.inr 2))), some (.inr (.inr (.inl (some 0)))), some (.inr (.inr (.inl (some 64)))), some (.inl x)] [] (wl K s2) := by
  have hK := INVP_SH h
  obtain ⟨v1, v2, s1, s2, e1, e2, i2⟩ := CQ_deed (sc := sc) (d := d) (x1 := a1) (x2 := a2) (x3 := a3) SIM1_gd.1 h
  refine ⟨s2, i2, ?_⟩
  simp only [uL_law_678, qL_law_678, jL_law_678_1621, jL_law_721_1621, g1, g2, g3, bd2, c0_v hK, c64_v hK, cond_true, e1, e2, xci_eq]
theorem LS_stop (h : INVP SIM1 K s) (g1 : ∀ w, xdi sc w (x + 1) (.inr (.inr (.inr 2))) = some a1) (g2 : ∀ w, xdi sc w (x + 2) (.inr (.inr (.inr 2))) = some a2) (g3 : ∀ w, xdi sc w (x + 3) (.inr (.inr (.inr 2))) = some a3) : ∃ s2, INVP SIM1 K s2 ∧ fW sc 8 4 false 4 (xN sc (d + 11)) b kL_law_721 721 [some (.inr (.inr (.inr 2))), some (.inr (.inr (.inl (some 0)))), some (.inr (.inr (.inl (some 64)))), some (.inl x)] [] (wl K s) = fW sc 8 4 false 4 (xN sc (d + 11)) b kL_law_1621 1621 [some (.inr (.inr (.inr 2))), some (.inr (.inr (.inl (some 0)))), some (.inr (.inr (.inl (some 64)))), some (.inl x)] [] (wl K s2) := by
  have hK := INVP_SH h
  obtain ⟨v1, v2, s1, s2, e1, e2, i2⟩ := CQ_stop (sc := sc) (d := d) (x1 := a1) (x2 := a2) (x3 := a3) SIM1_gd.1 h
  refine ⟨s2, i2, ?_⟩
  simp only [uL_law_721, qL_law_721, jL_law_721_1621, jL_law_764_1621, g1, g2, g3, bd2, c0_v hK, c64_v hK, cond_true, e1, e2, xci_eq]
theorem LS_state (h : INVP SIM1 K s) (g1 : ∀ w, xdi sc w (x + 1) (.inr (.inr (.inr 2))) = some a1) (g2 : ∀ w, xdi sc w (x + 2) (.inr (.inr (.inr 2))) = some a2) (g3 : ∀ w, xdi sc w (x + 3) (.inr (.inr (.inr 2))) = some a3) (g4 : ∀ w, xdi sc w (x + 4) (.inr (.inr (.inr 2))) = some a4) (g5 : ∀ w, xdi sc w (x + 5) (.inr (.inr (.inr 2))) = some a5) : ∃ s2, INVP SIM1 K s2 ∧ fW sc 8 4 false 4 (xN sc (d + 11)) b kL_law_764 764 [some (.inr (.inr (.inr 2))), some (.inr (.inr (.inl (some 0)))), some (.inr (.inr (.inl (some 64)))), some (.inl x)] [] (wl K s) = fW sc 8 4 false 4 (xN sc (d + 11)) b kL_law_1621 1621 [some (.inr (.inr (.inr 2))), some (.inr (.inr (.inl (some 0)))), some (.inr (.inr (.inl (some 64)))), some (.inl x)] [] (wl K s2) := by
  have hK := INVP_SH h
  obtain ⟨v1, v2, s1, s2, e1, e2, i2⟩ := CQ_state (sc := sc) (d := d) (x1 := a1) (x2 := a2) (x3 := a3) (x4 := a4) (x5 := a5) SIM1_gd.1 h
  refine ⟨s2, i2, ?_⟩
  simp only [uL_law_764, qL_law_764, jL_law_764_1621, jL_law_827_1621, g1, g2, g3, g4, g5, bd2, c0_v hK, c64_v hK, cond_true, e1, e2, xci_eq]
theorem LS_agreed (h : INVP SIM1 K s) (g1 : ∀ w, xdi sc w (x + 1) (.inr (.inr (.inr 2))) = some a1) (g2 : ∀ w, xdi sc w (x + 2) (.inr (.inr (.inr 2))) = some a2) (g3 : ∀ w, xdi sc w (x + 3) (.inr (.inr (.inr 2))) = some a3) (g4 : ∀ w, xdi sc w (x + 4) (.inr (.inr (.inr 2))) = some a4) (g5 : ∀ w, xdi sc w (x + 5) (.inr (.inr (.inr 2))) = some a5) : ∃ s2, INVP SIM1 K s2 ∧ fW sc 8 4 false 4 (xN sc (d + 11)) b kL_law_827 827 [some (.inr (.inr (.inr 2))), some (.inr (.inr (.inl (some 0)))), some (.inr (.inr (.inl (some 64)))), some (.inl x)] [] (wl K s) = fW sc 8 4 false 4 (xN sc (d + 11)) b kL_law_1621 1621 [some (.inr (.inr (.inr 2))), some (.inr (.inr (.inl (some 0)))), some (.inr (.inr (.inl (some 64)))), some (.inl x)] [] (wl K s2) := by
  have hK := INVP_SH h
  obtain ⟨v1, v2, s1, s2, e1, e2, i2⟩ := CQ_agreed (sc := sc) (d := d) (x1 := a1) (x2 := a2) (x3 := a3) (x4 := a4) (x5 := a5) SIM1_gd.1 h
  refine ⟨s2, i2, ?_⟩
  simp only [uL_law_827, qL_law_827, jL_law_827_1621, jL_law_890_1621, g1, g2, g3, g4, g5, bd2, c0_v hK, c64_v hK, cond_true, e1, e2, xci_eq]
theorem LS_power (h : INVP SIM1 K s) (g1 : ∀ w, xdi sc w (x + 1) (.inr (.inr (.inr 2))) = some a1) (g2 : ∀ w, xdi sc w (x + 2) (.inr (.inr (.inr 2))) = some a2) (g3 : ∀ w, xdi sc w (x + 3) (.inr (.inr (.inr 2))) = some a3) : ∃ s2, INVP SIM1 K s2 ∧ fW sc 8 4 false 4 (xN sc (d + 11)) b kL_law_890 890 [some (.inr (.inr (.inr 2))), some (.inr (.inr (.inl (some 0)))), some (.inr (.inr (.inl (some 64)))), some (.inl x)] [] (wl K s) = fW sc 8 4 false 4 (xN sc (d + 11)) b kL_law_1621 1621 [some (.inr (.inr (.inr 2))), some (.inr (.inr (.inl (some 0)))), some (.inr (.inr (.inl (some 64)))), some (.inl x)] [] (wl K s2) := by
  have hK := INVP_SH h
  by_cases z : a3 = 0
  · skip
    obtain ⟨v1, v2, s1, s2, e1, e2, i2⟩ := CQ_power (sc := sc) (d := d) (x1 := a1) (x2 := a2) (x3 := 0) SIM1_gd.1 h
    refine ⟨s2, i2, ?_⟩
    simp only [uL_law_890, uL_law_909, uL_law_913, uL_law_914, uL_law_937, uL_law_941, uL_law_942, qL_law_890, qL_law_909, qL_law_913, qL_law_914, qL_law_937, qL_law_941, qL_law_942, jL_law_890_1621, jL_law_909_913, jL_law_913_914, jL_law_937_941, jL_law_941_942, jL_law_949_1621, g1, g2, g3, bd2, c0_v hK, c64_v hK, cond_true, e1, e2, xci_eq, if_pos z]
  · skip
    obtain ⟨v1, v2, s1, s2, e1, e2, i2⟩ := CQ_power (sc := sc) (d := d) (x1 := a1) (x2 := a2) (x3 := 1) SIM1_gd.1 h
    refine ⟨s2, i2, ?_⟩
    simp only [uL_law_890, uL_law_909, uL_law_913, uL_law_914, uL_law_937, uL_law_941, uL_law_942, qL_law_890, qL_law_909, qL_law_913, qL_law_914, qL_law_937, qL_law_941, qL_law_942, jL_law_890_1621, jL_law_909_913, jL_law_913_914, jL_law_937_941, jL_law_941_942, jL_law_949_1621, g1, g2, g3, bd2, c0_v hK, c64_v hK, cond_true, e1, e2, xci_eq, if_neg z]
theorem LS_coalition (h : INVP SIM1 K s) (g1 : ∀ w, xdi sc w (x + 1) (.inr (.inr (.inr 2))) = some a1) (g2 : ∀ w, xdi sc w (x + 2) (.inr (.inr (.inr 2))) = some a2) : ∃ s2, INVP SIM1 K s2 ∧ fW sc 8 4 false 4 (xN sc (d + 11)) b kL_law_949 949 [some (.inr (.inr (.inr 2))), some (.inr (.inr (.inl (some 0)))), some (.inr (.inr (.inl (some 64)))), some (.inl x)] [] (wl K s) = fW sc 8 4 false 4 (xN sc (d + 11)) b kL_law_1621 1621 [some (.inr (.inr (.inr 2))), some (.inr (.inr (.inl (some 0)))), some (.inr (.inr (.inl (some 64)))), some (.inl x)] [] (wl K s2) := by
  have hK := INVP_SH h
  obtain ⟨v1, v2, s1, s2, e1, e2, i2⟩ := CQ_coalition (sc := sc) (d := d) (x1 := a1) (x2 := a2) SIM1_gd.1 h
  refine ⟨s2, i2, ?_⟩
  simp only [uL_law_949, qL_law_949, jL_law_949_1621, jL_law_982_1621, g1, g2, bd2, c0_v hK, c64_v hK, cond_true, e1, e2, xci_eq]
theorem LS_bribe (h : INVP SIM1 K s) (g1 : ∀ w, xdi sc w (x + 1) (.inr (.inr (.inr 2))) = some a1) (g2 : ∀ w, xdi sc w (x + 2) (.inr (.inr (.inr 2))) = some a2) (g3 : ∀ w, xdi sc w (x + 3) (.inr (.inr (.inr 2))) = some a3) (g4 : ∀ w, xdi sc w (x + 4) (.inr (.inr (.inr 2))) = some a4) (g5 : ∀ w, xdi sc w (x + 5) (.inr (.inr (.inr 2))) = some a5) (g6 : ∀ w, xdi sc w (x + 6) (.inr (.inr (.inr 2))) = some a6) (g7 : ∀ w, xdi sc w (x + 7) (.inr (.inr (.inr 2))) = some a7) : ∃ s2, INVP SIM1 K s2 ∧ fW sc 8 4 false 4 (xN sc (d + 11)) b kL_law_982 982 [some (.inr (.inr (.inr 2))), some (.inr (.inr (.inl (some 0)))), some (.inr (.inr (.inl (some 64)))), some (.inl x)] [] (wl K s) = fW sc 8 4 false 4 (xN sc (d + 11)) b kL_law_1621 1621 [some (.inr (.inr (.inr 2))), some (.inr (.inr (.inl (some 0)))), some (.inr (.inr (.inl (some 64)))), some (.inl x)] [] (wl K s2) := by
  have hK := INVP_SH h
  by_cases z : a7 = 0
  · skip
    obtain ⟨v1, v2, s1, s2, e1, e2, i2⟩ := CQ_bribe (sc := sc) (d := d) (x1 := a1) (x2 := a2) (x3 := a3) (x4 := a4) (x5 := a5) (x6 := a6) (x7 := 0) SIM1_gd.1 h
    refine ⟨s2, i2, ?_⟩
    simp only [uL_law_982, uL_law_1023, uL_law_1027, uL_law_1028, uL_law_1073, uL_law_1077, uL_law_1078, qL_law_982, qL_law_1023, qL_law_1027, qL_law_1028, qL_law_1073, qL_law_1077, qL_law_1078, jL_law_982_1621, jL_law_1023_1027, jL_law_1027_1028, jL_law_1073_1077, jL_law_1077_1078, jL_law_1085_1621, g1, g2, g3, g4, g5, g6, g7, bd2, c0_v hK, c64_v hK, cond_true, e1, e2, xci_eq, if_pos z]
  · skip
    obtain ⟨v1, v2, s1, s2, e1, e2, i2⟩ := CQ_bribe (sc := sc) (d := d) (x1 := a1) (x2 := a2) (x3 := a3) (x4 := a4) (x5 := a5) (x6 := a6) (x7 := 1) SIM1_gd.1 h
    refine ⟨s2, i2, ?_⟩
    simp only [uL_law_982, uL_law_1023, uL_law_1027, uL_law_1028, uL_law_1073, uL_law_1077, uL_law_1078, qL_law_982, qL_law_1023, qL_law_1027, qL_law_1028, qL_law_1073, qL_law_1077, qL_law_1078, jL_law_982_1621, jL_law_1023_1027, jL_law_1027_1028, jL_law_1073_1077, jL_law_1077_1078, jL_law_1085_1621, g1, g2, g3, g4, g5, g6, g7, bd2, c0_v hK, c64_v hK, cond_true, e1, e2, xci_eq, if_neg z]
theorem LS_lobby (h : INVP SIM1 K s) (g1 : ∀ w, xdi sc w (x + 1) (.inr (.inr (.inr 2))) = some a1) (g2 : ∀ w, xdi sc w (x + 2) (.inr (.inr (.inr 2))) = some a2) (g3 : ∀ w, xdi sc w (x + 3) (.inr (.inr (.inr 2))) = some a3) (g4 : ∀ w, xdi sc w (x + 4) (.inr (.inr (.inr 2))) = some a4) (g5 : ∀ w, xdi sc w (x + 5) (.inr (.inr (.inr 2))) = some a5) (g6 : ∀ w, xdi sc w (x + 6) (.inr (.inr (.inr 2))) = some a6) (g7 : ∀ w, xdi sc w (x + 7) (.inr (.inr (.inr 2))) = some a7) : ∃ s2, INVP SIM1 K s2 ∧ fW sc 8 4 false 4 (xN sc (d + 11)) b kL_law_1085 1085 [some (.inr (.inr (.inr 2))), some (.inr (.inr (.inl (some 0)))), some (.inr (.inr (.inl (some 64)))), some (.inl x)] [] (wl K s) = fW sc 8 4 false 4 (xN sc (d + 11)) b kL_law_1621 1621 [some (.inr (.inr (.inr 2))), some (.inr (.inr (.inl (some 0)))), some (.inr (.inr (.inl (some 64)))), some (.inl x)] [] (wl K s2) := by
  have hK := INVP_SH h
  obtain ⟨v1, v2, s1, s2, e1, e2, i2⟩ := CQ_lobby (sc := sc) (d := d) (x1 := a1) (x2 := a2) (x3 := a3) (x4 := a4) (x5 := a5) (x6 := a6) (x7 := a7) SIM1_gd.1 h
  refine ⟨s2, i2, ?_⟩
  simp only [uL_law_1085, qL_law_1085, jL_law_1085_1621, jL_law_1172_1621, g1, g2, g3, g4, g5, g6, g7, bd2, c0_v hK, c64_v hK, cond_true, e1, e2, xci_eq]
theorem LS_bargain (h : INVP SIM1 K s) (g1 : ∀ w, xdi sc w (x + 1) (.inr (.inr (.inr 2))) = some a1) (g2 : ∀ w, xdi sc w (x + 2) (.inr (.inr (.inr 2))) = some a2) (g3 : ∀ w, xdi sc w (x + 3) (.inr (.inr (.inr 2))) = some a3) : ∃ s2, INVP SIM1 K s2 ∧ fW sc 8 4 false 4 (xN sc (d + 11)) b kL_law_1172 1172 [some (.inr (.inr (.inr 2))), some (.inr (.inr (.inl (some 0)))), some (.inr (.inr (.inl (some 64)))), some (.inl x)] [] (wl K s) = fW sc 8 4 false 4 (xN sc (d + 11)) b kL_law_1621 1621 [some (.inr (.inr (.inr 2))), some (.inr (.inr (.inl (some 0)))), some (.inr (.inr (.inl (some 64)))), some (.inl x)] [] (wl K s2) := by
  have hK := INVP_SH h
  obtain ⟨v1, v2, s1, s2, e1, e2, i2⟩ := CQ_bargain (sc := sc) (d := d) (x1 := a1) (x2 := a2) (x3 := a3) SIM1_gd.1 h
  refine ⟨s2, i2, ?_⟩
  simp only [uL_law_1172, qL_law_1172, jL_law_1172_1621, jL_law_1215_1621, g1, g2, g3, bd2, c0_v hK, c64_v hK, cond_true, e1, e2, xci_eq]
theorem LS_was (h : INVP SIM1 K s) (g1 : ∀ w, xdi sc w (x + 1) (.inr (.inr (.inr 2))) = some a1) (g2 : ∀ w, xdi sc w (x + 2) (.inr (.inr (.inr 2))) = some a2) (g3 : ∀ w, xdi sc w (x + 3) (.inr (.inr (.inr 2))) = some a3) : ∃ s2, INVP SIM1 K s2 ∧ fW sc 8 4 false 4 (xN sc (d + 11)) b kL_law_1215 1215 [some (.inr (.inr (.inr 2))), some (.inr (.inr (.inl (some 0)))), some (.inr (.inr (.inl (some 64)))), some (.inl x)] [] (wl K s) = fW sc 8 4 false 4 (xN sc (d + 11)) b kL_law_1621 1621 [some (.inr (.inr (.inr 2))), some (.inr (.inr (.inl (some 0)))), some (.inr (.inr (.inl (some 64)))), some (.inl x)] [] (wl K s2) := by
  have hK := INVP_SH h
  obtain ⟨v1, v2, s1, s2, e1, e2, i2⟩ := CQ_was (sc := sc) (d := d) (x1 := a1) (x2 := a2) (x3 := a3) SIM1_gd.1 h
  refine ⟨s2, i2, ?_⟩
  simp only [uL_law_1215, qL_law_1215, jL_law_1215_1621, jL_law_1258_1621, g1, g2, g3, bd2, c0_v hK, c64_v hK, cond_true, e1, e2, xci_eq]
theorem LS_nature (h : INVP SIM1 K s) (g1 : ∀ w, xdi sc w (x + 1) (.inr (.inr (.inr 2))) = some a1) (g2 : ∀ w, xdi sc w (x + 2) (.inr (.inr (.inr 2))) = some a2) (g3 : ∀ w, xdi sc w (x + 3) (.inr (.inr (.inr 2))) = some a3) : ∃ s2, INVP SIM1 K s2 ∧ fW sc 8 4 false 4 (xN sc (d + 11)) b kL_law_1258 1258 [some (.inr (.inr (.inr 2))), some (.inr (.inr (.inl (some 0)))), some (.inr (.inr (.inl (some 64)))), some (.inl x)] [] (wl K s) = fW sc 8 4 false 4 (xN sc (d + 11)) b kL_law_1621 1621 [some (.inr (.inr (.inr 2))), some (.inr (.inr (.inl (some 0)))), some (.inr (.inr (.inl (some 64)))), some (.inl x)] [] (wl K s2) := by
  have hK := INVP_SH h
  obtain ⟨v1, v2, s1, s2, e1, e2, i2⟩ := CQ_nature (sc := sc) (d := d) (x1 := a1) (x2 := a2) (x3 := a3) SIM1_gd.1 h
  refine ⟨s2, i2, ?_⟩
  simp only [uL_law_1258, qL_law_1258, jL_law_1258_1621, jL_law_1301_1621, g1, g2, g3, bd2, c0_v hK, c64_v hK, cond_true, e1, e2, xci_eq]
theorem LS_seats (h : INVP SIM1 K s) (g1 : ∀ w, xdi sc w (x + 1) (.inr (.inr (.inr 2))) = some a1) (g2 : ∀ w, xdi sc w (x + 2) (.inr (.inr (.inr 2))) = some a2) (g3 : ∀ w, xdi sc w (x + 3) (.inr (.inr (.inr 2))) = some a3) : ∃ s2, INVP SIM1 K s2 ∧ fW sc 8 4 false 4 (xN sc (d + 11)) b kL_law_1301 1301 [some (.inr (.inr (.inr 2))), some (.inr (.inr (.inl (some 0)))), some (.inr (.inr (.inl (some 64)))), some (.inl x)] [] (wl K s) = fW sc 8 4 false 4 (xN sc (d + 11)) b kL_law_1621 1621 [some (.inr (.inr (.inr 2))), some (.inr (.inr (.inl (some 0)))), some (.inr (.inr (.inl (some 64)))), some (.inl x)] [] (wl K s2) := by
  have hK := INVP_SH h
  obtain ⟨v1, v2, s1, s2, e1, e2, i2⟩ := CQ_seats (sc := sc) (d := d) (x1 := a1) (x2 := a2) (x3 := a3) SIM1_gd.1 h
  refine ⟨s2, i2, ?_⟩
  simp only [uL_law_1301, qL_law_1301, jL_law_1301_1621, jL_law_1344_1621, g1, g2, g3, bd2, c0_v hK, c64_v hK, cond_true, e1, e2, xci_eq]
theorem LS_reshuffle (h : INVP SIM1 K s) (g1 : ∀ w, xdi sc w (x + 1) (.inr (.inr (.inr 2))) = some a1) (g2 : ∀ w, xdi sc w (x + 2) (.inr (.inr (.inr 2))) = some a2) : ∃ s2, INVP SIM1 K s2 ∧ fW sc 8 4 false 4 (xN sc (d + 11)) b kL_law_1344 1344 [some (.inr (.inr (.inr 2))), some (.inr (.inr (.inl (some 0)))), some (.inr (.inr (.inl (some 64)))), some (.inl x)] [] (wl K s) = fW sc 8 4 false 4 (xN sc (d + 11)) b kL_law_1621 1621 [some (.inr (.inr (.inr 2))), some (.inr (.inr (.inl (some 0)))), some (.inr (.inr (.inl (some 64)))), some (.inl x)] [] (wl K s2) := by
  have hK := INVP_SH h
  by_cases z : a2 = 0
  · skip
    obtain ⟨v1, v2, s1, s2, e1, e2, i2⟩ := CQ_reshuffle (sc := sc) (d := d) (x1 := a1) (x2 := 0) SIM1_gd.1 h
    refine ⟨s2, i2, ?_⟩
    simp only [uL_law_1344, uL_law_1358, uL_law_1362, uL_law_1363, uL_law_1381, uL_law_1385, uL_law_1386, qL_law_1344, qL_law_1358, qL_law_1362, qL_law_1363, qL_law_1381, qL_law_1385, qL_law_1386, jL_law_1344_1621, jL_law_1358_1362, jL_law_1362_1363, jL_law_1381_1385, jL_law_1385_1386, jL_law_1393_1621, g1, g2, bd2, c0_v hK, c64_v hK, cond_true, e1, e2, xci_eq, if_pos z]
  · skip
    obtain ⟨v1, v2, s1, s2, e1, e2, i2⟩ := CQ_reshuffle (sc := sc) (d := d) (x1 := a1) (x2 := 1) SIM1_gd.1 h
    refine ⟨s2, i2, ?_⟩
    simp only [uL_law_1344, uL_law_1358, uL_law_1362, uL_law_1363, uL_law_1381, uL_law_1385, uL_law_1386, qL_law_1344, qL_law_1358, qL_law_1362, qL_law_1363, qL_law_1381, qL_law_1385, qL_law_1386, jL_law_1344_1621, jL_law_1358_1362, jL_law_1362_1363, jL_law_1381_1385, jL_law_1385_1386, jL_law_1393_1621, g1, g2, bd2, c0_v hK, c64_v hK, cond_true, e1, e2, xci_eq, if_neg z]
theorem LS_leak (h : INVP SIM1 K s) (g1 : ∀ w, xdi sc w (x + 1) (.inr (.inr (.inr 2))) = some a1) (g2 : ∀ w, xdi sc w (x + 2) (.inr (.inr (.inr 2))) = some a2) (g3 : ∀ w, xdi sc w (x + 3) (.inr (.inr (.inr 2))) = some a3) : ∃ s2, INVP SIM1 K s2 ∧ fW sc 8 4 false 4 (xN sc (d + 11)) b kL_law_1393 1393 [some (.inr (.inr (.inr 2))), some (.inr (.inr (.inl (some 0)))), some (.inr (.inr (.inl (some 64)))), some (.inl x)] [] (wl K s) = fW sc 8 4 false 4 (xN sc (d + 11)) b kL_law_1621 1621 [some (.inr (.inr (.inr 2))), some (.inr (.inr (.inl (some 0)))), some (.inr (.inr (.inl (some 64)))), some (.inl x)] [] (wl K s2) := by
  have hK := INVP_SH h
  obtain ⟨v1, v2, s1, s2, e1, e2, i2⟩ := CQ_leak (sc := sc) (d := d) (x1 := a1) (x2 := a2) (x3 := a3) SIM1_gd.1 h
  refine ⟨s2, i2, ?_⟩
  simp only [uL_law_1393, qL_law_1393, jL_law_1393_1621, jL_law_1436_1621, g1, g2, g3, bd2, c0_v hK, c64_v hK, cond_true, e1, e2, xci_eq]
theorem LS_fits (h : INVP SIM1 K s) (g1 : ∀ w, xdi sc w (x + 1) (.inr (.inr (.inr 2))) = some a1) (g2 : ∀ w, xdi sc w (x + 2) (.inr (.inr (.inr 2))) = some a2) (g3 : ∀ w, xdi sc w (x + 3) (.inr (.inr (.inr 2))) = some a3) (g4 : ∀ w, xdi sc w (x + 4) (.inr (.inr (.inr 2))) = some a4) (g5 : ∀ w, xdi sc w (x + 5) (.inr (.inr (.inr 2))) = some a5) : ∃ s2, INVP SIM1 K s2 ∧ fW sc 8 4 false 4 (xN sc (d + 11)) b kL_law_1436 1436 [some (.inr (.inr (.inr 2))), some (.inr (.inr (.inl (some 0)))), some (.inr (.inr (.inl (some 64)))), some (.inl x)] [] (wl K s) = fW sc 8 4 false 4 (xN sc (d + 11)) b kL_law_1621 1621 [some (.inr (.inr (.inr 2))), some (.inr (.inr (.inl (some 0)))), some (.inr (.inr (.inl (some 64)))), some (.inl x)] [] (wl K s2) := by
  have hK := INVP_SH h
  obtain ⟨v1, v2, s1, s2, e1, e2, i2⟩ := CQ_fits (sc := sc) (d := d) (x1 := a1) (x2 := a2) (x3 := a3) (x4 := a4) (x5 := a5) SIM1_gd.1 h
  refine ⟨s2, i2, ?_⟩
  simp only [uL_law_1436, qL_law_1436, jL_law_1436_1621, jL_law_1499_1621, g1, g2, g3, g4, g5, bd2, c0_v hK, c64_v hK, cond_true, e1, e2, xci_eq]
theorem LS_drawn (h : INVP SIM1 K s) (g1 : ∀ w, xdi sc w (x + 1) (.inr (.inr (.inr 2))) = some a1) (g2 : ∀ w, xdi sc w (x + 2) (.inr (.inr (.inr 2))) = some a2) (g3 : ∀ w, xdi sc w (x + 3) (.inr (.inr (.inr 2))) = some a3) (g4 : ∀ w, xdi sc w (x + 4) (.inr (.inr (.inr 2))) = some a4) : ∃ s2, INVP SIM1 K s2 ∧ fW sc 8 4 false 4 (xN sc (d + 11)) b kL_law_1499 1499 [some (.inr (.inr (.inr 2))), some (.inr (.inr (.inl (some 0)))), some (.inr (.inr (.inl (some 64)))), some (.inl x)] [] (wl K s) = fW sc 8 4 false 4 (xN sc (d + 11)) b kL_law_1621 1621 [some (.inr (.inr (.inr 2))), some (.inr (.inr (.inl (some 0)))), some (.inr (.inr (.inl (some 64)))), some (.inl x)] [] (wl K s2) := by
  have hK := INVP_SH h
  obtain ⟨v1, v2, s1, s2, e1, e2, i2⟩ := CQ_drawn (sc := sc) (d := d) (x1 := a1) (x2 := a2) (x3 := a3) (x4 := a4) SIM1_gd.1 h
  refine ⟨s2, i2, ?_⟩
  simp only [uL_law_1499, qL_law_1499, jL_law_1499_1621, jL_law_1552_1621, g1, g2, g3, g4, bd2, c0_v hK, c64_v hK, cond_true, e1, e2, xci_eq]
theorem LS_count (h : INVP SIM1 K s) (g1 : ∀ w, xdi sc w (x + 1) (.inr (.inr (.inr 2))) = some a1) : ∃ s2, INVP SIM1 K s2 ∧ fW sc 8 4 false 4 (xN sc (d + 11)) b kL_law_1552 1552 [some (.inr (.inr (.inr 2))), some (.inr (.inr (.inl (some 0)))), some (.inr (.inr (.inl (some 64)))), some (.inl x)] [] (wl K s) = fW sc 8 4 false 4 (xN sc (d + 11)) b kL_law_1621 1621 [some (.inr (.inr (.inr 2))), some (.inr (.inr (.inl (some 0)))), some (.inr (.inr (.inl (some 64)))), some (.inl x)] [] (wl K s2) := by
  have hK := INVP_SH h
  obtain ⟨v1, v2, e1, e2, i2⟩ := CQ_count (sc := sc) (d := d) (x1 := a1) SIM1_gd.1 h
  refine ⟨s, i2, ?_⟩
  simp only [uL_law_1552, qL_law_1552, jL_law_1552_1621, jL_law_1575_1621, g1, bd2, c0_v hK, c64_v hK, cond_true, e1, e2, xci_eq]
theorem LS_image (h : INVP SIM1 K s) (g1 : ∀ w, xdi sc w (x + 1) (.inr (.inr (.inr 2))) = some a1) : ∃ K2 s2, INVP SIM1 K2 s2 ∧ fW sc 8 4 false 4 (xN sc (d + 11)) b kL_law_1575 1575 [some (.inr (.inr (.inr 2))), some (.inr (.inr (.inl (some 0)))), some (.inr (.inr (.inl (some 64)))), some (.inl x)] [] (wl K s) = fW sc 8 4 false 4 (xN sc (d + 11)) b kL_law_1621 1621 [some (.inr (.inr (.inr 2))), some (.inr (.inr (.inl (some 0)))), some (.inr (.inr (.inl (some 64)))), some (.inl x)] [] (wl K2 s2) := by
  have hK := INVP_SH h
  obtain ⟨v, K2, s1, s2, e1, hK2, e2, i2⟩ := CE_image (sc := sc) (d := d) (x1 := a1) SIM1_gd.1 h
  refine ⟨K2, s2, i2, ?_⟩
  simp only [uL_law_1575, qL_law_1575, jL_law_1575_1621, jL_law_1598_1621, g1, bd2, c0_v hK, c64_v hK2, cond_true, e1, e2, xci_eq]
theorem LS_again (h : INVP SIM1 K s) (g1 : ∀ w, xdi sc w (x + 1) (.inr (.inr (.inr 2))) = some a1) : ∃ s2, INVP SIM1 K s2 ∧ fW sc 8 4 false 4 (xN sc (d + 11)) b kL_law_1598 1598 [some (.inr (.inr (.inr 2))), some (.inr (.inr (.inl (some 0)))), some (.inr (.inr (.inl (some 64)))), some (.inl x)] [] (wl K s) = fW sc 8 4 false 4 (xN sc (d + 11)) b kL_law_1621 1621 [some (.inr (.inr (.inr 2))), some (.inr (.inr (.inl (some 0)))), some (.inr (.inr (.inl (some 64)))), some (.inl x)] [] (wl K s2) := by
  have hK := INVP_SH h
  obtain ⟨v, s1, s2, e1, e2, i2⟩ := CE_again (sc := sc) (d := d) (x1 := a1) SIM1_gd.1 h
  refine ⟨s2, i2, ?_⟩
  simp only [uL_law_1598, qL_law_1598, jL_law_1598_1621, g1, bd2, c0_v hK, c64_v hK, cond_true, e1, e2, xci_eq]
end XRQ
