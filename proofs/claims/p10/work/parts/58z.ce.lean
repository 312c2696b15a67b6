section XSF
variable {sc : Nat × (Nat → Int32)} {d : Nat} {K : List KD} {s : SG}
/-! the law: answers that are the same, all that is told kept the same -/
theorem CE_feed {x1 x2 x3 x4 x5 : Int32} (hP : PGd SIM1) (h : INVP SIM1 K s) : ∃ v s1 s2, xN sc (d + 11) 72 [.inr (.inr (.inl (some 0))), .inl x1, .inl x2, .inl x3, .inl x4, .inl x5] (wl K s) = some (some (.inl v), wl K s1) ∧ xN sc (d + 11) 151 [.inr (.inr (.inl (some 64))), .inl x1, .inl x2, .inl x3, .inl x4, .inl x5] (wl K s1) = some (some (.inl v), wl K s2) ∧ INVP SIM1 K s2 := by
  obtain ⟨p, s2, e1, e2, e3, i⟩ := CQ_feed (sc := sc) (d := d) (x1 := x1) (x2 := x2) (x3 := x3) (x4 := x4) (x5 := x5) hP h
  have e := (FD_sim (INVP_TB h) (INVP_RI h) (INVP_P h) e3).1
  rw [e] at e1
  exact ⟨_, _, s2, e1, e2, i⟩
theorem CE_end {x1 : Int32} (hP : PGd SIM1) (h : INVP SIM1 K s) : ∃ v s1 s2, xN sc (d + 11) 74 [.inr (.inr (.inl (some 0))), .inl x1] (wl K s) = some (some (.inl v), wl K s1) ∧ xN sc (d + 11) 152 [.inr (.inr (.inl (some 64))), .inl x1] (wl K s1) = some (some (.inl v), wl K s2) ∧ INVP SIM1 K s2 := by
  obtain ⟨p, s2, e1, e2, e3, i⟩ := CQ_end (sc := sc) (d := d) (x1 := x1) hP h
  have e := (EN_sim (INVP_P h) e3).1
  rw [e] at e1
  exact ⟨_, _, s2, e1, e2, i⟩
theorem CE_text {x1 x2 : Int32} (hP : PGd SIM1) (h : INVP SIM1 K s) : ∃ v s1 s2, xN sc (d + 11) 75 [.inr (.inr (.inl (some 0))), .inl x1, .inl x2] (wl K s) = some (some (.inl v), wl K s1) ∧ xN sc (d + 11) 185 [.inr (.inr (.inl (some 64))), .inl x1, .inl x2] (wl K s1) = some (some (.inl v), wl K s2) ∧ INVP SIM1 K s2 := by
  obtain ⟨p, s2, e1, e2, e3, i⟩ := CQ_text (sc := sc) (d := d) (x1 := x1) (x2 := x2) hP h
  have e := (TX_sim (INVP_TB h) (INVP_RI h) (INVP_P h) e3).1
  rw [e] at e1
  exact ⟨_, _, s2, e1, e2, i⟩
theorem CE_fault {x1 : Int32} (_hP : wLoc SIM1) (h : INVP SIM1 K s) : ∃ v s1 s2, xN sc (d + 11) 78 [.inr (.inr (.inl (some 0))), .inl x1] (wl K s) = some (some (.inl v), wl K s1) ∧ xN sc (d + 11) 186 [.inr (.inr (.inl (some 64))), .inl x1] (wl K s1) = some (some (.inl v), wl K s2) ∧ INVP SIM1 K s2 := by
  have hK := INVP_SH h
  have hn := SIM_n.1 (INVP_P h)
  have q2 := r_fault (sc := sc) (d := d + 10) (s := s) (x1 := x1) hK
  have e : Rfault s x1 = some (fauI s x1) := by
    unfold Rfault fauI
    by_cases c0 : x1 = 0
    · rw [if_pos c0, if_pos c0, rd_nI (x := 7) (e := 7) rfl (by decide) (by decide), hn.1.2.1]; rfl
    · rw [if_neg c0, if_neg c0]
      by_cases c1 : x1 = 1
      · rw [if_pos c1, if_pos c1, rd_nI (x := 8) (e := 8) rfl (by decide) (by decide), hn.1.2.2]; rfl
      · rw [if_neg c1, if_neg c1]
  rw [e] at q2
  exact ⟨fauI s x1, s, s, c_fault (sc := sc) (d := d + 10) (s := s) (w := x1) hK, q2, h⟩
theorem CE_count {x1 : Int32} (_hP : wLoc SIM1) (h : INVP SIM1 K s) : ∃ v s1 s2, xN sc (d + 11) 79 [.inr (.inr (.inl (some 0))), .inl x1] (wl K s) = some (some (.inl v), wl K s1) ∧ xN sc (d + 11) 280 [.inr (.inr (.inl (some 64))), .inl x1] (wl K s1) = some (some (.inl v), wl K s2) ∧ INVP SIM1 K s2 := by
  have hK := INVP_SH h
  have hn := SIM_n.1 (INVP_P h)
  have q2 := r_count (sc := sc) (d := d + 9) (s := s) (x1 := x1) hK
  have e : Rcount s x1 = some (couI s x1) := by
    unfold Rcount couI
    by_cases c0 : inI x1 0 5 = 0
    · rw [if_pos c0]
      rcases inI5_n.1 c0 with g | g
      · rw [if_pos g]
      · rw [if_pos (Int32.not_lt.mp g)]; split <;> rfl
    · obtain ⟨k, ek, hk⟩ := inI_nI (b := 5) (by decide) c0
      have g1 : ¬ x1 < 0 := fun g => c0 (inI5_n.2 (Or.inl g))
      have g2 : ¬ 6 ≤ x1 := fun g => c0 (inI5_n.2 (Or.inr (Int32.not_lt.mpr g)))
      rw [if_neg c0, if_neg g1, if_neg g2, rd_nI ek (by omega) (by decide), ek, cl_nI (by omega) (by decide), hn.2.2.1 k (by omega)]; rfl
  rw [e] at q2
  exact ⟨couI s x1, s, s, c_count (sc := sc) (d := d + 9) (s := s) (w := x1) hK, q2, h⟩
end XSF
