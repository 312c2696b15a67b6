section XSD
variable {sc : Nat × (Nat → Int32)} {d : Nat} {K : List KD} {P : SG → Nat → Nat → Prop} {s : SG}
/-! the law: what every query leaves -/
theorem CQ_republic {x1 x2 : Int32} (hP : wLoc P) (h : INVP P K s) : ∃ v1 v2 s1 s2, xN sc (d + 11) 84 [.inr (.inr (.inl (some 0))), .inl x1, .inl x2] (wl K s) = some (some (.inl v1), wl K s1) ∧ xN sc (d + 11) 193 [.inr (.inr (.inl (some 64))), .inl x1, .inl x2] (wl K s1) = some (some (.inl v2), wl K s2) ∧ INVP P K s2 := by
  have hK := INVP_SH h
  obtain ⟨v1, s1, e1, fr⟩ := LC_republic (sc := sc) (d := d) (x := x1) (y := x2) hK (TB_TV (INVP_TB h))
  have r1 : RI s1 := RI_65 (fr 65 (by omega)) (INVP_RI h)
  have q2 := r_republic (sc := sc) (d := d + 6) (s := s1) (x1 := x1) (x2 := x2) hK
  obtain ⟨p, e2, q⟩ : ok (Rrepublic s1 x1 x2) (fun p => QI s1 p.2) := republic_ok r1
  rw [e2] at q2
  exact ⟨v1, p.1, s1, p.2, e1, q2, INVP_q hP h fr q⟩
theorem CQ_minister {x1 x2 x3 : Int32} (hP : wLoc P) (h : INVP P K s) : ∃ v1 v2 s1 s2, xN sc (d + 11) 85 [.inr (.inr (.inl (some 0))), .inl x1, .inl x2, .inl x3] (wl K s) = some (some (.inl v1), wl K s1) ∧ xN sc (d + 11) 194 [.inr (.inr (.inl (some 64))), .inl x1, .inl x2, .inl x3] (wl K s1) = some (some (.inl v2), wl K s2) ∧ INVP P K s2 := by
  have hK := INVP_SH h
  obtain ⟨v1, s1, e1, fr⟩ := LC_minister (sc := sc) (d := d) (x := x1) (y := x2) (z := x3) hK (TB_TV (INVP_TB h))
  have r1 : RI s1 := RI_65 (fr 65 (by omega)) (INVP_RI h)
  have q2 := r_minister (sc := sc) (d := d + 6) (s := s1) (x1 := x1) (x2 := x2) (x3 := x3) hK
  obtain ⟨p, e2, q⟩ : ok (Rminister s1 x1 x2 x3) (fun p => QI s1 p.2) := minister_ok r1
  rw [e2] at q2
  exact ⟨v1, p.1, s1, p.2, e1, q2, INVP_q hP h fr q⟩
theorem CQ_order {x1 x2 x3 : Int32} (hP : wLoc P) (h : INVP P K s) : ∃ v1 v2 s1 s2, xN sc (d + 11) 86 [.inr (.inr (.inl (some 0))), .inl x1, .inl x2, .inl x3] (wl K s) = some (some (.inl v1), wl K s1) ∧ xN sc (d + 11) 211 [.inr (.inr (.inl (some 64))), .inl x1, .inl x2, .inl x3] (wl K s1) = some (some (.inl v2), wl K s2) ∧ INVP P K s2 := by
  have hK := INVP_SH h
  obtain ⟨v1, s1, e1, fr⟩ := LC_order (sc := sc) (d := d) (x := x1) (k := x2) (v := x3) hK (TB_TV (INVP_TB h))
  have r1 : RI s1 := RI_65 (fr 65 (by omega)) (INVP_RI h)
  have q2 := r_order (sc := sc) (d := d + 7) (s := s1) (x1 := x1) (x2 := x2) (x3 := x3) hK
  obtain ⟨p, e2, q⟩ : ok (Rorder s1 x1 x2 x3) (fun p => QI s1 p.2) := order_ok r1
  rw [e2] at q2
  exact ⟨v1, p.1, s1, p.2, e1, q2, INVP_q hP h fr q⟩
theorem CQ_deed {x1 x2 x3 : Int32} (hP : wLoc P) (h : INVP P K s) : ∃ v1 v2 s1 s2, xN sc (d + 11) 87 [.inr (.inr (.inl (some 0))), .inl x1, .inl x2, .inl x3] (wl K s) = some (some (.inl v1), wl K s1) ∧ xN sc (d + 11) 224 [.inr (.inr (.inl (some 64))), .inl x1, .inl x2, .inl x3] (wl K s1) = some (some (.inl v2), wl K s2) ∧ INVP P K s2 := by
  have hK := INVP_SH h
  obtain ⟨v1, s1, e1, fr⟩ := LC_deed (sc := sc) (d := d) (x := x1) (k := x2) (v := x3) hK (TB_TV (INVP_TB h))
  have r1 : RI s1 := RI_65 (fr 65 (by omega)) (INVP_RI h)
  have q2 := r_deed (sc := sc) (d := d + 8) (s := s1) (x1 := x1) (x2 := x2) (x3 := x3) hK
  obtain ⟨p, e2, q⟩ : ok (Rdeed s1 x1 x2 x3) (fun p => QI s1 p.2) := deed_ok r1
  rw [e2] at q2
  exact ⟨v1, p.1, s1, p.2, e1, q2, INVP_q hP h fr q⟩
theorem CQ_leak {x1 x2 x3 : Int32} (hP : wLoc P) (h : INVP P K s) : ∃ v1 v2 s1 s2, xN sc (d + 11) 88 [.inr (.inr (.inl (some 0))), .inl x1, .inl x2, .inl x3] (wl K s) = some (some (.inl v1), wl K s1) ∧ xN sc (d + 11) 271 [.inr (.inr (.inl (some 64))), .inl x1, .inl x2, .inl x3] (wl K s1) = some (some (.inl v2), wl K s2) ∧ INVP P K s2 := by
  have hK := INVP_SH h
  obtain ⟨v1, s1, e1, fr⟩ := LC_leak (sc := sc) (d := d) (x := x1) (k := x2) (v := x3) hK (TB_TV (INVP_TB h))
  have r1 : RI s1 := RI_65 (fr 65 (by omega)) (INVP_RI h)
  have q2 := r_leak (sc := sc) (d := d + 8) (s := s1) (x1 := x1) (x2 := x2) (x3 := x3) hK
  obtain ⟨p, e2, q⟩ : ok (Rleak s1 x1 x2 x3) (fun p => QI s1 p.2) := leak_ok r1
  rw [e2] at q2
  exact ⟨v1, p.1, s1, p.2, e1, q2, INVP_q hP h fr q⟩
theorem CQ_was {x1 x2 x3 : Int32} (hP : wLoc P) (h : INVP P K s) : ∃ v1 v2 s1 s2, xN sc (d + 11) 89 [.inr (.inr (.inl (some 0))), .inl x1, .inl x2, .inl x3] (wl K s) = some (some (.inl v1), wl K s1) ∧ xN sc (d + 11) 256 [.inr (.inr (.inl (some 64))), .inl x1, .inl x2, .inl x3] (wl K s1) = some (some (.inl v2), wl K s2) ∧ INVP P K s2 := by
  have hK := INVP_SH h
  obtain ⟨v1, s1, e1, fr⟩ := LC_was (sc := sc) (d := d) (x := x1) (k := x2) (v := x3) hK (TB_TV (INVP_TB h))
  have r1 : RI s1 := RI_65 (fr 65 (by omega)) (INVP_RI h)
  have q2 := r_was (sc := sc) (d := d + 7) (s := s1) (x1 := x1) (x2 := x2) (x3 := x3) hK
  obtain ⟨p, e2, q⟩ : ok (Rwas s1 x1 x2 x3) (fun p => QI s1 p.2) := was_ok r1
  rw [e2] at q2
  exact ⟨v1, p.1, s1, p.2, e1, q2, INVP_q hP h fr q⟩
theorem CQ_off {x1 x2 x3 x4 x5 x6 : Int32} (hP : wLoc P) (h : INVP P K s) : ∃ v1 v2 s1 s2, xN sc (d + 11) 92 [.inr (.inr (.inl (some 0))), .inl x1, .inl x2, .inl x3, .inl x4, .inl x5, .inl x6] (wl K s) = some (some (.inl v1), wl K s1) ∧ xN sc (d + 11) 207 [.inr (.inr (.inl (some 64))), .inl x1, .inl x2, .inl x3, .inl x4, .inl x5, .inl x6] (wl K s1) = some (some (.inl v2), wl K s2) ∧ INVP P K s2 := by
  have hK := INVP_SH h
  obtain ⟨v1, s1, e1, fr⟩ := LC_off (sc := sc) (d := d) (x := x1) (y := x2) (se := x3) (u := x4) (v := x5) (z := x6) hK (TB_TV (INVP_TB h))
  have r1 : RI s1 := RI_65 (fr 65 (by omega)) (INVP_RI h)
  have q2 := r_off (sc := sc) (d := d + 5) (s := s1) (x1 := x1) (x2 := x2) (x3 := x3) (x4 := x4) (x5 := x5) (x6 := x6) hK
  obtain ⟨p, e2, q⟩ : ok (Roff s1 x1 x2 x3 x4 x5 x6) (fun p => QI s1 p.2) := off_ok r1
  rw [e2] at q2
  exact ⟨v1, p.1, s1, p.2, e1, q2, INVP_q hP h fr q⟩
theorem CQ_vote {x1 x2 x3 x4 x5 x6 x7 : Int32} (hP : wLoc P) (h : INVP P K s) : ∃ v1 v2 s1 s2, xN sc (d + 11) 93 [.inr (.inr (.inl (some 0))), .inl x1, .inl x2, .inl x3, .inl x4, .inl x5, .inl x6, .inl x7] (wl K s) = some (some (.inl v1), wl K s1) ∧ xN sc (d + 11) 208 [.inr (.inr (.inl (some 64))), .inl x1, .inl x2, .inl x3, .inl x4, .inl x5, .inl x6, .inl x7] (wl K s1) = some (some (.inl v2), wl K s2) ∧ INVP P K s2 := by
  have hK := INVP_SH h
  obtain ⟨v1, s1, e1, fr⟩ := LC_vote (sc := sc) (d := d) (x := x1) (y := x2) (se := x3) (u := x4) (v := x5) (z := x6) (g := x7) hK (TB_TV (INVP_TB h))
  have r1 : RI s1 := RI_65 (fr 65 (by omega)) (INVP_RI h)
  have q2 := r_vote (sc := sc) (d := d + 4) (s := s1) (x1 := x1) (x2 := x2) (x3 := x3) (x4 := x4) (x5 := x5) (x6 := x6) (x7 := x7) hK
  obtain ⟨p, e2, q⟩ : ok (Rvote s1 x1 x2 x3 x4 x5 x6 x7) (fun p => QI s1 p.2) := vote_ok r1
  rw [e2] at q2
  exact ⟨v1, p.1, s1, p.2, e1, q2, INVP_q hP h fr q⟩
theorem CQ_broken {x1 x2 x3 x4 x5 x6 : Int32} (hP : wLoc P) (h : INVP P K s) : ∃ v1 v2 s1 s2, xN sc (d + 11) 94 [.inr (.inr (.inl (some 0))), .inl x1, .inl x2, .inl x3, .inl x4, .inl x5, .inl x6] (wl K s) = some (some (.inl v1), wl K s1) ∧ xN sc (d + 11) 215 [.inr (.inr (.inl (some 64))), .inl x1, .inl x2, .inl x3, .inl x4, .inl x5, .inl x6] (wl K s1) = some (some (.inl v2), wl K s2) ∧ INVP P K s2 := by
  have hK := INVP_SH h
  obtain ⟨v1, s1, e1, fr⟩ := LC_broken (sc := sc) (d := d) (x := x1) (se := x2) (u := x3) (v := x4) (z := x5) (g := x6) hK (TB_TV (INVP_TB h))
  have r1 : RI s1 := RI_65 (fr 65 (by omega)) (INVP_RI h)
  have q2 := r_broken (sc := sc) (d := d + 7) (s := s1) (x1 := x1) (x2 := x2) (x3 := x3) (x4 := x4) (x5 := x5) (x6 := x6) hK
  obtain ⟨p, e2, q⟩ : ok (Rbroken s1 x1 x2 x3 x4 x5 x6) (fun p => QI s1 p.2) := broken_ok r1
  rw [e2] at q2
  exact ⟨v1, p.1, s1, p.2, e1, q2, INVP_q hP h fr q⟩
theorem CQ_stop {x1 x2 x3 : Int32} (hP : wLoc P) (h : INVP P K s) : ∃ v1 v2 s1 s2, xN sc (d + 11) 97 [.inr (.inr (.inl (some 0))), .inl x1, .inl x2, .inl x3] (wl K s) = some (some (.inl v1), wl K s1) ∧ xN sc (d + 11) 230 [.inr (.inr (.inl (some 64))), .inl x1, .inl x2, .inl x3] (wl K s1) = some (some (.inl v2), wl K s2) ∧ INVP P K s2 := by
  have hK := INVP_SH h
  obtain ⟨v1, s1, e1, fr⟩ := LC_stop (sc := sc) (d := d) (x := x1) (y := x2) (z := x3) hK (TB_TV (INVP_TB h))
  have r1 : RI s1 := RI_65 (fr 65 (by omega)) (INVP_RI h)
  have q2 := r_stop (sc := sc) (d := d + 1) (s := s1) (x1 := x1) (x2 := x2) (x3 := x3) hK
  obtain ⟨p, e2, q⟩ : ok (Rstop s1 x1 x2 x3) (fun p => QI s1 p.2) := stop_ok r1
  rw [e2] at q2
  exact ⟨v1, p.1, s1, p.2, e1, q2, INVP_q hP h fr q⟩
theorem CQ_state {x1 x2 x3 x4 x5 : Int32} (hP : wLoc P) (h : INVP P K s) : ∃ v1 v2 s1 s2, xN sc (d + 11) 98 [.inr (.inr (.inl (some 0))), .inl x1, .inl x2, .inl x3, .inl x4, .inl x5] (wl K s) = some (some (.inl v1), wl K s1) ∧ xN sc (d + 11) 231 [.inr (.inr (.inl (some 64))), .inl x1, .inl x2, .inl x3, .inl x4, .inl x5] (wl K s1) = some (some (.inl v2), wl K s2) ∧ INVP P K s2 := by
  have hK := INVP_SH h
  obtain ⟨v1, s1, e1, fr⟩ := LC_state (sc := sc) (d := d) (x := x1) (y := x2) (z := x3) (n := x4) (v := x5) hK (TB_TV (INVP_TB h))
  have r1 : RI s1 := RI_65 (fr 65 (by omega)) (INVP_RI h)
  have q2 := r_state (sc := sc) (d := d + 1) (s := s1) (x1 := x1) (x2 := x2) (x3 := x3) (x4 := x4) (x5 := x5) hK
  obtain ⟨p, e2, q⟩ : ok (Rstate s1 x1 x2 x3 x4 x5) (fun p => QI s1 p.2) := state_ok r1
  rw [e2] at q2
  exact ⟨v1, p.1, s1, p.2, e1, q2, INVP_q hP h fr q⟩
theorem CQ_drawn {x1 x2 x3 x4 : Int32} (hP : wLoc P) (h : INVP P K s) : ∃ v1 v2 s1 s2, xN sc (d + 11) 100 [.inr (.inr (.inl (some 0))), .inl x1, .inl x2, .inl x3, .inl x4] (wl K s) = some (some (.inl v1), wl K s1) ∧ xN sc (d + 11) 279 [.inr (.inr (.inl (some 64))), .inl x1, .inl x2, .inl x3, .inl x4] (wl K s1) = some (some (.inl v2), wl K s2) ∧ INVP P K s2 := by
  have hK := INVP_SH h
  obtain ⟨v1, s1, e1, fr⟩ := LC_drawn (sc := sc) (d := d) (x := x1) (y := x2) (n := x3) (v := x4) hK (TB_TV (INVP_TB h))
  have r1 : RI s1 := RI_65 (fr 65 (by omega)) (INVP_RI h)
  have q2 := r_drawn (sc := sc) (d := d + 3) (s := s1) (x1 := x1) (x2 := x2) (x3 := x3) (x4 := x4) hK
  obtain ⟨p, e2, q⟩ : ok (Rdrawn s1 x1 x2 x3 x4) (fun p => QI s1 p.2) := drawn_ok r1
  rw [e2] at q2
  exact ⟨v1, p.1, s1, p.2, e1, q2, INVP_q hP h fr q⟩
theorem CQ_agreed {x1 x2 x3 x4 x5 : Int32} (hP : wLoc P) (h : INVP P K s) : ∃ v1 v2 s1 s2, xN sc (d + 11) 101 [.inr (.inr (.inl (some 0))), .inl x1, .inl x2, .inl x3, .inl x4, .inl x5] (wl K s) = some (some (.inl v1), wl K s1) ∧ xN sc (d + 11) 234 [.inr (.inr (.inl (some 64))), .inl x1, .inl x2, .inl x3, .inl x4, .inl x5] (wl K s1) = some (some (.inl v2), wl K s2) ∧ INVP P K s2 := by
  have hK := INVP_SH h
  obtain ⟨v1, s1, e1, fr⟩ := LC_agreed (sc := sc) (d := d) (x := x1) (y := x2) (who := x3) (se := x4) (v := x5) hK (TB_TV (INVP_TB h))
  have r1 : RI s1 := RI_65 (fr 65 (by omega)) (INVP_RI h)
  have q2 := r_agreed (sc := sc) (d := d + 3) (s := s1) (x1 := x1) (x2 := x2) (x3 := x3) (x4 := x4) (x5 := x5) hK
  obtain ⟨p, e2, q⟩ : ok (Ragreed s1 x1 x2 x3 x4 x5) (fun p => QI s1 p.2) := agreed_ok r1
  rw [e2] at q2
  exact ⟨v1, p.1, s1, p.2, e1, q2, INVP_q hP h fr q⟩
theorem CQ_power {x1 x2 x3 : Int32} (hP : wLoc P) (h : INVP P K s) : ∃ v1 v2 s1 s2, xN sc (d + 11) 106 [.inr (.inr (.inl (some 0))), .inl x1, .inl x2, .inl x3] (wl K s) = some (some (.inl v1), wl K s1) ∧ xN sc (d + 11) 241 [.inr (.inr (.inl (some 64))), .inl x1, .inl x2, .inl x3] (wl K s1) = some (some (.inl v2), wl K s2) ∧ INVP P K s2 := by
  have hK := INVP_SH h
  obtain ⟨v1, s1, e1, fr⟩ := LC_power (sc := sc) (d := d) (x := x1) (y := x2) (g := x3) hK (TB_TV (INVP_TB h))
  have r1 : RI s1 := RI_65 (fr 65 (by omega)) (INVP_RI h)
  have q2 := r_power (sc := sc) (d := d + 6) (s := s1) (x1 := x1) (x2 := x2) (x3 := x3) hK
  obtain ⟨p, e2, q⟩ : ok (Rpower s1 x1 x2 x3) (fun p => QI s1 p.2) := power_ok r1
  rw [e2] at q2
  exact ⟨v1, p.1, s1, p.2, e1, q2, INVP_q hP h fr q⟩
theorem CQ_coalition {x1 x2 : Int32} (hP : wLoc P) (h : INVP P K s) : ∃ v1 v2 s1 s2, xN sc (d + 11) 108 [.inr (.inr (.inl (some 0))), .inl x1, .inl x2] (wl K s) = some (some (.inl v1), wl K s1) ∧ xN sc (d + 11) 244 [.inr (.inr (.inl (some 64))), .inl x1, .inl x2] (wl K s1) = some (some (.inl v2), wl K s2) ∧ INVP P K s2 := by
  have hK := INVP_SH h
  obtain ⟨v1, s1, e1, fr⟩ := LC_coalition (sc := sc) (d := d) (x := x1) (v := x2) hK (TB_TV (INVP_TB h))
  have r1 : RI s1 := RI_65 (fr 65 (by omega)) (INVP_RI h)
  have q2 := r_coalition (sc := sc) (d := d + 5) (s := s1) (x1 := x1) (x2 := x2) hK
  obtain ⟨p, e2, q⟩ : ok (Rcoalition s1 x1 x2) (fun p => QI s1 p.2) := coalition_ok r1
  rw [e2] at q2
  exact ⟨v1, p.1, s1, p.2, e1, q2, INVP_q hP h fr q⟩
theorem CQ_bribe {x1 x2 x3 x4 x5 x6 x7 : Int32} (hP : wLoc P) (h : INVP P K s) : ∃ v1 v2 s1 s2, xN sc (d + 11) 112 [.inr (.inr (.inl (some 0))), .inl x1, .inl x2, .inl x3, .inl x4, .inl x5, .inl x6, .inl x7] (wl K s) = some (some (.inl v1), wl K s1) ∧ xN sc (d + 11) 246 [.inr (.inr (.inl (some 64))), .inl x1, .inl x2, .inl x3, .inl x4, .inl x5, .inl x6, .inl x7] (wl K s1) = some (some (.inl v2), wl K s2) ∧ INVP P K s2 := by
  have hK := INVP_SH h
  obtain ⟨v1, s1, e1, fr⟩ := LC_bribe (sc := sc) (d := d) (x := x1) (who := x2) (se := x3) (u := x4) (v := x5) (z := x6) (g := x7) hK (TB_TV (INVP_TB h))
  have r1 : RI s1 := RI_65 (fr 65 (by omega)) (INVP_RI h)
  have q2 := r_bribe (sc := sc) (d := d + 4) (s := s1) (x1 := x1) (x2 := x2) (x3 := x3) (x4 := x4) (x5 := x5) (x6 := x6) (x7 := x7) hK
  obtain ⟨p, e2, q⟩ : ok (Rbribe s1 x1 x2 x3 x4 x5 x6 x7) (fun p => QI s1 p.2) := bribe_ok r1
  rw [e2] at q2
  exact ⟨v1, p.1, s1, p.2, e1, q2, INVP_q hP h fr q⟩
theorem CQ_lobby {x1 x2 x3 x4 x5 x6 x7 : Int32} (hP : wLoc P) (h : INVP P K s) : ∃ v1 v2 s1 s2, xN sc (d + 11) 114 [.inr (.inr (.inl (some 0))), .inl x1, .inl x2, .inl x3, .inl x4, .inl x5, .inl x6, .inl x7] (wl K s) = some (some (.inl v1), wl K s1) ∧ xN sc (d + 11) 250 [.inr (.inr (.inl (some 64))), .inl x1, .inl x2, .inl x3, .inl x4, .inl x5, .inl x6, .inl x7] (wl K s1) = some (some (.inl v2), wl K s2) ∧ INVP P K s2 := by
  have hK := INVP_SH h
  obtain ⟨v1, s1, e1, fr⟩ := LC_lobby (sc := sc) (d := d) (x := x1) (who := x2) (se := x3) (u := x4) (v := x5) (z := x6) (k := x7) hK (TB_TV (INVP_TB h))
  have r1 : RI s1 := RI_65 (fr 65 (by omega)) (INVP_RI h)
  have q2 := r_lobby (sc := sc) (d := d + 2) (s := s1) (x1 := x1) (x2 := x2) (x3 := x3) (x4 := x4) (x5 := x5) (x6 := x6) (x7 := x7) hK
  obtain ⟨p, e2, q⟩ : ok (Rlobby s1 x1 x2 x3 x4 x5 x6 x7) (fun p => QI s1 p.2) := lobby_ok r1
  rw [e2] at q2
  exact ⟨v1, p.1, s1, p.2, e1, q2, INVP_q hP h fr q⟩
theorem CQ_bargain {x1 x2 x3 : Int32} (hP : wLoc P) (h : INVP P K s) : ∃ v1 v2 s1 s2, xN sc (d + 11) 118 [.inr (.inr (.inl (some 0))), .inl x1, .inl x2, .inl x3] (wl K s) = some (some (.inl v1), wl K s1) ∧ xN sc (d + 11) 251 [.inr (.inr (.inl (some 64))), .inl x1, .inl x2, .inl x3] (wl K s1) = some (some (.inl v2), wl K s2) ∧ INVP P K s2 := by
  have hK := INVP_SH h
  obtain ⟨v1, s1, e1, fr⟩ := LC_bargain (sc := sc) (d := d) (x := x1) (y := x2) (v := x3) hK (TB_TV (INVP_TB h))
  have r1 : RI s1 := RI_65 (fr 65 (by omega)) (INVP_RI h)
  have q2 := r_bargain (sc := sc) (d := d + 6) (s := s1) (x1 := x1) (x2 := x2) (x3 := x3) hK
  obtain ⟨p, e2, q⟩ : ok (Rbargain s1 x1 x2 x3) (fun p => QI s1 p.2) := bargain_ok r1
  rw [e2] at q2
  exact ⟨v1, p.1, s1, p.2, e1, q2, INVP_q hP h fr q⟩
theorem CQ_nature {x1 x2 x3 : Int32} (hP : wLoc P) (h : INVP P K s) : ∃ v1 v2 s1 s2, xN sc (d + 11) 121 [.inr (.inr (.inl (some 0))), .inl x1, .inl x2, .inl x3] (wl K s) = some (some (.inl v1), wl K s1) ∧ xN sc (d + 11) 262 [.inr (.inr (.inl (some 64))), .inl x1, .inl x2, .inl x3] (wl K s1) = some (some (.inl v2), wl K s2) ∧ INVP P K s2 := by
  have hK := INVP_SH h
  obtain ⟨v1, s1, e1, fr⟩ := LC_nature (sc := sc) (d := d) (x := x1) (y := x2) (v := x3) hK (TB_TV (INVP_TB h))
  have r1 : RI s1 := RI_65 (fr 65 (by omega)) (INVP_RI h)
  have q2 := r_nature (sc := sc) (d := d + 6) (s := s1) (x1 := x1) (x2 := x2) (x3 := x3) hK
  obtain ⟨p, e2, q⟩ : ok (Rnature s1 x1 x2 x3) (fun p => QI s1 p.2) := nature_ok r1
  rw [e2] at q2
  exact ⟨v1, p.1, s1, p.2, e1, q2, INVP_q hP h fr q⟩
theorem CQ_seats {x1 x2 x3 : Int32} (hP : wLoc P) (h : INVP P K s) : ∃ v1 v2 s1 s2, xN sc (d + 11) 124 [.inr (.inr (.inl (some 0))), .inl x1, .inl x2, .inl x3] (wl K s) = some (some (.inl v1), wl K s1) ∧ xN sc (d + 11) 267 [.inr (.inr (.inl (some 64))), .inl x1, .inl x2, .inl x3] (wl K s1) = some (some (.inl v2), wl K s2) ∧ INVP P K s2 := by
  have hK := INVP_SH h
  obtain ⟨v1, s1, e1, fr⟩ := LC_seats (sc := sc) (d := d) (x := x1) (y := x2) (v := x3) hK (TB_TV (INVP_TB h))
  have r1 : RI s1 := RI_65 (fr 65 (by omega)) (INVP_RI h)
  have q2 := r_seats (sc := sc) (d := d + 4) (s := s1) (x1 := x1) (x2 := x2) (x3 := x3) hK
  obtain ⟨p, e2, q⟩ : ok (Rseats s1 x1 x2 x3) (fun p => QI s1 p.2) := seats_ok r1
  rw [e2] at q2
  exact ⟨v1, p.1, s1, p.2, e1, q2, INVP_q hP h fr q⟩
theorem CQ_reshuffle {x1 x2 : Int32} (hP : wLoc P) (h : INVP P K s) : ∃ v1 v2 s1 s2, xN sc (d + 11) 129 [.inr (.inr (.inl (some 0))), .inl x1, .inl x2] (wl K s) = some (some (.inl v1), wl K s1) ∧ xN sc (d + 11) 269 [.inr (.inr (.inl (some 64))), .inl x1, .inl x2] (wl K s1) = some (some (.inl v2), wl K s2) ∧ INVP P K s2 := by
  have hK := INVP_SH h
  obtain ⟨v1, s1, e1, fr⟩ := LC_reshuffle (sc := sc) (d := d) (x := x1) (g := x2) hK (TB_TV (INVP_TB h))
  have r1 : RI s1 := RI_65 (fr 65 (by omega)) (INVP_RI h)
  have q2 := r_reshuffle (sc := sc) (d := d + 3) (s := s1) (x1 := x1) (x2 := x2) hK
  obtain ⟨p, e2, q⟩ : ok (Rreshuffle s1 x1 x2) (fun p => QI s1 p.2) := reshuffle_ok r1
  rw [e2] at q2
  exact ⟨v1, p.1, s1, p.2, e1, q2, INVP_q hP h fr q⟩
theorem CQ_fits {x1 x2 x3 x4 x5 : Int32} (hP : wLoc P) (h : INVP P K s) : ∃ v1 v2 s1 s2, xN sc (d + 11) 131 [.inr (.inr (.inl (some 0))), .inl x1, .inl x2, .inl x3, .inl x4, .inl x5] (wl K s) = some (some (.inl v1), wl K s1) ∧ xN sc (d + 11) 276 [.inr (.inr (.inl (some 64))), .inl x1, .inl x2, .inl x3, .inl x4, .inl x5] (wl K s1) = some (some (.inl v2), wl K s2) ∧ INVP P K s2 := by
  have hK := INVP_SH h
  obtain ⟨v1, s1, e1, fr⟩ := LC_fits (sc := sc) (d := d) (x := x1) (y := x2) (who := x3) (se := x4) (v := x5) hK (TB_TV (INVP_TB h))
  have r1 : RI s1 := RI_65 (fr 65 (by omega)) (INVP_RI h)
  have q2 := r_fits (sc := sc) (d := d + 3) (s := s1) (x1 := x1) (x2 := x2) (x3 := x3) (x4 := x4) (x5 := x5) hK
  obtain ⟨p, e2, q⟩ : ok (Rfits s1 x1 x2 x3 x4 x5) (fun p => QI s1 p.2) := fits_ok r1
  rw [e2] at q2
  exact ⟨v1, p.1, s1, p.2, e1, q2, INVP_q hP h fr q⟩
theorem CQ_fault {x1 : Int32} (hP : wLoc P) (h : INVP P K s) : ∃ v1 v2, xN sc (d + 11) 78 [.inr (.inr (.inl (some 0))), .inl x1] (wl K s) = some (some (.inl v1), wl K s) ∧ xN sc (d + 11) 186 [.inr (.inr (.inl (some 64))), .inl x1] (wl K s) = some (some (.inl v2), wl K s) ∧ INVP P K s := by
  have hK := INVP_SH h
  have q2 := r_fault (sc := sc) (d := d + 10) (s := s) (x1 := x1) hK
  obtain ⟨p, e2, _⟩ : ok (Rfault s x1) (fun _ => True) := fault_ok
  rw [e2] at q2
  exact ⟨_, p, c_fault (sc := sc) (d := d + 10) (s := s) (w := x1) hK, q2, h⟩
theorem CQ_count {x1 : Int32} (hP : wLoc P) (h : INVP P K s) : ∃ v1 v2, xN sc (d + 11) 79 [.inr (.inr (.inl (some 0))), .inl x1] (wl K s) = some (some (.inl v1), wl K s) ∧ xN sc (d + 11) 280 [.inr (.inr (.inl (some 64))), .inl x1] (wl K s) = some (some (.inl v2), wl K s) ∧ INVP P K s := by
  have hK := INVP_SH h
  have q2 := r_count (sc := sc) (d := d + 9) (s := s) (x1 := x1) hK
  obtain ⟨p, e2, _⟩ : ok (Rcount s x1) (fun _ => True) := count_ok
  rw [e2] at q2
  exact ⟨_, p, c_count (sc := sc) (d := d + 9) (s := s) (w := x1) hK, q2, h⟩
end XSD
