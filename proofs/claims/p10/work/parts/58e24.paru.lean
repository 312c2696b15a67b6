section XUB
variable {sc : Nat × (Nat → Int32)} {d : Nat} {K : List KD} {r q t a B m : Nat} {w : EW}
/-! bargains on both sides -/
section BG
variable {s v : SG} {o n V P : Nat} {y1 y2 y3 : Int32}
/-- the shares at P, on the class's side at q -/
def SHR (s : SG) (q : Nat) (v : SG) (P : Nat) : Prop := P ≤ 1436 ∧ ∀ m, m < 6 → s (q + 1) (5 * m) = v 65 (P + m)
theorem par_0 {m : Nat} (hm : m < 6) : parI s q (nI m) 0 = s (q + 1) (5 * m) := by
  have ix : nI m * 5 + 0 = nI (5 * m) := by
    show nI m * nI 5 + nI 0 = _
    rw [nI_mulx, nI_add]; congr 1; omega
  unfold parI
  rw [ix, cl_nI (by omega) (by decide)]
theorem bg_all (h : RQ s r v o n V) : Reverybody v = some (allI s r) := by
  unfold Reverybody
  rw [q_ministers (rq_RH h), (rq_n h).1, rq_all h]; rfl
theorem bg_eno {x : Int32} (h : RQ s r v o n V) : RisEnough v x = some (if votT s r x < s r 9 then 0 else 1) := by
  have f9 : s r 9 = ofN v 1 := by rw [rq_of h]; exact h.2.2.2.1 0 (by omega)
  unfold RisEnough
  rw [q_votesOf (rq_RH h) (rq_MZ h), ← rq_vot h]
  show ((Rof v 1).bind fun q2 => if votT s r x < q2 then some 0 else some 1) = _
  rw [q_of (x := 1) (a := 1) (rq_RH h) rfl (by decide), ← f9]
  show (if votT s r x < s r 9 then some 0 else some 1) = _
  split <;> rfl
theorem bg_84 {j : Nat} {y5 y6 : Int32} {Q : Int32 × SG → Prop} (h : RQ s r v o n V) (sh : SHR s q v P) : ∀ (i m z : Nat) (y8 : Int32), m + i = n → (∀ z, pc ((RisEnough v (nI j)).bind fun q2 => if q2 = 0 then (Rbargain_R z).1 v y1 y2 y3 (nI P) y5 y6 (nI j + 1) else if shaIL s q i m (nI j) y8 < 100 then (if y5 = 0 then (Rbargain_R z).1 v y1 y2 y3 (nI P) (y5 + 1) (nI j) (nI j + 1) else (Rbargain_R z).1 v y1 y2 y3 (nI P) (y5 + 1) y6 (nI j + 1)) else (Rbargain_R z).1 v y1 y2 y3 (nI P) y5 y6 (nI j + 1)) Q) → pc (Rbargain_84 (Rbargain_R z).1 (Rbargain_R z).2 v y1 y2 y3 (nI P) y5 y6 (nI j) y8 (nI m)) Q := by
  have hn := h.2.1.1
  have hP := sh.1
  intro i
  induction i with
  | zero =>
    intro m z y8 hm g
    unfold Rbargain_84
    rw [q_ministers (rq_RH h), (rq_n h).1]
    show pc (if nI n ≤ nI m then _ else _) Q
    rw [if_pos (nI_le2 (by omega) (by omega))]
    exact g z
  | succ i ih =>
    intro m z y8 hm g
    unfold Rbargain_84
    rw [q_ministers (rq_RH h), (rq_n h).1]
    show pc (if nI n ≤ nI m then _ else _) Q
    rw [if_neg (nI_ge (by omega) (by omega))]
    have go : ∀ y, (∀ z, pc ((RisEnough v (nI j)).bind fun q2 => if q2 = 0 then (Rbargain_R z).1 v y1 y2 y3 (nI P) y5 y6 (nI j + 1) else if shaIL s q i (m + 1) (nI j) y < 100 then (if y5 = 0 then (Rbargain_R z).1 v y1 y2 y3 (nI P) (y5 + 1) (nI j) (nI j + 1) else (Rbargain_R z).1 v y1 y2 y3 (nI P) (y5 + 1) y6 (nI j + 1)) else (Rbargain_R z).1 v y1 y2 y3 (nI P) y5 y6 (nI j + 1)) Q) → pc ((Rbargain_R z).2 v y1 y2 y3 (nI P) y5 y6 (nI j) y (nI m + 1)) Q := by
      intro y gy
      cases z with
      | zero => exact fun _ e => nomatch e
      | succ z =>
        show pc (Rbargain_84 (Rbargain_R z).1 (Rbargain_R z).2 v y1 y2 y3 (nI P) y5 y6 (nI j) y (nI m + 1)) Q
        rw [← nI_succ]
        exact ih (m + 1) z y (by omega) gy
    have e84 : shaIL s q (i + 1) m (nI j) y8 = if hasI (nI j) (nI m) = 0 then shaIL s q i (m + 1) (nI j) y8 else shaIL s q i (m + 1) (nI j) (y8 + parI s q (nI m) 0) := by rw [shaIL]
    rw [e84] at g
    by_cases c : (nI j >>> (nI m &&& 31)) &&& 1 = 1
    · rw [if_neg (fun k => ((has_b (by omega)).1 k) c)] at g
      rw [if_pos c]
      refine pc_rdv (e := P + m) (nI_add P m) (by omega) (by decide) ?_
      rw [← sh.2 m (by omega), ← par_0 (s := s) (q := q) (by omega)]
      exact go _ g
    · rw [if_pos ((has_b (by omega)).2 c)] at g
      rw [if_neg c, Int32.add_zero]
      exact go _ g
theorem bg_69 (h : RQ s r v o n V) (zr : SZ s r) (sh : SHR s q v P) : ∀ (i j c z : Nat) (y6 : Int32), j + i = al s r + 1 → c ≤ j → (c = 0 → y6 = -1) → pc (Rbargain_69 (Rbargain_R z).1 (Rbargain_R z).2 v y1 y2 y3 (nI P) (nI c) y6 (nI j)) (fun p => p.1 = if y3 = 10 then (if c = 0 then levIL s r q i j 0 0 else y6) else levIL s r q i j 1 (nI c)) := by
  have hal : al s r ≤ 63 := by
    unfold al
    have h6 := zr.2
    have : 2 ^ sz s r ≤ 2 ^ 6 := Nat.pow_le_pow_right (by decide) h6
    omega
  obtain ⟨_, _, e3⟩ := rq_n h
  intro i
  induction i with
  | zero =>
    intro j c z y6 hj hc h6
    unfold Rbargain_69
    rw [bg_all h]
    show pc (if allI s r < nI j then _ else _) _
    rw [if_pos (al_gt zr hj)]
    by_cases k : y3 = 10
    · rw [if_pos k]
      refine pc_s ?_
      rw [if_pos k]
      by_cases k2 : c = 0
      · rw [if_pos k2, levIL, if_pos rfl]; exact h6 k2
      · rw [if_neg k2]
    · rw [if_neg k]
      refine pc_s ?_
      rw [if_neg k, levIL, if_neg (by decide)]
  | succ i ih =>
    intro j c z y6 hj hc h6
    unfold Rbargain_69
    rw [bg_all h]
    show pc (if allI s r < nI j then _ else _) _
    rw [if_neg (al_le zr hj)]
    refine bg_84 (q := q) h sh n 0 z 0 (by omega) (fun z => ?_)
    rw [bg_eno h]
    have esh : shaIL s q n 0 (nI j) 0 = shaI s r q (nI j) := by unfold shaI; rw [e3]
    rw [esh]
    have e0 : levIL s r q (i + 1) j 0 0 = if votT s r (nI j) < s r 9 then levIL s r q i (j + 1) 0 0 else if 100 ≤ shaI s r q (nI j) then levIL s r q i (j + 1) 0 0 else nI j := by rw [levIL, if_pos (show (0 : Int32) = 0 from rfl)]
    have e1 : levIL s r q (i + 1) j 1 (nI c) = if votT s r (nI j) < s r 9 then levIL s r q i (j + 1) 1 (nI c) else if 100 ≤ shaI s r q (nI j) then levIL s r q i (j + 1) 1 (nI c) else levIL s r q i (j + 1) 1 (nI c + 1) := by rw [levIL, if_neg (show ¬ (1 : Int32) = 0 by decide)]
    rw [e0, e1]
    have go : ∀ (c2 : Nat) (y6 : Int32) (Q : Int32 × SG → Prop), c2 ≤ j + 1 → (c2 = 0 → y6 = -1) → (∀ p : Int32 × SG, (p.1 = if y3 = 10 then (if c2 = 0 then levIL s r q i (j + 1) 0 0 else y6) else levIL s r q i (j + 1) 1 (nI c2)) → Q p) → pc ((Rbargain_R z).1 v y1 y2 y3 (nI P) (nI c2) y6 (nI j + 1)) Q := by
      intro c2 y6 Q k1 k2 k3
      cases z with
      | zero => exact fun _ e => nomatch e
      | succ z =>
        show pc (Rbargain_69 (Rbargain_R z).1 (Rbargain_R z).2 v y1 y2 y3 (nI P) (nI c2) y6 (nI j + 1)) Q
        rw [← nI_succ]
        exact pc_w (ih (j + 1) c2 z y6 (by omega) k1 k2) k3
    by_cases k1 : votT s r (nI j) < s r 9
    · rw [if_pos k1, if_pos k1, if_pos k1]
      rw [Option.bind_some, if_pos rfl]
      exact go c y6 _ (by omega) h6 (fun p hp => hp)
    · rw [if_neg k1, if_neg k1, if_neg k1]
      rw [Option.bind_some, if_neg (show ¬ (1 : Int32) = 0 by decide)]
      by_cases k2 : 100 ≤ shaI s r q (nI j)
      · rw [if_neg (Int32.not_lt.mpr k2), if_pos k2, if_pos k2]
        exact go c y6 _ (by omega) h6 (fun p hp => hp)
      · rw [if_pos (Int32.not_le.mp k2), if_neg k2, if_neg k2, ← nI_succ]
        by_cases k3 : c = 0
        · rw [if_pos (show nI c = 0 by rw [k3]; rfl), if_pos k3]
          refine go (c + 1) (nI j) _ (by omega) (fun g => absurd g (by omega)) (fun p hp => ?_)
          rw [if_neg (show ¬ c + 1 = 0 by omega)] at hp
          exact hp
        · rw [if_neg (show ¬ nI c = 0 from fun g => k3 (nI_inj (b := 0) (by omega) (by decide) g)), if_neg k3]
          refine go (c + 1) y6 _ (by omega) (fun g => absurd g (by omega)) (fun p hp => ?_)
          rw [if_neg (show ¬ c + 1 = 0 by omega)] at hp
          exact hp
end BG
theorem inI_w {x : Int32} {hi : Nat} (hh : hi ≤ 1000) : inI x 0 (nI hi) = 0 ↔ (x < 0 ∨ nI (hi + 1) ≤ x) := by
  have q : nI hi < x ↔ nI (hi + 1) ≤ x := by
    rw [Int32.lt_iff_toInt_lt, Int32.le_iff_toInt_le, nI_toInt (by omega), nI_toInt (by omega)]; omega
  unfold inI
  by_cases c : x < 0
  · rw [if_pos c]; exact ⟨fun _ => Or.inl c, fun _ => rfl⟩
  · rw [if_neg c]
    by_cases c2 : nI hi < x
    · rw [if_pos c2]; exact ⟨fun _ => Or.inr (q.1 c2), fun _ => rfl⟩
    · rw [if_neg c2]
      exact ⟨fun g => absurd g (by decide), fun g => g.elim (fun g => absurd g c) (fun g => absurd (q.2 g) c2)⟩
theorem CE_bargain {s : SG} {x1 x2 x3 : Int32} (hP : wLoc SIM1) (h : INVP SIM1 K s) : ∃ v s1 s2, xN sc (d + 11) 118 [.inr (.inr (.inl (some 0))), .inl x1, .inl x2, .inl x3] (wl K s) = some (some (.inl v), wl K s1) ∧ xN sc (d + 11) 251 [.inr (.inr (.inl (some 64))), .inl x1, .inl x2, .inl x3] (wl K s1) = some (some (.inl v), wl K s2) ∧ INVP SIM1 K s2 := by
  have hK := INVP_SH h
  have hn := SIM_n.1 (INVP_P h)
  have rr := INVP_RI h
  have q2 := r_bargain (sc := sc) (d := d + 6) (s := s) (x1 := x1) (x2 := x2) (x3 := x3) hK
  obtain ⟨p, e2, qi⟩ : ok (Rbargain s x1 x2 x3) (fun p => QI s p.2) := bargain_ok rr
  rw [e2] at q2
  have I := INVP_q hP h (s1 := s) (fun _ _ => rfl) qi
  obtain ⟨n0, en0, hn0⟩ := rr.1.1 0 (by omega)
  obtain ⟨n5, en5, hn5⟩ := rr.1.1 5 (by omega)
  have RB : Rbargain s x1 x2 x3 = (if iofN s 5 x2 = 0 then some (-2, s) else (RisRepublic s x1).bind fun p2 => if p2.1 = 0 then some (-2, p2.2) else if (inI x3 (0) (5)) = 0 then (if (inI x3 (10) (11)) = 0 then some (-2, p2.2) else Rbargain_69 (Rbargain_R xF).1 (Rbargain_R xF).2 p2.2 x1 x2 x3 (RplaceOf (5) x2) (0) (-1) (0)) else (rdI p2.2 65 5768 ((RplaceOf (5) x2) + x3)).bind fun g3 => some (g3, p2.2)) := by
    unfold Rbargain
    rw [q_isOf (x := 5) (a := 5) rfl (by decide)]; rfl
  rcases rep_sel (x := x1) hn en0 hn0 with ⟨z0, e0⟩ | ⟨j, hj, hjn, ex, z0, e0⟩
  · have ep : p.1 = -2 := by
      rw [RB] at e2
      by_cases c : iofN s 5 x2 = 0
      · rw [if_pos c] at e2; cases e2; rfl
      · rw [if_neg c, isRep_n z0] at e2
        rw [Option.bind_some, if_pos rfl] at e2; cases e2; rfl
    exact ⟨p.1, s, p.2, by rw [ep]; exact c_bgnI_a (sc := sc) (d := d + 8) (s := s) (x := x1) (y := x2) (v := x3) hK e0, q2, I⟩
  · rcases row_sel (k := 4) (x := x2) hn (by omega) en5 hn5 with ⟨z5, e5⟩ | ⟨j5, hj5, hjn5, ex5, z5, e5⟩
    · have ep : p.1 = -2 := by
        rw [RB, if_pos z5] at e2; cases e2; rfl
      exact ⟨p.1, s, p.2, by rw [ep]; exact c_bgnI_b (sc := sc) (d := d + 8) (s := s) (x := x1) (y := x2) (v := x3) (rp_j hK hj) hK e0 e5, q2, I⟩
    · obtain ⟨u, eu, u1, u65, u11, u18, u20, u21, u22⟩ := isRep_v hj ex z0
      have rq0 := rep_q hn hj en0 hn0 hjn
      rw [← u65] at rq0
      obtain ⟨n, V, rq⟩ := RQ_of rq0 u11 (by omega)
      have zr : SZ s (6 + 8 * j) := by
        obtain ⟨_, _, e3⟩ := rq_n rq
        exact ⟨by rw [e3]; exact rq.2.2.1.1, by rw [e3]; exact rq.2.1.1⟩
      have sh : SHR s (22 + 2 * (4 * 2 + j5)) u.2 (1430 + 6 * j5) := by
        have w : BEQ (fun e i => s (1 + (CPK 5 j5 + e)) i) (fun i => s 65 (1430 + 6 * j5 + i)) := hn.2.2.2 5 j5 n5 (by omega) hj5 en5 hn5 hjn5
        refine ⟨by omega, fun m hm => ?_⟩
        have this : s (1 + (CPK 5 j5 + 1)) (5 * m) = s 65 (1430 + 6 * j5 + m) := w m hm
        rw [u65, ← this]
        show s (22 + 2 * (4 * 2 + j5) + 1) (5 * m) = s (1 + (21 + 2 * (4 * 2 + j5) + 1)) (5 * m)
        congr 1; omega
      have cc := c_bgnI_c (sc := sc) (d := d + 6) (s := s) (x := x1) (y := x2) (v := x3) (rp_j hK hj) (RW2 hK (4 * 2 + j5) (by omega)) hK e0 e5 zr
      have e2' := e2
      rw [RB, if_neg z5, eu] at e2'
      replace e2' : (if u.1 = 0 then some (-2, u.2) else if (inI x3 (0) (5)) = 0 then (if (inI x3 (10) (11)) = 0 then some (-2, u.2) else Rbargain_69 (Rbargain_R xF).1 (Rbargain_R xF).2 u.2 x1 x2 x3 (RplaceOf (5) x2) (0) (-1) (0)) else (rdI u.2 65 5768 ((RplaceOf (5) x2) + x3)).bind fun g3 => some (g3, u.2)) = some p := e2'
      rw [if_neg (show ¬ u.1 = 0 by rw [u1]; decide), ex5, place5] at e2'
      refine ⟨p.1, s, p.2, ?_, q2, I⟩
      rw [cc]
      have fin : bgnIc s (6 + 8 * j) (22 + 2 * (4 * 2 + j5)) x3 = p.1 := by
        unfold bgnIc
        by_cases c1 : inI x3 0 5 = 0
        · rw [if_pos c1] at e2'
          have W : (if x3 < 0 then bgnIcW s (6 + 8 * j) (22 + 2 * (4 * 2 + j5)) x3 else if 6 ≤ x3 then bgnIcW s (6 + 8 * j) (22 + 2 * (4 * 2 + j5)) x3 else parI s (22 + 2 * (4 * 2 + j5)) x3 0) = bgnIcW s (6 + 8 * j) (22 + 2 * (4 * 2 + j5)) x3 := by
            rcases (inI_w (hi := 5) (by omega)).1 c1 with g | g
            · rw [if_pos g]
            · rw [if_pos (show 6 ≤ x3 from g)]; split <;> rfl
          rw [W]
          by_cases c2 : inI x3 10 11 = 0
          · rw [if_pos c2] at e2'
            cases e2'
            have n10 : ¬ x3 = 10 := fun g => by rw [g] at c2; exact absurd c2 (by decide)
            have n11 : ¬ x3 = 11 := fun g => by rw [g] at c2; exact absurd c2 (by decide)
            unfold bgnIcW
            rw [if_neg n10, if_neg n11]
          · rw [if_neg c2] at e2'
            have L := bg_69 (y1 := x1) (y2 := nI j5) (y3 := x3) rq zr sh (al s (6 + 8 * j) + 1) 0 0 xF (-1) (by omega) (Nat.le_refl 0) (fun _ => rfl) p e2'
            obtain ⟨i, ei, hi⟩ := between (lo := 10) (hi := 11) (by omega) c2 (by omega)
            unfold bgnIcW levI
            rcases (by omega : i = 0 ∨ i = 1) with rfl | rfl
            · have e10 : x3 = 10 := ei
              rw [if_pos e10, if_pos rfl] at L
              rw [if_pos e10]; exact L.symm
            · have e11 : x3 = 11 := ei
              have n10 : ¬ x3 = 10 := by rw [e11]; decide
              rw [if_neg n10] at L
              rw [if_neg n10, if_pos e11]; exact L.symm
        · rw [if_neg c1] at e2'
          obtain ⟨b, eb, hb⟩ := inI_nI (b := 5) (by decide) c1
          rw [eb, if_neg (nI_pos (by omega)), if_neg (show ¬ (6 : Int32) ≤ nI b from nI_ge (b := 6) (by omega) (by decide)), par_0 (by omega), sh.2 b (by omega)]
          rw [eb, nI_add, rd_nI (e := 1430 + 6 * j5 + b) rfl (by omega) (by decide)] at e2'
          cases e2'; rfl
      rw [fin]
end XUB
