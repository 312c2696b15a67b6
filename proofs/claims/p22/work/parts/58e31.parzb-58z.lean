section
section XVF
variable {sc : Nat × (Nat → Int32)} {d : Nat} {K : List KD} {r q t a B m : Nat}
/-! bribes on both sides -/
section BRI
variable {s v : SG} {o n V b se D : Nat} {y1 y2 y3 y4 y5 y6 y7 : Int32}
theorem siz_n : ∀ x, x ≤ 9 → ∀ y, y ≤ 9 → NB (sizI (nI x - nI y)) 9 := by
  have h : ∀ x, x ≤ 9 → ∀ y, y ≤ 9 → sizI (nI x - nI y) = nI (if x ≤ y then y - x else x - y) := by decide +kernel
  intro x hx y hy
  refine ⟨_, h x hx y hy, ?_⟩
  split <;> omega
theorem gap_n : ∀ y, y < 28 → ∀ p, p < 100 → ∀ o, o < 28 → nI y - nI p < nI o → nI o - (nI y - nI p) = nI (o + p - y) := by decide +kernel
theorem bit_T : ∀ J, J < 64 → ∀ k, k < 6 → ((nI J >>> (nI k &&& 31)) &&& 1 = 1 ↔ J.testBit k = true) := by decide +kernel
theorem and_T : ∀ J, J < 64 → ∀ A, A < 64 → nI J &&& nI A = nI (J &&& A) := by decide +kernel
theorem or_T : ∀ k, k < 6 → ∀ A, A < 2 ^ k → (nI A ||| (1 <<< (nI k &&& 31)) = nI (A ||| 2 ^ k) ∧ A ||| 2 ^ k < 2 ^ (k + 1)) := by decide +kernel
/-- what is known of a motion on the reference's side -/
def MO (v : SG) (o n b se D : Nat) : Prop := RB v o ∧ (b < 6 ∧ se < 4 ∧ D < 1000) ∧ v 64 15 = nI b ∧ v 64 16 = nI se ∧ v 64 12 = nI (D / 100) ∧ v 64 13 = nI (D / 10 % 10) ∧ v 64 14 = nI (D % 10)
theorem mo_off {k : Nat} (h : RQ s r v o n V) (mo : MO v o n b se D) (hk : k < 6) : NB (ofoN v k) 27 := by
  obtain ⟨rb, ⟨hb, hse, hD⟩, e15, e16, e12, e13, e14⟩ := mo
  have es : seN v = se := by unfold seN; rw [e16, nI_clamp (by omega)]
  have w : ∀ i, i < 3 → NB (wnN v k se i) 9 := by
    intro i hi
    unfold wnN
    rw [rq_of h, show 16 + 18 * k + 3 * se + i = 16 + 18 * k + (3 * se + i) by omega]
    exact rb.2.2.2 k (3 * se + i) hk (by omega)
  obtain ⟨x0, f0, l0⟩ := w 0 (by omega)
  obtain ⟨x1, f1, l1⟩ := w 1 (by omega)
  obtain ⟨x2, f2, l2⟩ := w 2 (by omega)
  obtain ⟨z0, g0, k0⟩ := siz_n (D / 100) (by omega) x0 l0
  obtain ⟨z1, g1, k1⟩ := siz_n (D / 10 % 10) (by omega) x1 l1
  obtain ⟨z2, g2, k2⟩ := siz_n (D % 10) (by omega) x2 l2
  refine ⟨z0 + z1 + z2, ?_, by omega⟩
  unfold ofoN
  rw [es, e12, e13, e14, f0, f1, f2, g0, g1, g2, nI_add, nI_add]
/-- what one who does not agree costs: a small number -/
theorem mo_gap {k : Nat} (h : RQ s r v o n V) (mo : MO v o n b se D) (hk : k < n) (ng : agsN v k = 0) : NB (ofN v (10 + 18 * k + 3) * (ofoN v k - yieN v k)) 3402 := by
  have hn := h.2.1.1
  obtain ⟨x, ex, hx⟩ := mo_off h mo (k := k) (by omega)
  obtain ⟨rb, ⟨hb, hse, hD⟩, e15, e16, e12, e13, e14⟩ := mo
  obtain ⟨y, ey, hy⟩ := rb.2.2.1 k 1 (by omega) (by omega)
  obtain ⟨c, ec, hc⟩ := rb.2.2.1 k 3 (by omega) (by omega)
  obtain ⟨p0, ep0, hp0⟩ := rb.1 1 (by omega)
  have yie : ∃ p, p < 100 ∧ yieN v k = nI y - nI p := by
    unfold yieN
    rw [rq_of h, rq_of h, rq_of h]
    by_cases q : (v 65 (o + (10 + 18 * k + 5)) >>> (v 64 15 &&& 31)) &&& 1 = 1
    · rw [if_pos q]
      exact ⟨p0, by omega, by rw [ey, ← ep0]⟩
    · rw [if_neg q]
      exact ⟨0, by omega, by rw [ey]; rfl⟩
  obtain ⟨p, hp, ey2⟩ := yie
  have lt : yieN v k < ofoN v k := by
    unfold agsN at ng
    by_cases q : nI k = v 64 15
    · rw [if_pos q] at ng; exact absurd ng (by decide)
    · rw [if_neg q] at ng
      by_cases q2 : yieN v k < ofoN v k
      · exact q2
      · rw [if_neg q2] at ng; exact absurd ng (by decide)
  rw [ey2, ex] at lt
  have gp := gap_n y (by omega) p hp x (by omega) lt
  rw [ey2, ex, gp, rq_of h, ec, nI_mulx]
  refine ⟨_, rfl, ?_⟩
  exact Nat.le_trans (Nat.mul_le_mul hc (by omega : x + p - y ≤ 126)) (by decide)
/-- who agrees, bit by bit -/
theorem agm_b : ∀ k, k ≤ 6 → ∃ A, A < 2 ^ k ∧ agmN v k = nI A ∧ ∀ i, i < k → (A.testBit i = true ↔ ¬ agsN v i = 0) := by
  intro k
  induction k with
  | zero => intro _; exact ⟨0, by decide, rfl, fun i hi => absurd hi (by omega)⟩
  | succ k ih =>
    intro hk
    obtain ⟨A, hA, eA, bA⟩ := ih (by omega)
    rw [agmN, eA]
    by_cases c : agsN v k = 0
    · rw [if_pos c, or_0]
      have lt : A < 2 ^ (k + 1) := Nat.lt_of_lt_of_le hA (Nat.pow_le_pow_right (by decide) (by omega))
      refine ⟨A, lt, rfl, fun i hi => ?_⟩
      by_cases q : i = k
      · subst q
        rw [Nat.testBit_lt_two_pow hA]
        exact ⟨fun z => absurd z (by decide), fun z => absurd c z⟩
      · exact bA i (by omega)
    · rw [if_neg c]
      obtain ⟨o1, o2⟩ := or_T k (by omega) A hA
      refine ⟨A ||| 2 ^ k, o2, o1, fun i hi => ?_⟩
      rw [Nat.testBit_or, Nat.testBit_two_pow]
      by_cases q : i = k
      · subst q
        exact ⟨fun _ => c, fun _ => by simp⟩
      · have : decide (k = i) = false := by simp; omega
        rw [this, Bool.or_false]
        exact bA i (by omega)
theorem cost_4 {J : Nat} (h : RQ s r v o n V) (mo : MO v o n b se D) (hJ : J < 64) (hz : nI J &&& agmT v = 0) : ∀ (i j z c : Nat), j + i = n → c ≤ 3402 * j → pc (RcostOf_4 (RcostOf_R z) v (nI J) (nI c) (nI j)) (fun x => x = briIL s r i j (nI J) (nI b) (nI se) (nI D) (nI c) ∧ NB x (3402 * n)) := by
  have hn := h.2.1.1
  obtain ⟨_, e2, _⟩ := rq_n h
  have hb := mo.2.1.1
  have hse := mo.2.1.2.1
  have hD := mo.2.1.2.2
  obtain ⟨a0, a1, a2⟩ := amt_n D hD
  have e15 := mo.2.2.1
  have e16 := mo.2.2.2.1
  have e12 : v 64 12 = amtI (nI D) 0 := mo.2.2.2.2.1.trans a0.symm
  have e13 : v 64 13 = amtI (nI D) 1 := mo.2.2.2.2.2.1.trans a1.symm
  have e14 : v 64 14 = amtI (nI D) 2 := mo.2.2.2.2.2.2.trans a2.symm
  have hSE : SE v := ⟨by unfold seN; rw [e16, nI_clamp (by omega)], by unfold seN; rw [e16, nI_clamp (by omega)]; exact hse⟩
  intro i
  induction i with
  | zero =>
    intro j z c hj hc
    unfold RcostOf_4
    rw [q_ministers (rq_RH h), (rq_n h).1, Option.bind_some, if_pos (k_ge hj)]
    exact pc_s ⟨rfl, ⟨c, rfl, by rw [show n = j by omega]; exact hc⟩⟩
  | succ i ih =>
    intro j z c hj hc
    have go : ∀ c2 (Q : Int32 → Prop), c2 ≤ 3402 * (j + 1) → (∀ x, (x = briIL s r i (j + 1) (nI J) (nI b) (nI se) (nI D) (nI c2) ∧ NB x (3402 * n)) → Q x) → pc (RcostOf_R z v (nI J) (nI c2) (nI j + 1)) Q := by
      intro c2 Q h2 hq
      cases z with
      | zero => exact fun _ e => nomatch e
      | succ z =>
        show pc (RcostOf_4 (RcostOf_R z) v (nI J) (nI c2) (nI j + 1)) Q
        rw [← nI_succ]
        exact pc_w (ih (j + 1) z c2 (by omega) h2) hq
    unfold RcostOf_4
    rw [q_ministers (rq_RH h), (rq_n h).1, Option.bind_some, if_neg (k_lt hj (by omega)), briIL]
    by_cases c1 : (nI J >>> (nI j &&& 31)) &&& 1 = 1
    · have ng : agsN v j = 0 := by
        refine Decidable.byContradiction (fun g => ?_)
        obtain ⟨A, hA, eA, bA⟩ := agm_b (v := v) n hn
        have eT : agmT v = nI A := by unfold agmT; rw [e2]; exact eA
        rw [eT, and_T J hJ A (p2_64 hn hA)] at hz
        have l : J &&& A < 64 := Nat.lt_of_le_of_lt Nat.and_le_left hJ
        have z0 : J &&& A = 0 := nI_inj (b := 0) (by omega) (by decide) hz
        have t1 : J.testBit j = true := (bit_T J hJ j (by omega)).1 c1
        have t2 : A.testBit j = true := (bA j (by omega)).2 g
        have t3 : (J &&& A).testBit j = true := by rw [Nat.testBit_and, t1, t2]; rfl
        rw [z0, Nat.zero_testBit] at t3
        exact absurd t3 (by decide)
      have pr : cl 6 (s (r + 4)) (nI j) = ofN v (10 + 18 * j + 3) := by
        rw [cl_nI (by omega) (by decide), rq_of h]
        exact h.2.2.2.2.2.1 j 3 (by omega) (by omega)
      obtain ⟨g, eg, hg⟩ := mo_gap h mo (k := j) (by omega) ng
      rw [if_pos c1, if_neg (fun q => ((has_b (by omega)).1 q) c1), q_ofMinister (y := 3) (m := j) (a := 3) (rq_RH h) rfl rfl (by omega) (by decide), Option.bind_some, q_offOf (rq_RH h) hSE rfl (by omega), Option.bind_some, q_yields (rq_RH h) rfl (by omega), Option.bind_some, pr, rq_dis h (by omega) hse e16 e12 e13 e14, rq_pat h (by omega) hb e15, eg, nI_add]
      exact go (c + g) _ (by omega) (fun x hx => hx)
    · rw [if_neg c1, if_pos ((has_b (by omega)).2 c1), Int32.add_zero]
      exact go c _ (by omega) (fun x hx => hx)
theorem cost_v {J : Nat} (h : RQ s r v o n V) (mo : MO v o n b se D) (hJ : J < 64) (hz : nI J &&& agmT v = 0) : pc (RcostOf v (nI J)) (fun x => x = briI s r (nI J) (nI b) (nI se) (nI D) ∧ NB x 20412) := by
  have hn := h.2.1.1
  obtain ⟨_, _, e3⟩ := rq_n h
  unfold RcostOf briI
  rw [e3]
  refine pc_w (cost_4 h mo hJ hz n 0 xF 0 (by omega) (by omega)) (fun x hx => ⟨hx.1, ?_⟩)
  obtain ⟨c, ec, hc⟩ := hx.2
  exact ⟨c, ec, Nat.le_trans hc (Nat.mul_le_mul_left 3402 hn)⟩
theorem bri_33 (h : RQ s r v o n V) (zr : SZ s r) (mo : MO v o n b se D) (e18 : v 64 18 = allI s r) {k1 k4 k5 k6 : Int32} : ∀ (i j z : Nat) (y9 y10 c11 c12 : Int32), j + i = al s r + 1 → ((y9 = -1 ∧ c11 = -1 ∧ c12 = -1) ∨ ∃ J c, J < 64 ∧ c < 2 ^ 31 ∧ y9 = nI J ∧ c12 = nI J ∧ y10 = nI c ∧ c11 = nI c) → pc (Rbribe_33 (Rbribe_R z) v y1 y2 y3 y4 y5 y6 y7 (agmT v) y9 y10 (nI j)) (fun p => p.1 = brbIbL s r i j k1 (nI b) (nI se) k4 k5 k6 y7 (nI D) (agmT v) c11 c12) := by
  have hn := h.2.1.1
  have hal : al s r ≤ 63 := by
    unfold al
    have h6 := zr.2
    have : 2 ^ sz s r ≤ 2 ^ 6 := Nat.pow_le_pow_right (by decide) h6
    omega
  intro i
  induction i with
  | zero =>
    intro j z y9 y10 c11 c12 hj hr
    unfold Rbribe_33
    rw [bg_all h, Option.bind_some, if_pos (al_gt zr hj), brbIbL]
    rcases hr with ⟨e1, e2, e3⟩ | ⟨J, c, hJ, hc, e1, e2, e3, e4⟩
    · rw [e1, e2, e3, if_neg (show ¬ (0 : Int32) ≤ -1 by decide)]
      refine pc_s ?_
      split <;> rfl
    · rw [e1, e2, e3, e4, if_pos (show (0 : Int32) ≤ nI J from nI_le2 (a := 0) (by omega) (by omega))]
      by_cases g : y7 = 0
      · rw [if_pos g, if_pos g]; exact pc_s rfl
      · rw [if_neg g, if_neg g]; exact pc_s rfl
  | succ i ih =>
    intro j z y9 y10 c11 c12 hj hr
    have go : ∀ y9 y10 c11 c12, ((y9 = -1 ∧ c11 = -1 ∧ c12 = -1) ∨ ∃ J c, J < 64 ∧ c < 2 ^ 31 ∧ y9 = nI J ∧ c12 = nI J ∧ y10 = nI c ∧ c11 = nI c) → pc (Rbribe_R z v y1 y2 y3 y4 y5 y6 y7 (agmT v) y9 y10 (nI j + 1)) (fun p => p.1 = brbIbL s r i (j + 1) k1 (nI b) (nI se) k4 k5 k6 y7 (nI D) (agmT v) c11 c12) := by
      intro y9 y10 c11 c12 hr
      cases z with
      | zero => exact fun _ e => nomatch e
      | succ z =>
        show pc (Rbribe_33 (Rbribe_R z) v y1 y2 y3 y4 y5 y6 y7 (agmT v) y9 y10 (nI j + 1)) _
        rw [← nI_succ]
        exact ih (j + 1) z y9 y10 c11 c12 (by omega) hr
    unfold Rbribe_33
    rw [bg_all h, Option.bind_some, if_neg (al_le zr hj), brbIbL]
    by_cases c1 : nI j &&& agmT v = 0
    · rw [if_pos c1, if_pos c1, q_isPassed (rq_RH h) (rq_MZ h), Option.bind_some, rq_pas h e18]
      by_cases c2 : pasN v (agmT v ||| nI j) = 0
      · rw [if_pos c2, if_pos c2]; exact go _ _ _ _ hr
      · rw [if_neg c2, if_neg c2]
        refine pc_b (cost_v h mo (J := j) (by omega) c1) (fun x hx => ?_)
        obtain ⟨ex, c, ec, hc⟩ := hx
        rw [← ex]
        have tk : (nI j = -1 ∧ x = -1 ∧ nI j = -1) ∨ ∃ J c, J < 64 ∧ c < 2 ^ 31 ∧ nI j = nI J ∧ nI j = nI J ∧ x = nI c ∧ x = nI c := Or.inr ⟨j, c, by omega, by omega, rfl, rfl, ec, ec⟩
        rcases hr with ⟨e1, e2, e3⟩ | ⟨J, c', hJ, hc', e1, e2, e3, e4⟩
        · rw [e1, e2, if_pos (show (-1 : Int32) < 0 by decide), if_pos rfl]
          exact go _ _ _ _ tk
        · have n1 : ¬ nI J < 0 := nI_pos (by omega)
          have n2 : ¬ nI c' = -1 := fun q => absurd (show nI c' < 0 by rw [q]; decide) (nI_pos (by omega))
          rw [e1, e3, e4, if_neg n1, if_neg n2]
          by_cases c3 : x < nI c'
          · rw [if_pos c3, if_neg (Int32.not_le.mpr c3)]; exact go _ _ _ _ tk
          · rw [if_neg c3, if_pos (Int32.not_lt.mp c3), e2]
            exact go _ _ _ _ (Or.inr ⟨J, c', hJ, hc', rfl, rfl, rfl, rfl⟩)
    · rw [if_neg c1, if_neg c1]; exact go _ _ _ _ hr
end BRI
/-- the day of a motion that is -/
theorem day_n {x y z : Int32} (h : ¬ dayI x y z = -1) : ∃ D, D < 1000 ∧ dayI x y z = nI D := by
  have c : ¬ RareAmounts x y z = 0 := fun q => h (day_e.1.2 q)
  rw [day_e.2 c]
  unfold RareAmounts at c
  by_cases c1 : inI x 0 9 = 0
  · rw [if_pos c1] at c; exact absurd rfl c
  rw [if_neg c1] at c
  by_cases c2 : inI y 0 9 = 0
  · rw [if_pos c2] at c; exact absurd rfl c
  rw [if_neg c2] at c
  by_cases c3 : inI z 0 9 = 0
  · rw [if_pos c3] at c; exact absurd rfl c
  obtain ⟨i, ei, hi⟩ := inI_nI (b := 9) (by decide) c1
  obtain ⟨j, ej, hj⟩ := inI_nI (b := 9) (by decide) c2
  obtain ⟨k, ek, hk⟩ := inI_nI (b := 9) (by decide) c3
  refine ⟨100 * i + 10 * j + k, by omega, ?_⟩
  rw [ei, ej, ek]
  show (nI 100 * nI i + nI 10 * nI j) + nI k = _
  rw [nI_mulx, nI_mulx, nI_add, nI_add]
theorem mov_d {s : SG} {x y z u : Int32} {r : Nat} (h : movF s x y z u = some r) : ¬ u = -1 := by
  intro e
  unfold movF at h
  cases q : repO s x with
  | none => rw [q] at h; cases h
  | some r2 =>
    rw [q] at h
    replace h : movI s r2 y z u = some r := h
    unfold movI at h
    by_cases c1 : minI s r2 y = 0
    · rw [if_pos c1] at h; cases h
    rw [if_neg c1] at h
    by_cases c2 : issI z = 0
    · rw [if_pos c2] at h; cases h
    rw [if_neg c2, if_pos e] at h; cases h
theorem CE_bribe {s : SG} {x1 x2 x3 x4 x5 x6 x7 : Int32} (hP : wLoc SIM1) (h : INVP SIM1 K s) : ∃ v s1 s2, xN sc (d + 11) 112 [.inr (.inr (.inl (some 0))), .inl x1, .inl x2, .inl x3, .inl x4, .inl x5, .inl x6, .inl x7] (wl K s) = some (some (.inl v), wl K s1) ∧ xN sc (d + 11) 246 [.inr (.inr (.inl (some 64))), .inl x1, .inl x2, .inl x3, .inl x4, .inl x5, .inl x6, .inl x7] (wl K s1) = some (some (.inl v), wl K s2) ∧ INVP SIM1 K s2 := by
  have hK := INVP_SH h
  have hn := SIM_n.1 (INVP_P h)
  have rr := INVP_RI h
  have q2 := r_bribe (sc := sc) (d := d + 4) (s := s) (x1 := x1) (x2 := x2) (x3 := x3) (x4 := x4) (x5 := x5) (x6 := x6) (x7 := x7) hK
  obtain ⟨p, e2, qi⟩ : ok (Rbribe s x1 x2 x3 x4 x5 x6 x7) (fun p => QI s p.2) := bribe_ok rr
  rw [e2] at q2
  have I := INVP_q hP h (s1 := s) (fun _ _ => rfl) qi
  obtain ⟨w, ew, _⟩ := isMotion_ok (x := x1) (b := x2) (se := x3) (u := x4) (v := x5) (w := x6) rr
  unfold Rbribe at e2
  rw [ew, Option.bind_some] at e2
  rcases mot_v (x1 := x1) (x2 := x2) (x3 := x3) (x4 := x4) (x5 := x5) (x6 := x6) hn rr with ⟨c1, c2⟩ | ⟨j, b, se, hj, hb, hse, eb, es, c1, c2⟩
  · rw [if_pos (c2 w ew)] at e2
    have ep : p.1 = -1 := by cases e2; rfl
    exact ⟨p.1, s, p.2, by rw [ep]; exact c_brbI_a (sc := sc) (d := d + 7) (s := s) (x := x1) (who := x2) (se := x3) (u := x4) (v := x5) (z := x6) (g := x7) hK (TB_TV (INVP_TB h)) c1, q2, I⟩
  · obtain ⟨w1, n, V, hmn, rq, e15, e16, e12, e13, e14, e18, _, _, _, rb⟩ := c2 w ew
    obtain ⟨D, hD, eD⟩ := day_n (mov_d c1)
    obtain ⟨a0, a1, a2⟩ := amt_n D hD
    have mo : MO w.2 (610 + 118 * j) n b se D := ⟨rb, ⟨hb, hse, hD⟩, e15.trans eb, e16.trans es, by rw [e12, eD]; exact a0, by rw [e13, eD]; exact a1, by rw [e14, eD]; exact a2⟩
    have hSE : SE w.2 := ⟨by unfold seN; rw [e16, es, nI_clamp (by omega)], by unfold seN; rw [e16, es, nI_clamp (by omega)]; exact hse⟩
    have ag := rq_agr rq hb hse (e15.trans eb) (e16.trans es) e12 e13 e14
    rw [if_neg (show ¬ w.1 = 0 by rw [w1]; decide), q_agreeing (rq_RH rq) hSE (rq_MZ rq), Option.bind_some] at e2
    have zr : SZ s (6 + 8 * j) := by
      obtain ⟨_, _, e3⟩ := rq_n rq
      exact ⟨by rw [e3]; exact rq.2.2.1.1, by rw [e3]; exact rq.2.1.1⟩
    have cc := c_brbI_b (sc := sc) (d := d + 7) (s := s) (x := x1) (who := x2) (se := x3) (u := x4) (v := x5) (z := x6) (g := x7) (rp_j hK hj) hK (TB_TV (INVP_TB h)) c1 zr
    have fin := bri_33 (y1 := x1) (y2 := x2) (y3 := x3) (y4 := x4) (y5 := x5) (y6 := x6) (y7 := x7) (k1 := x1) (k4 := x4) (k5 := x5) (k6 := x6) rq zr mo e18 (al s (6 + 8 * j) + 1) 0 xF (-1) 0 (-1) (-1) (by omega) (Or.inl ⟨rfl, rfl, rfl⟩) p e2
    refine ⟨p.1, s, p.2, ?_, q2, I⟩
    rw [cc, fin]
    unfold brbIb
    rw [eb, es, ag, eD]
end XVF
end
section
section XVL
variable {sc : Nat × (Nat → Int32)} {d : Nat} {K : List KD} {r q t a B m : Nat}
/-! what nature does: the least rain lost -/
def grL (S : Nat) (f : Nat → Nat → Nat) : Nat → Nat → Nat → Nat
  | 0, _, _ => 0
  | i + 1, k, c => f k 1 - min (f k 1) c + grL S f i (k + 1) (min S (c - min (f k 1) c + f k 3))
def gfL (S : Nat) (f : Nat → Nat → Nat) : Nat → Nat → Nat → Nat → Nat
  | 0, _, _, _ => 0
  | i + 1, k, c, a => if a = k then min (f k 1) c else gfL S f i (k + 1) (min S (c - min (f k 1) c + f k 3)) a
theorem gr_le {S : Nat} {f : Nat → Nat → Nat} (h : ∀ j, j < 8 → f j 1 ≤ 9) : ∀ i k c, k + i ≤ 8 → grL S f i k c ≤ 9 * i := by
  intro i
  induction i with
  | zero => intro k c _; rw [grL]; omega
  | succ i ih =>
    intro k c hk
    rw [grL]
    have h1 := h k (by omega)
    have h2 := ih (k + 1) (min S (c - min (f k 1) c + f k 3)) (by omega)
    omega
theorem gr_lip {S : Nat} {f : Nat → Nat → Nat} : ∀ i k c c', c' ≤ c → grL S f i k c' ≤ grL S f i k c + (c - c') := by
  intro i
  induction i with
  | zero => intro k c c' _; rw [grL, grL]; omega
  | succ i ih =>
    intro k c c' h
    rw [grL, grL]
    have h2 := ih (k + 1) (min S (c - min (f k 1) c + f k 3)) (min S (c' - min (f k 1) c' + f k 3)) (by omega)
    omega
theorem cAf_m {S e c g : Nat} (hc : c ≤ S) (hg : g ≤ c) : cAf S e c g = min S (c - g + e) := by
  unfold cAf
  split <;> omega
/-- the rain lost when g falls on day k -/
def vaL (S D : Nat) (f : Nat → Nat → Nat) (k c g : Nat) : Nat := f k 1 - g + grL S f (D - (k + 1)) (k + 1) (cAf S (f k 3) c g)
theorem va_lip {S D k c g : Nat} {f : Nat → Nat → Nat} (hc : c ≤ S) (hg : g + 1 ≤ min (f k 1) c) : vaL S D f k c (g + 1) ≤ vaL S D f k c g := by
  unfold vaL
  rw [cAf_m hc (by omega), cAf_m hc (by omega)]
  have := gr_lip (S := S) (f := f) (D - (k + 1)) (k + 1) (min S (c - g + f k 3)) (min S (c - (g + 1) + f k 3)) (by omega)
  omega
theorem va_end {S D k c : Nat} {f : Nat → Nat → Nat} (hk : k < D) (hc : c ≤ S) : grL S f (D - k) k c = vaL S D f k c (min (f k 1) c) := by
  obtain ⟨e, he⟩ : ∃ e, D - k = e + 1 := ⟨D - k - 1, by omega⟩
  unfold vaL
  rw [he, grL, cAf_m hc (by omega), show D - (k + 1) = e by omega]
/-- less at a day, as it is -/
def PXV (u : SG) (S D : Nat) (f : Nat → Nat → Nat) (k : Nat) : Prop := ∀ c, c ≤ S → u 70 (199 * k + c) = nI (grL S f (D - k) k c)
section VM
variable {t0 : SG} {C G D : Nat} {f : Nat → Nat → Nat} {y1 : Int32}
theorem mc_9 (m : MC t0 C G D f) {j a : Nat} (hj : j < 8) (ha : a < 4) : f j a ≤ 9 := (m.2.2.2.2.2.2 j hj).2.1 a ha
theorem mc_d {u : SG} (m : MC t0 C G D f) (h : MH t0 u) {k a : Nat} {x : Int32} (hk : k < 8) (ha : a < 4) (ex : x = nI a) : RdayOf u (nI k) x = some (nI (f k a)) := (MH_day h).trans ((m.2.2.2.2.2.2 k hk).2.2 a (nI k) x ha rfl ex)
theorem va_le {k c g : Nat} (m : MC t0 C G D f) (hk : k < D) : vaL (C + G) D f k c g ≤ 81 := by
  have hD := m.2.2.2.2.1
  have h1 := mc_9 m (j := k) (a := 1) (by omega) (by decide)
  have h2 := gr_le (S := C + G) (f := f) (fun j hj => mc_9 m hj (by decide)) (D - (k + 1)) (k + 1) (cAf (C + G) (f k 3) c g) (by omega)
  unfold vaL
  omega
theorem vm_66 {Q : SG → Prop} {k c : Nat} {u : SG} (m : MC t0 C G D f) (h : MH t0 u) (hk : k < D) (hc : c ≤ C + G) (px : PXV u (C + G) D f (k + 1)) (hcont : ∀ z, pc (Rmends_43 (Rmends_R z).1 (Rmends_R z).2.1 (Rmends_R z).2.2.1 (Rmends_R z).2.2.2 (up u 70 (199 * k + c) (nI (grL (C + G) f (D - k) k c))) y1 (nI k) (nI (c + 1))) Q) : ∀ (i j z b : Nat), j + i = min (f k 1) c + 1 → b = (if j = 0 then 1000 else vaL (C + G) D f k c (j - 1)) → pc (Rmends_66 (Rmends_R z).1 (Rmends_R z).2.1 (Rmends_R z).2.2.1 (Rmends_R z).2.2.2 u y1 (nI k) (nI c) (nI b) (nI j)) Q := by
  have hD := m.2.2.2.2.1
  have hC := m.2.2.1
  have hG := m.2.2.2.1
  have d1 : RdayOf u (nI k) 1 = some (nI (f k 1)) := mc_d m h (by omega) (by decide) rfl
  have e138 : ∀ z y5, pc (Rmends_138 (Rmends_R z).1 (Rmends_R z).2.1 (Rmends_R z).2.2.1 (Rmends_R z).2.2.2 u y1 (nI k) (nI c) (nI (grL (C + G) f (D - k) k c)) y5) Q := by
    intro z y5
    unfold Rmends_138
    have ix : ((199 : Int32) * nI k) + nI c = nI (199 * k + c) := by
      show nI 199 * nI k + nI c = _
      rw [nI_mulx, nI_add]
    refine pc_wrv ix (by omega) (by decide) ?_
    cases z with
    | zero => exact fun _ e => nomatch e
    | succ z =>
      show pc (Rmends_43 (Rmends_R z).1 (Rmends_R z).2.1 (Rmends_R z).2.2.1 (Rmends_R z).2.2.2 (up u 70 (199 * k + c) (nI (grL (C + G) f (D - k) k c))) y1 (nI k) (nI c + 1)) Q
      rw [← nI_succ]
      exact hcont z
  intro i
  induction i with
  | zero =>
    intro j z b hj hb
    have eb : b = grL (C + G) f (D - k) k c := by
      rw [hb, if_neg (by omega), va_end hk hc]
      congr 1; omega
    unfold Rmends_66
    rw [d1, Option.bind_some, eb]
    refine pc_i (fun _ => e138 z _) (fun n1 => pc_i (fun _ => e138 z _) (fun n2 => ?_))
    exfalso
    have l1 : j ≤ f k 1 := Decidable.byContradiction (fun g => n1 (nI_lt2 (by omega) (by omega)))
    have l2 : j ≤ c := Decidable.byContradiction (fun g => n2 (nI_lt2 (by omega) (by omega)))
    omega
  | succ i ih =>
    intro j z b hj hb
    have j1 : j ≤ f k 1 := by omega
    have jc : j ≤ c := by omega
    have f9 := mc_9 m (j := k) (a := 1) (by omega) (by decide)
    have go : ∀ b2, b2 = vaL (C + G) D f k c j → pc ((Rmends_R z).2.2.2 u y1 (nI k) (nI c) (nI b2) (nI j + 1)) Q := by
      intro b2 h2
      cases z with
      | zero => exact fun _ e => nomatch e
      | succ z =>
        show pc (Rmends_66 (Rmends_R z).1 (Rmends_R z).2.1 (Rmends_R z).2.2.1 (Rmends_R z).2.2.2 u y1 (nI k) (nI c) (nI b2) (nI j + 1)) Q
        rw [← nI_succ]
        exact ih (j + 1) z b2 (by omega) (by rw [if_neg (by omega)]; exact h2)
    have cl := cAf_le (S := C + G) (d := f k 3) hc jc
    have ix : ((199 : Int32) * (nI k + 1)) + nI (cAf (C + G) (f k 3) c j) = nI (199 * (k + 1) + cAf (C + G) (f k 3) c j) := by
      rw [← nI_succ]
      show nI 199 * nI (k + 1) + _ = _
      rw [nI_mulx, nI_add]
    have ev : (nI (f k 1) - nI j) + nI (grL (C + G) f (D - (k + 1)) (k + 1) (cAf (C + G) (f k 3) c j)) = nI (vaL (C + G) D f k c j) := by
      rw [nI_subn j1, nI_add]; rfl
    have vl := va_le (c := c) (g := j) m hk
    unfold Rmends_66
    rw [d1, Option.bind_some, if_neg (Int32.not_lt.mpr (nI_le2 j1 (by omega))), if_neg (Int32.not_lt.mpr (nI_le2 jc (by omega))), Option.bind_some, MC_cloud m h (by omega) rfl rfl rfl hc jc, Option.bind_some, rd_nI ix (by omega) (by decide), Option.bind_some, px _ cl, ev]
    by_cases c3 : nI b ≤ nI (vaL (C + G) D f k c j)
    · rw [if_pos c3]
      refine go b ?_
      have bl : b ≤ 1000 := by
        rw [hb]
        split
        · exact Nat.le_refl _
        · exact Nat.le_trans (va_le m hk) (by decide)
      have le : b ≤ vaL (C + G) D f k c j := Decidable.byContradiction (fun g => nI_ge (by omega) (by omega) c3)
      by_cases j0 : j = 0
      · rw [if_pos j0] at hb; omega
      · rw [if_neg j0] at hb
        have := va_lip (S := C + G) (D := D) (k := k) (c := c) (g := j - 1) (f := f) hc (by omega)
        rw [show j - 1 + 1 = j by omega] at this
        omega
    · rw [if_neg c3]
      exact go _ rfl
theorem vm_43 {Q : SG → Prop} {k : Nat} (m : MC t0 C G D f) (hk : k < D) (hcont : ∀ z u, MH t0 u → (∀ k2, k ≤ k2 → k2 ≤ D → PXV u (C + G) D f k2) → pc (Rmends_37 (Rmends_R z).1 (Rmends_R z).2.1 (Rmends_R z).2.2.1 (Rmends_R z).2.2.2 u y1 (nI k + -1)) Q) : ∀ (i j z : Nat) (u : SG), j + i = C + G + 1 → MH t0 u → (∀ c, c < j → u 70 (199 * k + c) = nI (grL (C + G) f (D - k) k c)) → (∀ k2, k < k2 → k2 ≤ D → PXV u (C + G) D f k2) → pc (Rmends_43 (Rmends_R z).1 (Rmends_R z).2.1 (Rmends_R z).2.2.1 (Rmends_R z).2.2.2 u y1 (nI k) (nI j)) Q := by
  have hC := m.2.2.1
  have hG := m.2.2.2.1
  intro i
  induction i with
  | zero =>
    intro j z u hj h lo px
    unfold Rmends_43
    rw [MH_Rof h, m.1, Option.bind_some, MH_Rof h, m.2.1, Option.bind_some, nI_add, if_pos (nI_lt2 (by omega) (by omega))]
    cases z with
    | zero => exact fun _ e => nomatch e
    | succ z =>
      rw [mR37]
      refine hcont z u h (fun k2 h1 h2 => ?_)
      by_cases e : k2 = k
      · subst e; exact fun c hc => lo c (by omega)
      · exact px k2 (by omega) h2
  | succ i ih =>
    intro j z u hj h lo px
    unfold Rmends_43
    rw [MH_Rof h, m.1, Option.bind_some, MH_Rof h, m.2.1, Option.bind_some, nI_add, if_neg (Int32.not_lt.mpr (nI_le2 (show j ≤ C + G by omega) (by omega)))]
    refine vm_66 (c := j) m h hk (by omega) (px (k + 1) (by omega) (by omega)) (fun z2 => ?_) (min (f k 1) j + 1) 0 z 1000 (by omega) (by rw [if_pos rfl])
    refine ih (j + 1) z2 _ (by omega) (MH_up h) (fun c hc => ?_) (fun k2 h1 h2 c hc => ?_)
    · by_cases e : c = j
      · subst e; exact up_a
      · rw [up_bn (by omega)]; exact lo c (by omega)
    · rw [up_bn (by omega)]; exact px k2 h1 h2 c hc
theorem vm_37 (m : MC t0 C G D f) : ∀ (n z : Nat) (u : SG), n ≤ D → MH t0 u → (∀ k2, n ≤ k2 → k2 ≤ D → PXV u (C + G) D f k2) → pc (Rmends_37 (Rmends_R z).1 (Rmends_R z).2.1 (Rmends_R z).2.2.1 (Rmends_R z).2.2.2 u y1 (nI n - 1)) (fun w => MH t0 w ∧ ∀ k, k ≤ D → PXV w (C + G) D f k) := by
  have hD := m.2.2.2.2.1
  intro n
  induction n with
  | zero =>
    intro z u hn h px
    unfold Rmends_37
    rw [if_pos (by decide)]
    exact pc_s ⟨h, fun k hk => px k (by omega) hk⟩
  | succ n ih =>
    intro z u hn h px
    have e1 : nI (n + 1) - 1 = nI n := by rw [nI_succ, Int32.add_sub_cancel]
    unfold Rmends_37
    rw [e1, if_neg (nI_pos (by omega))]
    refine vm_43 (k := n) m (by omega) (fun z2 u2 h2 px2 => ?_) (C + G + 1) 0 z u (by omega) h (fun c hc => absurd hc (by omega)) px
    have e2 : nI n + -1 = nI n - 1 := by rw [Int32.sub_eq_add_neg]
    rw [e2]
    exact ih z2 u2 (by omega) h2 px2
theorem vm_7 (m : MC t0 C G D f) : ∀ (i j z : Nat) (u : SG), j + i = 199 → MH t0 u → (∀ c, c < j → u 70 (199 * D + c) = nI 0) → pc (Rmends_7 (Rmends_R z).1 (Rmends_R z).2.1 (Rmends_R z).2.2.1 (Rmends_R z).2.2.2 u (nI D) (nI j)) (fun w => MH t0 w ∧ ∀ k, k ≤ D → PXV w (C + G) D f k) := by
  have hD := m.2.2.2.2.1
  have hC := m.2.2.1
  have hG := m.2.2.2.1
  intro i
  induction i with
  | zero =>
    intro j z u hj h lo
    unfold Rmends_7
    rw [if_pos (show (199 : Int32) ≤ nI j from k_ge (m := 199) hj)]
    refine vm_37 m D z u (Nat.le_refl _) h (fun k2 h1 h2 c hc => ?_)
    have e : k2 = D := by omega
    subst e
    rw [lo c (by omega), Nat.sub_self, grL]
  | succ i ih =>
    intro j z u hj h lo
    have ix : ((199 : Int32) * nI D) + nI j = nI (199 * D + j) := by
      show nI 199 * nI D + nI j = _
      rw [nI_mulx, nI_add]
    unfold Rmends_7
    rw [if_neg (show ¬ (199 : Int32) ≤ nI j from k_lt (m := 199) hj (by decide))]
    refine pc_wrv ix (by omega) (by decide) ?_
    cases z with
    | zero => exact fun _ e => nomatch e
    | succ z =>
      show pc (Rmends_7 (Rmends_R z).1 (Rmends_R z).2.1 (Rmends_R z).2.2.1 (Rmends_R z).2.2.2 (up u 70 (199 * D + j) 0) (nI D) (nI j + 1)) _
      rw [← nI_succ]
      refine ih (j + 1) z _ (by omega) (MH_up h) (fun c hc => ?_)
      by_cases e : c = j
      · subst e; exact up_a
      · rw [up_bn (by omega)]; exact lo c (by omega)
theorem vm_all (m : MC t0 C G D f) : pc (Rmends t0) (fun w => MH t0 w ∧ ∀ k, k ≤ D → PXV w (C + G) D f k) := by
  unfold Rmends
  rw [m.2.2.2.2.2.1, Option.bind_some]
  exact vm_7 m 199 0 xF t0 rfl ⟨QI_rfl, rfl⟩ (fun c hc => absurd hc (by omega))
theorem vf_11 {u : SG} (m : MC t0 C G D f) (h : MH t0 u) (px : ∀ k, k ≤ D → PXV u (C + G) D f k) {a : Nat} (ha : a < D) : ∀ (i k z c : Nat) (y3 : Int32), k + i = a + 1 → c ≤ C + G → pc (RfallsOn_11 (RfallsOn_R z).1 (RfallsOn_R z).2 u (nI a) (nI c) y3 (nI k)) (fun v => v = if i = 0 then y3 else nI (gfL (C + G) f (D - k) k c a)) := by
  have hD := m.2.2.2.2.1
  have hC := m.2.2.1
  have hG := m.2.2.2.1
  intro i
  induction i with
  | zero =>
    intro k z c y3 hk hc
    unfold RfallsOn_11
    rw [if_pos (nI_lt2 (by omega) (by omega)), if_pos rfl]
    exact pc_s rfl
  | succ i ih =>
    intro k z c y3 hk hc
    have d1 : RdayOf u (nI k) 1 = some (nI (f k 1)) := mc_d m h (by omega) (by decide) rfl
    have f9 := mc_9 m (j := k) (a := 1) (by omega) (by decide)
    have mg : min (f k 1) c ≤ c := by omega
    have mr : min (f k 1) c ≤ f k 1 := by omega
    have cl := cAf_le (S := C + G) (d := f k 3) hc mg
    have cm := cAf_m (S := C + G) (e := f k 3) hc mg
    obtain ⟨e, he⟩ : ∃ e, D - k = e + 1 := ⟨D - k - 1, by omega⟩
    have he2 : D - (k + 1) = e := by omega
    have ix : ((199 : Int32) * (nI k + 1)) + nI (cAf (C + G) (f k 3) c (min (f k 1) c)) = nI (199 * (k + 1) + cAf (C + G) (f k 3) c (min (f k 1) c)) := by
      rw [← nI_succ]
      show nI 199 * nI (k + 1) + _ = _
      rw [nI_mulx, nI_add]
    have ix2 : ((199 : Int32) * nI k) + nI c = nI (199 * k + c) := by
      show nI 199 * nI k + nI c = _
      rw [nI_mulx, nI_add]
    have ev : (nI (f k 1) - nI (min (f k 1) c)) + nI (grL (C + G) f (D - (k + 1)) (k + 1) (cAf (C + G) (f k 3) c (min (f k 1) c))) = nI (vaL (C + G) D f k c (min (f k 1) c)) := by
      rw [nI_subn mr, nI_add]; rfl
    have e40 : pc (RfallsOn_40 (RfallsOn_R z).1 (RfallsOn_R z).2 u (nI a) (nI c) (nI (min (f k 1) c)) (nI k)) (fun v => v = if i + 1 = 0 then y3 else nI (gfL (C + G) f (D - k) k c a)) := by
      unfold RfallsOn_40
      rw [d1, Option.bind_some, MC_cloud m h (by omega) rfl rfl rfl hc mg, Option.bind_some, rd_nI ix (by omega) (by decide), Option.bind_some, rd_nI ix2 (by omega) (by decide), Option.bind_some, px (k + 1) (by omega) _ cl, px k (by omega) c hc, ev, va_end (by omega) hc, if_pos (Int32.le_refl _), Option.bind_some]
      cases z with
      | zero => exact fun _ e => nomatch e
      | succ z =>
        show pc (RfallsOn_11 (RfallsOn_R z).1 (RfallsOn_R z).2 u (nI a) (nI (cAf (C + G) (f k 3) c (min (f k 1) c))) (nI (min (f k 1) c)) (nI k + 1)) _
        rw [← nI_succ]
        refine pc_w (ih (k + 1) z _ (nI (min (f k 1) c)) (by omega) cl) (fun v hv => hv.trans ?_)
        rw [if_neg (show ¬ i + 1 = 0 by omega), he, he2, gfL, cm]
        by_cases i0 : i = 0
        · rw [if_pos i0, if_pos (show a = k by omega)]
        · rw [if_neg i0, if_neg (show ¬ a = k by omega)]
    unfold RfallsOn_11
    rw [if_neg (Int32.not_lt.mpr (nI_le2 (show k ≤ a by omega) (by omega))), d1, Option.bind_some]
    by_cases g : c ≤ f k 1
    · rw [if_pos (nI_le2 g (by omega))]
      rw [show min (f k 1) c = c by omega] at e40
      exact e40
    · rw [if_neg (nI_ge (by omega) (by omega)), Option.bind_some]
      rw [show min (f k 1) c = f k 1 by omega] at e40
      exact e40
end VM
section CNX
variable {w s v v0 : SG} {S D : Nat} {f : Nat → Nat → Nat} {c0 H : Int32}
/-- the class's sky between two days -/
def CX (w s : SG) (S c : Nat) (H : Int32) : Prop := (∀ k, k < 42 → s k = w k) ∧ (s 60 0 = nI c ∧ s 60 1 = nI (S - c) ∧ s 60 2 = H) ∧ c ≤ S ∧ S ≤ 198
/-- the class's row of a summer -/
def DX (w : SG) (q D : Nat) (f : Nat → Nat → Nat) : Prop := q + 2 ≤ 42 ∧ rz w q = D ∧ D ≤ 8 ∧ w q 0 = nI D ∧ (∀ j a, j < D → a < 4 → parI w q (nI j) (nI a) = nI (f j a)) ∧ ∀ j, j < 8 → ∀ a, a < 4 → f j a ≤ 9
theorem num_x (a b c : Nat) : numI (nI a) (nI b) (nI c) = nI (100 * a + 10 * b + c) := by
  unfold numI
  show (nI a * nI 10 + nI b) * nI 10 + nI c = _
  rw [nI_mulx, nI_add, nI_mulx, nI_add]; congr 1; omega
theorem amt_x {a b c : Nat} (ha : a ≤ 9) (hb : b ≤ 9) (hc : c ≤ 9) : amtI (nI (100 * a + 10 * b + c)) 0 = nI a ∧ amtI (nI (100 * a + 10 * b + c)) 1 = nI b ∧ amtI (nI (100 * a + 10 * b + c)) 2 = nI c := by
  obtain ⟨a0, a1, a2⟩ := amt_n (100 * a + 10 * b + c) (by omega)
  rw [a0, a1, a2]
  exact ⟨by congr 1; omega, by congr 1; omega, by congr 1; omega⟩
theorem daf_n {j : Nat} (dx : DX w q D f) (lo : ∀ k, k < 42 → s k = w k) (hj : j < D) : dafI s q (nI j) 1 = nI (100 * f j 1 + 10 * f j 2 + f j 3) := by
  obtain ⟨h1, _, _, _, h4, _⟩ := dx
  have p : ∀ x, parI s q (nI j) x = parI w q (nI j) x := by
    intro x
    unfold parI
    rw [lo (q + 1) (by omega)]
  unfold dafI
  rw [show (1 : Int32) + 1 = nI 2 by decide, show (1 : Int32) + 2 = nI 3 by decide, show (1 : Int32) = nI 1 by decide, p, p, p, h4 j 1 hj (by decide), h4 j 2 hj (by decide), h4 j 3 hj (by decide), num_x]
theorem ifmin {x y : Nat} (hx : x < 2 ^ 31) (hy : y < 2 ^ 31) : (if nI x < nI y then nI x else nI y) = nI (min y x) := by
  by_cases c : x < y
  · rw [if_pos (nI_lt2 c hy), show min y x = x by omega]
  · rw [if_neg (Int32.not_lt.mpr (nI_le2 (by omega) hx)), show min y x = y by omega]
theorem add_sub_r (A x y : Int32) : (A + x) - y = A + (x - y) := by rw [Int32.sub_eq_add_neg, Int32.sub_eq_add_neg, Int32.add_assoc]
theorem sub_add_r (A x y : Int32) : (A - x) + y = A + (y - x) := by rw [Int32.sub_eq_add_neg, Int32.sub_eq_add_neg, Int32.add_assoc, Int32.add_comm (-x) y]
theorem ille {A b : Int32} : (if A ≤ b then A else b) = (if A < b then A else b) := by
  by_cases h : A < b
  · rw [if_pos (Int32.le_of_lt h), if_pos h]
  · rw [if_neg h]
    by_cases h2 : A ≤ b
    · rw [if_pos h2]; exact Int32.le_antisymm h2 (Int32.not_lt.mp h)
    · rw [if_neg h2]
theorem bri_x {c g a b : Nat} (cx : CX w s S c H) (hg : g ≤ c) (g9 : g ≤ 9) (ha : a ≤ 9) (hb : b ≤ 9) : CX w (briS0 s (nI (100 * g + 10 * a + b))) S (min S (c - g + b)) (H + (nI b - nI a)) := by
  obtain ⟨h1, ⟨h2, h3, h4⟩, h5, h6⟩ := cx
  obtain ⟨x0, x1, x2⟩ := amt_x g9 ha hb
  have U : (if nI (S - c) + nI g < nI b then nI (S - c) + nI g else nI b) = nI (min b (S - c + g)) := by
    rw [nI_add]; exact ifmin (by omega) (by omega)
  refine ⟨fun k hk => (briS0_lo (Or.inl hk)).trans (h1 k hk), ⟨?_, ?_, ?_⟩, by omega, h6⟩
  · unfold briS0
    rw [up_bn (by decide), up_bn (by decide), up_a, x0, x2, h2, h3, U, add_subn hg]
    congr 1; omega
  · unfold briS0
    rw [up_bn (by decide), up_a, x0, x2, h3, U, nI_add, nI_subn (by omega)]
    congr 1; omega
  · unfold briS0
    rw [up_a, x1, x2, h4]
theorem bri_61 {day : Int32} : briS0 s day 61 = s 61 := by
  unfold briS0
  rw [up_n (by decide), up_n (by decide), up_n (by decide)]
/-- the heat of all days is right -/
def hotB (f : Nat → Nat → Nat) : Nat → Nat → Int32 → Bool
  | 0, _, _ => true
  | i + 1, j, H => if inI (H + (nI (f j 3) - nI (f j 2))) 0 99 = 0 then false else hotB f i (j + 1) (H + (nI (f j 3) - nI (f j 2)))
theorem can_x {c g a b : Nat} (cx : CX w s S c H) (hg : g ≤ c) (g9 : g ≤ 9) (ha : a ≤ 9) (hb : b ≤ 9) : canI0 s (nI (100 * g + 10 * a + b)) = if inI (H + (nI b - nI a)) 0 99 = 0 then 0 else 1 := by
  obtain ⟨h1, ⟨h2, h3, h4⟩, h5, h6⟩ := cx
  obtain ⟨x0, x1, x2⟩ := amt_x g9 ha hb
  unfold canI0
  rw [← can_l, x0, x1, x2, h2, h4, if_neg (Int32.not_lt.mpr (nI_le2 hg (by omega))), add_sub_r]
theorem men_v (dx : DX w q D f) : ∀ (i j c : Nat) (H : Int32) (s : SG) (Y : Nat), CX w s S c H → j + i = D → (hotB f i j H = false → (menPL q i j s (nI Y)).1 = -1) ∧ (hotB f i j H = true → (menPL q i j s (nI Y)).1 = nI (Y + grL S f i j c) ∧ ∀ a, a < D → (menPL q i j s (nI Y)).2 61 a = if a < j then s 61 a else nI (gfL S f i j c a)) := by
  have dx' := dx
  obtain ⟨hq, _, hD, _, h4, h9⟩ := dx'
  intro i
  induction i with
  | zero =>
    intro j c H s Y cx hj
    rw [hotB, menPL, grL]
    exact ⟨fun e => (nomatch e), fun _ => ⟨rfl, fun a ha => by rw [if_pos (by omega)]⟩⟩
  | succ i ih =>
    intro j c H s Y cx hj
    have j8 : j < 8 := by omega
    have f1 := h9 j j8 1 (by decide)
    have f2 := h9 j j8 2 (by decide)
    have f3 := h9 j j8 3 (by decide)
    have g9 : min (f j 1) c ≤ 9 := by omega
    have gc : min (f j 1) c ≤ c := by omega
    have gr : min (f j 1) c ≤ f j 1 := by omega
    have hS := cx.2.2
    obtain ⟨x0, x1, x2⟩ := amt_x f1 f2 f3
    have cn := can_x cx gc g9 f2 f3
    rw [menPL, daf_n dx cx.1 (by omega), x0, x1, x2, cx.2.1.1, ifmin (by omega) (by omega), num_x, cn, hotB, grL]
    by_cases g : inI (H + (nI (f j 3) - nI (f j 2))) 0 99 = 0
    · have ec : (if inI (H + (nI (f j 3) - nI (f j 2))) 0 99 = 0 then (0 : Int32) else 1) = 0 := if_pos g
      rw [if_pos ec, if_pos g]
      exact ⟨fun _ => rfl, fun e => (nomatch e)⟩
    have ec : ¬ (if inI (H + (nI (f j 3) - nI (f j 2))) 0 99 = 0 then (0 : Int32) else 1) = 0 := by rw [if_neg g]; decide
    rw [if_neg ec, if_neg g, pt_e (by omega) (by decide), nI_subn gr, nI_add]
    have b := bri_x cx gc g9 f2 f3
    have cx2 : CX w (up (briS0 s (nI (100 * min (f j 1) c + 10 * f j 2 + f j 3))) 61 j (nI (min (f j 1) c))) S (min S (c - min (f j 1) c + f j 3)) (H + (nI (f j 3) - nI (f j 2))) := by
      obtain ⟨b1, b2, b3⟩ := b
      exact ⟨fun k hk => by rw [up_n (by omega)]; exact b1 k hk, by rw [up_n (by decide)]; exact b2, b3⟩
    obtain ⟨r1, r2⟩ := ih (j + 1) _ _ _ (Y + (f j 1 - min (f j 1) c)) cx2 (by omega)
    refine ⟨r1, fun e => ?_⟩
    obtain ⟨r3, r4⟩ := r2 e
    refine ⟨by rw [r3, Nat.add_assoc], fun a ha => ?_⟩
    rw [r4 a ha, gfL]
    by_cases c1 : a = j
    · rw [if_pos (show a < j + 1 by omega), if_neg (show ¬ a < j by omega), if_pos c1, c1, up_a]
    · by_cases c2 : a < j
      · rw [if_pos (show a < j + 1 by omega), if_pos c2, up_bn c1, bri_61]
      · rw [if_neg (show ¬ a < j + 1 by omega), if_neg c2, if_neg c1]
theorem num_of {j : Nat} (e30 : v 64 30 = v0 64 30) (e65 : v 65 = v0 65) (ef : ∀ j a, j < D → a < 4 → RdayOf v0 (nI j) (nI a) = some (nI (f j a))) (hj : j < D) : RnumberOf v (nI j) = some (nI (100 * f j 1 + 10 * f j 2 + f j 3)) := by
  have e : ∀ x y, RdayOf v x y = RdayOf v0 x y := by
    intro x y
    unfold RdayOf rdI
    rw [e30, e65]
  have e1 : RdayOf v (nI j) 1 = some (nI (f j 1)) := (e _ _).trans (ef j 1 hj (by decide))
  have e2 : RdayOf v (nI j) 2 = some (nI (f j 2)) := (e _ _).trans (ef j 2 hj (by decide))
  have e3 : RdayOf v (nI j) 3 = some (nI (f j 3)) := (e _ _).trans (ef j 3 hj (by decide))
  unfold RnumberOf
  rw [e1, Option.bind_some, e2, Option.bind_some, e3, Option.bind_some]
  show some ((nI 100 * nI (f j 1) + nI 10 * nI (f j 2)) + nI (f j 3)) = _
  rw [nI_mulx, nI_mulx, nI_add, nI_add]
theorem wr_2 (dx : DX w q D f) (hd : RsummerDays v0 = some (nI D)) (ef : ∀ j a, j < D → a < 4 → RdayOf v0 (nI j) (nI a) = some (nI (f j a))) : ∀ (i j z : Nat) (s v : SG), (∀ k, k < 42 → s k = w k) → v 64 30 = v0 64 30 → v 65 = v0 65 → (v 64 20 = s 60 0 ∧ v 64 21 = s 60 1 ∧ v 64 22 = s 60 2) → j + i = D → pc (RwrongDay_2 (RwrongDay_R z) v (nI j)) (fun p => p.1 = (fiwPL q i j s).1) := by
  have hD := dx.2.2.1
  intro i
  induction i with
  | zero =>
    intro j z s v lo e30 e65 sk hj
    have hd2 : RsummerDays v = some (nI D) := by
      unfold RsummerDays rdI at *
      rw [e30, e65]; exact hd
    unfold RwrongDay_2
    rw [hd2, Option.bind_some, if_pos (k_ge hj), fiwPL]
    exact pc_s rfl
  | succ i ih =>
    intro j z s v lo e30 e65 sk hj
    have hd2 : RsummerDays v = some (nI D) := by
      unfold RsummerDays rdI at *
      rw [e30, e65]; exact hd
    have j8 : j < 8 := by omega
    obtain ⟨t12, t13, t14⟩ := talks_12 (u := v) (x := nI (100 * f j 1 + 10 * f j 2 + f j 3))
    have cn : RcanNature (RtalksOf v (nI (100 * f j 1 + 10 * f j 2 + f j 3))) = canI0 s (nI (100 * f j 1 + 10 * f j 2 + f j 3)) := by
      unfold RcanNature canI0
      rw [t12, t13, t14, talks_64 (j := 20) (by omega), talks_64 (j := 22) (by omega), sk.1, sk.2.2]
      exact can_l
    unfold RwrongDay_2
    rw [hd2, Option.bind_some, if_neg (k_lt hj (by omega)), num_of e30 e65 ef (by omega), Option.bind_some, cn, fiwPL, daf_n dx lo (by omega)]
    by_cases g : canI0 s (nI (100 * f j 1 + 10 * f j 2 + f j 3)) = 0
    · rw [if_pos g, if_pos g]; exact pc_s rfl
    rw [if_neg g, if_neg g]
    cases z with
    | zero => exact fun _ e => nomatch e
    | succ z =>
      show pc (RwrongDay_2 (RwrongDay_R z) (Rgoes (RtalksOf v (nI (100 * f j 1 + 10 * f j 2 + f j 3)))) (nI j + 1)) _
      rw [← nI_succ]
      obtain ⟨g1, g2, g20, g21, g22, _⟩ := goes_f (v := RtalksOf v (nI (100 * f j 1 + 10 * f j 2 + f j 3)))
      refine ih (j + 1) z _ _ (fun k hk => (briS0_lo (Or.inl hk)).trans (lo k hk)) ?_ ?_ ⟨?_, ?_, ?_⟩ (by omega)
      · rw [g2 30 (by omega), talks_64 (by omega)]; exact e30
      · rw [g1 65 (by decide), talks_c (by decide)]; exact e65
      · rw [g20, t12, t14, talks_64 (j := 20) (by omega), talks_64 (j := 21) (by omega), sk.1, sk.2.1, ille, sub_add_r]
        unfold briS0
        rw [up_bn (by decide), up_bn (by decide), up_a]
      · rw [g21, t12, t14, talks_64 (j := 21) (by omega), sk.2.1, ille]
        unfold briS0
        rw [up_bn (by decide), up_a]
      · rw [g22, t13, t14, talks_64 (j := 22) (by omega), sk.2.2]
        unfold briS0
        rw [up_a]
theorem heat_10 (hd : RsummerDays v = some (nI D)) (hD : D ≤ 8) (ef : ∀ j a, j < D → a < 4 → RdayOf v (nI j) (nI a) = some (nI (f j a))) : ∀ (i j z : Nat) (y1 y2 : Int32), (y2 = 0 ∨ y2 = 1) → j + i = D → pc (RisHeatRight_10 (RisHeatRight_R z) v y1 y2 (nI j)) (fun x => x = 0 ↔ (y2 = 0 ∨ hotB f i j y1 = false)) := by
  intro i
  induction i with
  | zero =>
    intro j z y1 y2 hy hj
    have e4 : xrt 4 y2 = true := by rcases hy with g | g <;> rw [g] <;> rfl
    unfold RisHeatRight_10
    rw [hd, Option.bind_some, if_pos (k_ge hj), e4, hotB]
    exact pc_s ⟨fun g => Or.inl g, fun g => g.resolve_right (fun e => nomatch e)⟩
  | succ i ih =>
    intro j z y1 y2 hy hj
    have go : ∀ (x : Int32) (Q : Int32 → Prop), (x = 0 ∨ x = 1) → (∀ p, (p = 0 ↔ (x = 0 ∨ hotB f i (j + 1) (y1 + (nI (f j 3) - nI (f j 2))) = false)) → Q p) → pc (RisHeatRight_R z v (y1 + (nI (f j 3) - nI (f j 2))) x (nI j + 1)) Q := by
      intro x Q hx hq
      cases z with
      | zero => exact fun _ e => nomatch e
      | succ z =>
        show pc (RisHeatRight_10 (RisHeatRight_R z) v (y1 + (nI (f j 3) - nI (f j 2))) x (nI j + 1)) Q
        rw [← nI_succ]
        exact pc_w (ih (j + 1) z _ x hx (by omega)) hq
    have e3 : RdayOf v (nI j) 3 = some (nI (f j 3)) := ef j 3 (by omega) (by decide)
    have e2 : RdayOf v (nI j) 2 = some (nI (f j 2)) := ef j 2 (by omega) (by decide)
    unfold RisHeatRight_10
    rw [hd, Option.bind_some, if_neg (k_lt hj (by omega)), e3, Option.bind_some, e2, Option.bind_some, hotB]
    rcases hy with hy | hy
    · rw [if_pos hy]
      exact go 0 _ (Or.inl rfl) (fun p hp => ⟨fun _ => Or.inl hy, fun _ => hp.2 (Or.inl rfl)⟩)
    have y0 : ¬ y2 = 0 := by rw [hy]; decide
    rw [if_neg y0]
    by_cases g : inI (y1 + (nI (f j 3) - nI (f j 2))) 0 99 = 0
    · rw [if_pos g, if_pos g]
      exact go 0 _ (Or.inl rfl) (fun p hp => ⟨fun _ => Or.inr rfl, fun _ => hp.2 (Or.inl rfl)⟩)
    · rw [if_neg g, if_neg g]
      exact go 1 _ (Or.inr rfl) (fun p hp => ⟨fun e => Or.inr ((hp.1 e).resolve_left (by decide)), fun e => hp.2 (Or.inr (e.resolve_left y0))⟩)
end CNX
/-- a day that nature's answer may be asked of -/
theorem day_ask {x : Int32} {D : Nat} (hD : D ≤ 8) (h : ¬ inI x 10 (nI (9 + D)) = 0) : ∃ a, a < D ∧ x = nI (10 + a) := by
  by_cases c : D = 0
  · subst c
    exfalso
    apply h
    unfold inI
    by_cases c1 : x < 10
    · rw [if_pos c1]
    · rw [if_neg c1, if_pos (Int32.lt_of_lt_of_le (show nI (9 + 0) < 10 by decide) (Int32.not_lt.mp c1))]
  · obtain ⟨i, e, hi⟩ := between (lo := 10) (hi := 9 + D) (by omega) h (by omega)
    exact ⟨i, by omega, e⟩
theorem day_not {x : Int32} {D : Nat} (hD : D ≤ 8) (h : inI x 10 (nI (9 + D)) = 0) : x < 10 ∨ nI D ≤ x - 10 := by
  by_cases c1 : x < 10
  · exact Or.inl c1
  refine Or.inr ?_
  have g := Int32.not_lt.mp c1
  have x0 : ¬ x < 0 := fun e => c1 (Int32.lt_of_lt_of_le e (by decide))
  have e := Int32.ofNat_toNatClampNeg x (Int32.not_lt.mp x0)
  have e2 := Int32.cast_toNatClampNeg x (Int32.not_lt.mp x0)
  have hx : x.toNatClampNeg < 2 ^ 31 := by
    have := Int32.toInt_lt x
    omega
  have e1 : x = nI x.toNatClampNeg := e.symm
  generalize x.toNatClampNeg = N at *
  have n10 : 10 ≤ N := by
    rw [e1] at g
    exact Decidable.byContradiction (fun q => nI_ge (a := N) (b := 10) (by omega) (by decide) g)
  rw [e1] at h
  unfold inI at h
  rw [if_neg (by rw [← e1]; exact c1)] at h
  by_cases c2 : nI (9 + D) < nI N
  · have l : 9 + D < N := Decidable.byContradiction (fun q => (Int32.not_lt.mpr (nI_le2 (by omega) (by omega))) c2)
    rw [e1]
    show nI D ≤ nI N - nI 10
    rw [nI_subn n10]
    exact nI_le2 (by omega) (by omega)
  · rw [if_neg c2] at h
    exact absurd h (by decide)
theorem NA_fin {s s1 : SG} {x1 x2 x3 : Int32} {p : Int32 × SG} (hn : SIMn s) (rr : RI s1) (lo : ∀ c, (c < 42 ∨ 64 ≤ c) → s1 c = s c) (e2 : Rnature s1 x1 x2 x3 = some p) : (repO s x1 = none → p.1 = -2) ∧ ∀ r, repO s x1 = some r → (rowO s 4 x2 = none → p.1 = -2) ∧ ∀ q, rowO s 4 x2 = some q → p.1 = (natPc s r q x3).1 := by
  have lo1 : ∀ c, c < 42 → s1 c = s c := fun c hc => lo c (Or.inl hc)
  have q65 : s1 65 = s 65 := lo 65 (by omega)
  have hn1 := SIMn_g hn lo1 q65
  obtain ⟨n0, en, hn2⟩ := rr.1.1 0 (by omega)
  obtain ⟨n4, en4, hn4⟩ := rr.1.1 4 (by omega)
  unfold Rnature at e2
  rcases rep_sel (x := x1) hn1 en hn2 with ⟨z, e⟩ | ⟨j, hj, hjn, ex, z, e⟩
  · rw [repO_g lo1] at e
    rw [isRep_n z, Option.bind_some, if_pos rfl] at e2
    refine ⟨fun _ => by cases e2; rfl, fun r er => ?_⟩
    rw [e] at er; cases er
  rw [repO_g lo1] at e
  refine ⟨fun g => by (rw [e] at g; cases g), fun r er => ?_⟩
  rw [e] at er
  obtain rfl : 6 + 8 * j = r := Option.some.inj er
  obtain ⟨u, eu, u1, u65, u11, u18, u20, u21, u22⟩ := isRep_v hj ex z
  have g0 := rep_q hn1 hj en hn2 hjn
  have rb := RB_of g0
  obtain ⟨n, V, rq⟩ := RQ_of (v := up s1 64 11 (nI (610 + 118 * j))) (o := 610 + 118 * j) (s := s1) (r := 6 + 8 * j) (by rw [up_n (by decide)]; exact g0) up_a (by omega)
  have cel : ∀ i, i < 5 → s (6 + 8 * j) (9 + i) = s1 65 (610 + 118 * j + (1 + i)) := by
    intro i hi
    have := rq.2.2.2.1 i hi
    rw [up_n (by decide)] at this
    rw [← this, lo1 _ (by omega)]
  have iw : iofN u.2 4 x2 = iofN s1 4 x2 := by unfold iofN; rw [u65]
  have sm : RisSummer u.2 x2 = if iofN s1 4 x2 = 0 then some (0, u.2) else some (1, up u.2 64 30 (RplaceOf 4 x2)) := by
    unfold RisSummer
    rw [q_isOf (x := 4) (a := 4) rfl (by decide), iw, Option.bind_some]
  rw [eu, Option.bind_some, if_neg (show ¬ u.1 = 0 by rw [u1]; decide), sm] at e2
  rcases row_sel (k := 3) (x := x2) hn1 (by omega) en4 hn4 with ⟨z4, e4⟩ | ⟨g, hg, hgn, ex4, z4, e4⟩
  · have e4 : rowO s 4 x2 = none := (rowO_g lo1).symm.trans e4
    rw [if_pos z4, Option.bind_some, if_pos rfl] at e2
    refine ⟨fun _ => by cases e2; rfl, fun q eq => ?_⟩
    rw [e4] at eq; cases eq
  have e4 : rowO s 4 x2 = some (22 + 2 * (3 * 2 + g)) := (rowO_g lo1).symm.trans e4
  refine ⟨fun gg => by (rw [e4] at gg; cases gg), fun q eq => ?_⟩
  rw [e4] at eq
  obtain rfl : 22 + 2 * (3 * 2 + g) = q := Option.some.inj eq
  rw [if_neg z4, ex4, place4, Option.bind_some, if_neg (show ¬ (1 : Int32) = 0 by decide)] at e2
  have w65 : up u.2 64 30 (nI (1364 + 33 * g)) 65 = s1 65 := by rw [up_n (by decide)]; exact u65
  have w30 : up u.2 64 30 (nI (1364 + 33 * g)) 64 30 = nI (1364 + 33 * g) := up_a
  have w11 : up u.2 64 30 (nI (1364 + 33 * g)) 64 11 = nI (610 + 118 * j) := by rw [up_bn (by decide)]; exact u11
  have w20 : up u.2 64 30 (nI (1364 + 33 * g)) 64 20 = s (6 + 8 * j) 11 := by rw [up_bn (by decide), u20]; exact (cel 2 (by omega)).symm
  have w21 : up u.2 64 30 (nI (1364 + 33 * g)) 64 21 = s (6 + 8 * j) 12 := by rw [up_bn (by decide), u21]; exact (cel 3 (by omega)).symm
  have w22 : up u.2 64 30 (nI (1364 + 33 * g)) 64 22 = s (6 + 8 * j) 13 := by rw [up_bn (by decide), u22]; exact (cel 4 (by omega)).symm
  generalize up u.2 64 30 (nI (1364 + 33 * g)) = w at *
  obtain ⟨D, f, hD, eD, ef⟩ := summer_n (t := w) (k := g) (RI_65 w65 rr) hg w30
  have wq : WEQ 4 8 (fun e j2 => s1 (22 + 2 * (3 * 2 + g) + e) j2) (fun j2 => s1 65 (1364 + 33 * g + j2)) := by
    have g' : ∀ e, 1 + (CPK 4 g + e) = 22 + 2 * (3 * 2 + g) + e := fun e => by
      show 1 + (21 + 2 * (3 * 2 + g) + e) = _
      omega
    have w : WEQ 4 8 (fun e j2 => s1 (1 + (CPK 4 g + e)) j2) (fun j2 => s1 65 (1364 + 33 * g + j2)) := hn1.2.2.2 4 g n4 (by omega) hg en4 hn4 hgn
    simp only [g'] at w
    exact w
  obtain ⟨l, hl, g1, g3, g4, _⟩ := wq
  have g1 : s1 (22 + 2 * (3 * 2 + g)) 0 = nI l := g1
  have g3 : s1 65 (1364 + 33 * g) = nI l := g3
  have lD : l = D := by
    have e := eD
    unfold RsummerDays at e
    rw [w30, rd_nI (e := 1364 + 33 * g) rfl (by omega) (by decide), Option.bind_some, w65, g3] at e
    exact nI_inj (by omega) (by omega) (Option.some.inj e)
  subst lD
  have ef2 : ∀ j2 a, j2 < l → a < 4 → RdayOf w (nI j2) (nI a) = some (nI (f j2 a)) := fun j2 a h1 h2 => (ef j2 (by omega)).2.2 a _ _ h2 rfl rfl
  have dx : DX s (22 + 2 * (3 * 2 + g)) l f := by
    refine ⟨by omega, ?_, hD, by rw [← lo1 _ (by omega)]; exact g1, fun j2 a h1 h2 => ?_, fun j2 h1 a h2 => (ef j2 h1).2.1 a h2⟩
    · unfold rz
      rw [← lo1 _ (by omega), g1, nI_clamp (by omega)]
    · have i : parI s (22 + 2 * (3 * 2 + g)) (nI j2) (nI a) = s1 (22 + 2 * (3 * 2 + g) + 1) (5 * j2 + a) := by
        unfold parI
        rw [show nI j2 * 5 + nI a = nI (5 * j2 + a) by
          show nI j2 * nI 5 + nI a = _
          rw [nI_mulx, nI_add, Nat.mul_comm], lo1 _ (by omega)]
        exact cl_nI (by omega) (by decide)
      have e := ef2 j2 a h1 h2
      have ix : ((nI (1364 + 33 * g) + 1) + (4 * nI j2)) + nI a = nI (1364 + 33 * g + (1 + 4 * j2 + a)) := by
        show ((nI (1364 + 33 * g) + nI 1) + (nI 4 * nI j2)) + nI a = _
        rw [nI_mulx, nI_add, nI_add, nI_add]; congr 1; omega
      unfold RdayOf at e
      rw [w30, ix, rd_nI (e := 1364 + 33 * g + (1 + 4 * j2 + a)) rfl (by omega) (by decide), Option.bind_some, w65] at e
      rw [i, ← Option.some.inj e]
      exact g4 j2 a h1 h2
  obtain ⟨C, eC, hC⟩ := rb.1 2 (by omega)
  obtain ⟨G, eG, hG⟩ := rb.1 3 (by omega)
  have sC : s (6 + 8 * j) 11 = nI C := (cel 2 (by omega)).trans eC
  have sG : s (6 + 8 * j) 12 = nI G := (cel 3 (by omega)).trans eG
  have m : MC w C G l f := by
    refine ⟨?_, ?_, hC, hG, hD, eD, ef⟩
    · rw [rof_v w11 (show (3 : Int32) = nI 3 from rfl) (by omega), w65]; exact congrArg some eC
    · rw [rof_v w11 (show (4 : Int32) = nI 4 from rfl) (by omega), w65]; exact congrArg some eG
  have cx : CX s (setS0 s (6 + 8 * j)) (C + G) C (s (6 + 8 * j) 13) := by
    refine ⟨fun k hk => set_lo hk, ⟨?_, ?_, ?_⟩, by omega, by omega⟩
    · unfold setS0; rw [up_bn (by decide), up_bn (by decide), up_a]; exact sC
    · unfold setS0; rw [up_bn (by decide), up_a, sG]; congr 1; omega
    · unfold setS0; rw [up_a]
  have rzl : rz s (22 + 2 * (3 * 2 + g)) = l := dx.2.1
  have mv := men_v dx l 0 C (s (6 + 8 * j) 13) (setS0 s (6 + 8 * j)) 0 cx (by omega)
  have emen : menP s (6 + 8 * j) (22 + 2 * (3 * 2 + g)) = menPL (22 + 2 * (3 * 2 + g)) l 0 (setS0 s (6 + 8 * j)) (nI 0) := by
    unfold menP
    rw [rzl]; rfl
  rw [← emen] at mv
  unfold natPc
  by_cases c0 : x3 = 0
  · rw [if_pos c0] at e2 ⊢
    unfold RwrongDay at e2
    have k : pc ((RwrongDay_2 (RwrongDay_R xF) w (nI 0)).bind fun p3 => some (p3.1, p3.2)) (fun x => x.1 = (fiwPL (22 + 2 * (3 * 2 + g)) l 0 (setS0 s (6 + 8 * j))).1) := by
      refine pc_b (wr_2 dx eD ef2 l 0 xF (setS0 s (6 + 8 * j)) w (fun k hk => set_lo hk) rfl rfl ⟨?_, ?_, ?_⟩ (by omega)) (fun x hx => pc_s hx)
      · rw [w20]; unfold setS0; rw [up_bn (by decide), up_bn (by decide), up_a]
      · rw [w21]; unfold setS0; rw [up_bn (by decide), up_a]
      · rw [w22]; unfold setS0; rw [up_a]
    have := k p e2
    rw [this]
    unfold fiwP
    rw [rzl]
  rw [if_neg c0] at e2 ⊢
  have hr : pc (RisHeatRight w) (fun x => x = 0 ↔ hotB f l 0 (s (6 + 8 * j) 13) = false) := by
    unfold RisHeatRight
    rw [rof_v w11 (show (5 : Int32) = nI 5 from rfl) (by omega), Option.bind_some, w65, show s1 65 (610 + 118 * j + 5) = s (6 + 8 * j) 13 from (cel 4 (by omega)).symm]
    exact pc_w (heat_10 eD hD ef2 l 0 xF (s (6 + 8 * j) 13) 1 (Or.inr rfl) (by omega)) (fun x hx => ⟨fun e => (hx.1 e).resolve_left (by decide), fun e => hx.2 (Or.inr e)⟩)
  have e75 : hotB f l 0 (s (6 + 8 * j) 13) = true → ∀ y4, (x3 = 1 ∨ ∃ a, a < l ∧ x3 = nI (10 + a)) → pc (Rnature_75 w x1 x2 x3 y4) (fun x => x.1 = if x3 = 1 then (menP s (6 + 8 * j) (22 + 2 * (3 * 2 + g))).1 else cl 40 ((menP s (6 + 8 * j) (22 + 2 * (3 * 2 + g))).2 61) (x3 - 10)) := by
    intro hot y4 hx
    obtain ⟨m1, m2⟩ := mv.2 hot
    unfold Rnature_75
    refine pc_b (vm_all m) (fun u hu => ?_)
    by_cases c1 : x3 = 1
    · rw [if_pos c1, if_pos c1, MH_Rof hu.1, m.1, Option.bind_some, rd_nI (e := C) rfl (by omega) (by decide), Option.bind_some]
      refine pc_s ?_
      have k := hu.2 0 (Nat.zero_le _) C (by omega)
      rw [Nat.mul_zero, Nat.zero_add] at k
      rw [m1, Nat.zero_add]; exact k
    · obtain ⟨a, ha, ea⟩ := hx.resolve_left c1
      have e10 : x3 - 10 = nI a := by rw [ea]; exact nI_subl (a := 10)
      rw [if_neg c1, if_neg c1, e10]
      unfold RfallsOn
      rw [MH_Rof hu.1, m.1, Option.bind_some, cl_nI (by omega) (by decide), m2 a ha, if_neg (by omega)]
      refine pc_b (vf_11 m hu.1 hu.2 ha (a + 1) 0 xF C 0 (by omega) (by omega)) (fun x hx => pc_s ?_)
      rw [if_neg (by omega)] at hx
      exact hx
  have e46 : ¬ x3 = 1 ∨ hotB f l 0 (s (6 + 8 * j) 13) = true → ∀ y4, (y4 = 0 ↔ hotB f l 0 (s (6 + 8 * j) 13) = false) → pc (Rnature_46 w x1 x2 x3 y4) (fun x => x.1 = (if x3 = 1 then ((menP s (6 + 8 * j) (22 + 2 * (3 * 2 + g))).1, (menP s (6 + 8 * j) (22 + 2 * (3 * 2 + g))).2) else if x3 < 10 then (-2, (menP s (6 + 8 * j) (22 + 2 * (3 * 2 + g))).2) else if (((menP s (6 + 8 * j) (22 + 2 * (3 * 2 + g))).2) (22 + 2 * (3 * 2 + g)) 0) ≤ (x3 - 10) then (-2, (menP s (6 + 8 * j) (22 + 2 * (3 * 2 + g))).2) else if ((menP s (6 + 8 * j) (22 + 2 * (3 * 2 + g))).1) = (-1) then (-2, (menP s (6 + 8 * j) (22 + 2 * (3 * 2 + g))).2) else (cl 40 (((menP s (6 + 8 * j) (22 + 2 * (3 * 2 + g))).2) 61) (x3 - 10), (menP s (6 + 8 * j) (22 + 2 * (3 * 2 + g))).2)).1) := by
    intro hh y4 hy
    unfold Rnature_46
    by_cases c1 : x3 = 1
    · have hot := hh.resolve_left (fun e => e c1)
      rw [if_pos c1, if_pos c1]
      refine pc_w (e75 hot y4 (Or.inl c1)) (fun x hx => ?_)
      rw [if_pos c1] at hx
      exact hx
    rw [if_neg c1, if_neg c1]
    have z0 : (menP s (6 + 8 * j) (22 + 2 * (3 * 2 + g))).2 (22 + 2 * (3 * 2 + g)) 0 = nI l := by
      rw [menP_lo (Or.inl (by omega))]; exact dx.2.2.2.1
    rw [z0]
    by_cases c2 : y4 = 0
    · rw [if_pos c2, if_pos (mv.1 (hy.1 c2))]
      exact pc_s (by split <;> (first | rfl | (split <;> rfl)))
    have hot : hotB f l 0 (s (6 + 8 * j) 13) = true := by
      cases q : hotB f l 0 (s (6 + 8 * j) 13) with
      | true => rfl
      | false => exact absurd (hy.2 q) c2
    rw [if_neg c2, eD, Option.bind_some, show (9 : Int32) + nI l = nI (9 + l) from nI_add 9 l]
    by_cases c3 : inI x3 10 (nI (9 + l)) = 0
    · rw [if_pos c3]
      refine pc_s ?_
      rcases day_not hD c3 with k | k
      · rw [if_pos k]
      · by_cases k2 : x3 < 10
        · rw [if_pos k2]
        · rw [if_neg k2, if_pos k]
    · rw [if_neg c3]
      obtain ⟨a, ha, ea⟩ := day_ask hD c3
      have n10 : ¬ x3 < 10 := by
        rw [ea]
        exact Int32.not_lt.mpr (show nI 10 ≤ nI (10 + a) from nI_le2 (by omega) (by omega))
      have e10 : x3 - 10 = nI a := by rw [ea]; exact nI_subl (a := 10)
      have nm : ¬ (menP s (6 + 8 * j) (22 + 2 * (3 * 2 + g))).1 = -1 := by
        rw [(mv.2 hot).1]
        refine nI_n1 ?_
        have := gr_le (S := C + G) (f := f) (fun j hj => mc_9 m hj (by decide)) l 0 C (by omega)
        omega
      rw [if_neg n10, if_neg (show ¬ nI l ≤ x3 - 10 by rw [e10]; exact nI_ge (by omega) (by omega)), if_neg nm]
      refine pc_w (e75 hot y4 (Or.inr ⟨a, ha, ea⟩)) (fun x hx => ?_)
      rw [if_neg c1] at hx
      exact hx
  obtain ⟨y4, ey⟩ : ∃ y4, RisHeatRight w = some y4 := by
    cases q : RisHeatRight w with
    | none => rw [q] at e2; cases e2
    | some y => exact ⟨y, rfl⟩
  have hy := hr y4 ey
  rw [ey, Option.bind_some] at e2
  by_cases c1 : x3 = 1
  · rw [if_pos c1] at e2
    by_cases c2 : y4 = 0
    · rw [if_pos c2] at e2
      rw [if_pos c1]
      have := mv.1 (hy.1 c2)
      cases e2
      exact this.symm
    · rw [if_neg c2] at e2
      have hot : hotB f l 0 (s (6 + 8 * j) 13) = true := by
        cases q : hotB f l 0 (s (6 + 8 * j) 13) with
        | true => rfl
        | false => exact absurd (hy.2 q) c2
      exact e46 (Or.inr hot) y4 hy p e2
  · rw [if_neg c1] at e2
    exact e46 (Or.inl c1) y4 hy p e2
theorem CE_nature {s : SG} {x1 x2 x3 : Int32} (hP : wLoc SIM1) (h : INVP SIM1 K s) : ∃ v s1 s2, xN sc (d + 11) 121 [.inr (.inr (.inl (some 0))), .inl x1, .inl x2, .inl x3] (wl K s) = some (some (.inl v), wl K s1) ∧ xN sc (d + 11) 262 [.inr (.inr (.inl (some 64))), .inl x1, .inl x2, .inl x3] (wl K s1) = some (some (.inl v), wl K s2) ∧ INVP SIM1 K s2 := by
  have hK := INVP_SH h
  have hn := SIM_n.1 (INVP_P h)
  have rr := INVP_RI h
  have tv := TB_TV (INVP_TB h)
  have fin : ∀ (s1 : SG) (v : Int32), xN sc (d + 11) 121 [.inr (.inr (.inl (some 0))), .inl x1, .inl x2, .inl x3] (wl K s) = some (some (.inl v), wl K s1) → (∀ c, (c < 42 ∨ 64 ≤ c) → s1 c = s c) → (∀ p, Rnature s1 x1 x2 x3 = some p → p.1 = v) → ∃ v s1 s2, xN sc (d + 11) 121 [.inr (.inr (.inl (some 0))), .inl x1, .inl x2, .inl x3] (wl K s) = some (some (.inl v), wl K s1) ∧ xN sc (d + 11) 262 [.inr (.inr (.inl (some 64))), .inl x1, .inl x2, .inl x3] (wl K s1) = some (some (.inl v), wl K s2) ∧ INVP SIM1 K s2 := by
    intro s1 v e1 fr hv
    have r1 : RI s1 := RI_65 (fr 65 (by omega)) rr
    have q2 := r_nature (sc := sc) (d := d + 6) (s := s1) (x1 := x1) (x2 := x2) (x3 := x3) hK
    obtain ⟨p, e2, q⟩ : ok (Rnature s1 x1 x2 x3) (fun p => QI s1 p.2) := nature_ok r1
    have e3 := hv p e2
    rw [e2] at q2
    exact ⟨v, s1, p.2, e1, by rw [← e3]; exact q2, INVP_q hP h fr q⟩
  rcases repO_c (x := x1) hK tv with e1 | ⟨r, e1, hr, br, zr⟩
  · exact fin s (-2) (c_natP_a (d := d + 8) (h := hK) (e1 := e1)) (fun _ _ => rfl) (fun p e => (NA_fin hn rr (fun _ _ => rfl) e).1 e1)
  · rcases rowO_c (so := 4) (x := x2) hK tv with e2 | ⟨q, e2, hq, bq, zq⟩
    · exact fin s (-2) (c_natP_b (d := d + 8) (hr := hr) (h := hK) (e1 := e1) (e2 := e2)) (fun _ _ => rfl) (fun p e => ((NA_fin hn rr (fun _ _ => rfl) e).2 r e1).1 e2)
    · exact fin _ _ (c_natP_c (d := d + 6) (hr := hr) (hq := hq) (h := hK) (br := br) (bq := bq) (e1 := e1) (e2 := e2) (zq := zq)) (fun c hc => natPc_lo hc) (fun p e => ((NA_fin hn (RI_65 (natPc_lo (Or.inr (by omega))) rr) (fun c hc => natPc_lo hc) e).2 r e1).2 q e2)
end XVL
end
section
section XSF
variable {sc : Nat × (Nat → Int32)} {d : Nat} {K : List KD} {s : SG}
/-! the law: answers that are the same, all that is told kept the same -/
theorem CE_feed {x1 x2 x3 x4 x5 : Int32} (hP : PGd SIM1) (h : INVP SIM1 K s) : ∃ v s1 s2, xN sc (d + 11) 72 [.inr (.inr (.inl (some 0))), .inl x1, .inl x2, .inl x3, .inl x4, .inl x5] (wl K s) = some (some (.inl v), wl K s1) ∧ xN sc (d + 11) 151 [.inr (.inr (.inl (some 64))), .inl x1, .inl x2, .inl x3, .inl x4, .inl x5] (wl K s1) = some (some (.inl v), wl K s2) ∧ INVP SIM1 K s2 := by
  obtain ⟨p, s2, e1, e2, e3, i⟩ := CQ_feed (sc := sc) (d := d) (x1 := x1) (x2 := x2) (x3 := x3) (x4 := x4) (x5 := x5) hP h
  have e := (FD_sim (INVP_TB h) (INVP_RI h) (INVP_P h) e3).1
  rw [e] at e1
  exact ⟨_, _, s2, e1, e2, i⟩
theorem CE_end {x1 : Int32} (hP : PGd SIM1) (h : INVP SIM1 K s) : ∃ v s1 s2, xN sc (d + 11) 74 [.inr (.inr (.inl (some 0))), .inl x1] (wl K s) = some (some (.inl v), wl K s1) ∧ xN sc (d + 11) 152 [.inr (.inr (.inl (some 64))), .inl x1] (wl K s1) = some (some (.inl v), wl K s2) ∧ INVP SIM1 K s2 := by
  obtain ⟨p, s2, e1, e2, e3, i⟩ := CQ_end (sc := sc) (d := d) (x1 := x1) hP h
  have e := (EN_sim (INVP_P h) e3).1
  rw [e] at e1
  exact ⟨_, _, s2, e1, e2, i⟩
theorem CE_text {x1 x2 : Int32} (hP : PGd SIM1) (h : INVP SIM1 K s) : ∃ v s1 s2, xN sc (d + 11) 75 [.inr (.inr (.inl (some 0))), .inl x1, .inl x2] (wl K s) = some (some (.inl v), wl K s1) ∧ xN sc (d + 11) 185 [.inr (.inr (.inl (some 64))), .inl x1, .inl x2] (wl K s1) = some (some (.inl v), wl K s2) ∧ INVP SIM1 K s2 := by
  obtain ⟨p, s2, e1, e2, e3, i⟩ := CQ_text (sc := sc) (d := d) (x1 := x1) (x2 := x2) hP h
  have e := (TX_sim (INVP_TB h) (INVP_RI h) (INVP_P h) e3).1
  rw [e] at e1
  exact ⟨_, _, s2, e1, e2, i⟩
theorem CE_fault {x1 : Int32} (_hP : wLoc SIM1) (h : INVP SIM1 K s) : ∃ v s1 s2, xN sc (d + 11) 78 [.inr (.inr (.inl (some 0))), .inl x1] (wl K s) = some (some (.inl v), wl K s1) ∧ xN sc (d + 11) 186 [.inr (.inr (.inl (some 64))), .inl x1] (wl K s1) = some (some (.inl v), wl K s2) ∧ INVP SIM1 K s2 := by
  have hK := INVP_SH h
  have hn := SIM_n.1 (INVP_P h)
  have q2 := r_fault (sc := sc) (d := d + 10) (s := s) (x1 := x1) hK
  have e : Rfault s x1 = some (fauI s x1) := by
    unfold Rfault fauI
    by_cases c0 : x1 = 0
    · rw [if_pos c0, if_pos c0, rd_nI (x := 7) (e := 7) rfl (by decide) (by decide), hn.1.2.1]; rfl
    · rw [if_neg c0, if_neg c0]
      by_cases c1 : x1 = 1
      · rw [if_pos c1, if_pos c1, rd_nI (x := 8) (e := 8) rfl (by decide) (by decide), hn.1.2.2]; rfl
      · rw [if_neg c1, if_neg c1]
  rw [e] at q2
  exact ⟨fauI s x1, s, s, c_fault (sc := sc) (d := d + 10) (s := s) (w := x1) hK, q2, h⟩
theorem CE_count {x1 : Int32} (_hP : wLoc SIM1) (h : INVP SIM1 K s) : ∃ v s1 s2, xN sc (d + 11) 79 [.inr (.inr (.inl (some 0))), .inl x1] (wl K s) = some (some (.inl v), wl K s1) ∧ xN sc (d + 11) 280 [.inr (.inr (.inl (some 64))), .inl x1] (wl K s1) = some (some (.inl v), wl K s2) ∧ INVP SIM1 K s2 := by
  have hK := INVP_SH h
  have hn := SIM_n.1 (INVP_P h)
  have q2 := r_count (sc := sc) (d := d + 9) (s := s) (x1 := x1) hK
  have e : Rcount s x1 = some (couI s x1) := by
    unfold Rcount couI
    by_cases c0 : inI x1 0 5 = 0
    · rw [if_pos c0]
      rcases inI5_n.1 c0 with g | g
      · rw [if_pos g]
      · rw [if_pos (Int32.not_lt.mp g)]; split <;> rfl
    · obtain ⟨k, ek, hk⟩ := inI_nI (b := 5) (by decide) c0
      have g1 : ¬ x1 < 0 := fun g => c0 (inI5_n.2 (Or.inl g))
      have g2 : ¬ 6 ≤ x1 := fun g => c0 (inI5_n.2 (Or.inr (Int32.not_lt.mpr g)))
      rw [if_neg c0, if_neg g1, if_neg g2, rd_nI ek (by omega) (by decide), ek, cl_nI (by omega) (by decide), hn.2.2.1 k (by omega)]; rfl
  rw [e] at q2
  exact ⟨couI s x1, s, s, c_count (sc := sc) (d := d + 9) (s := s) (w := x1) hK, q2, h⟩
end XSF
end
