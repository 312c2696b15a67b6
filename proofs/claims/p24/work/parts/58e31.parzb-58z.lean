section
section XVF
variable {sc : Nat × (Nat → Int32)} {d : Nat} {K : List KD} {r q t a B m : Nat}
/-! bribes on both sides -/
section BRI
variable {s v : SG} {o n V b se D : Nat} {y1 y2 y3 y4 y5 y6 y7 : Int32}
theorem siz_n : ∀ x, x ≤ 9 → ∀ y, y ≤ 9 → NB (sizI (nI x - nI y)) 9 := by
  have h : ∀ x, x ≤ 9 → ∀ y, y ≤ 9 → sizI (nI x - nI y) = nI (if x ≤ y then y - x else x - y) := by decide +kernel
  intro x hx y hy
  refine ⟨_, h x hx y hy, ?_⟩
  split <;> omega
theorem gap_n : ∀ y, y < 28 → ∀ p, p < 100 → ∀ o, o < 28 → nI y - nI p < nI o → nI o - (nI y - nI p) = nI (o + p - y) := by decide +kernel
theorem bit_T : ∀ J, J < 64 → ∀ k, k < 6 → ((nI J >>> (nI k &&& 31)) &&& 1 = 1 ↔ J.testBit k = true) := by decide +kernel
theorem and_T : ∀ J, J < 64 → ∀ A, A < 64 → nI J &&& nI A = nI (J &&& A) := by decide +kernel
theorem or_T : ∀ k, k < 6 → ∀ A, A < 2 ^ k → (nI A ||| (1 <<< (nI k &&& 31)) = nI (A ||| 2 ^ k) ∧ A ||| 2 ^ k < 2 ^ (k + 1)) := by decide +kernel
/-- what is known of a motion on the reference's side -/
def MO (v : SG) (o n b se D : Nat) : Prop := RB v o ∧ (b < 6 ∧ se < 4 ∧ D < 1000) ∧ v 64 15 = nI b ∧ v 64 16 = nI se ∧ v 64 12 = nI (D / 100) ∧ v 64 13 = nI (D / 10 % 10) ∧ v 64 14 = nI (D % 10)
theorem mo_off {k : Nat} (h : RQ s r v o n V) (mo : MO v o n b se D) (hk : k < 6) : NB (ofoN v k) 27 := by
  obtain ⟨rb, ⟨hb, hse, hD⟩, e15, e16, e12, e13, e14⟩ := mo
  have es : seN v = se := by unfold seN; rw [e16, nI_clamp (by omega)]
  have w : ∀ i, i < 3 → NB (wnN v k se i) 9 := by
    intro i hi
    unfold wnN
    rw [rq_of h, show 16 + 18 * k + 3 * se + i = 16 + 18 * k + (3 * se + i) by omega]
    exact rb.2.2.2 k (3 * se + i) hk (by omega)
  obtain ⟨x0, f0, l0⟩ := w 0 (by omega)
  obtain ⟨x1, f1, l1⟩ := w 1 (by omega)
  obtain ⟨x2, f2, l2⟩ := w 2 (by omega)
  obtain ⟨z0, g0, k0⟩ := siz_n (D / 100) (by omega) x0 l0
  obtain ⟨z1, g1, k1⟩ := siz_n (D / 10 % 10) (by omega) x1 l1
  obtain ⟨z2, g2, k2⟩ := siz_n (D % 10) (by omega) x2 l2
  refine ⟨z0 + z1 + z2, ?_, by omega⟩
  unfold ofoN
  rw [es, e12, e13, e14, f0, f1, f2, g0, g1, g2, nI_add, nI_add]
/-- what one who does not agree costs: a small number -/
theorem mo_gap {k : Nat} (h : RQ s r v o n V) (mo : MO v o n b se D) (hk : k < n) (ng : agsN v k = 0) : NB (ofN v (10 + 18 * k + 3) * (ofoN v k - yieN v k)) 3402 := by
  have hn := h.2.1.1
  obtain ⟨x, ex, hx⟩ := mo_off h mo (k := k) (by omega)
  obtain ⟨rb, ⟨hb, hse, hD⟩, e15, e16, e12, e13, e14⟩ := mo
  obtain ⟨y, ey, hy⟩ := rb.2.2.1 k 1 (by omega) (by omega)
  obtain ⟨c, ec, hc⟩ := rb.2.2.1 k 3 (by omega) (by omega)
  obtain ⟨p0, ep0, hp0⟩ := rb.1 1 (by omega)
  have yie : ∃ p, p < 100 ∧ yieN v k = nI y - nI p := by
    unfold yieN
    rw [rq_of h, rq_of h, rq_of h]
    by_cases q : (v 65 (o + (10 + 18 * k + 5)) >>> (v 64 15 &&& 31)) &&& 1 = 1
    · rw [if_pos q]
      exact ⟨p0, by omega, by rw [ey, ← ep0]⟩
    · rw [if_neg q]
      exact ⟨0, by omega, by rw [ey]; rfl⟩
  obtain ⟨p, hp, ey2⟩ := yie
  have lt : yieN v k < ofoN v k := by
    unfold agsN at ng
    by_cases q : nI k = v 64 15
    · rw [if_pos q] at ng; exact absurd ng (by decide)
    · rw [if_neg q] at ng
      by_cases q2 : yieN v k < ofoN v k
      · exact q2
      · rw [if_neg q2] at ng; exact absurd ng (by decide)
  rw [ey2, ex] at lt
  have gp := gap_n y (by omega) p hp x (by omega) lt
  rw [ey2, ex, gp, rq_of h, ec, nI_mulx]
  refine ⟨_, rfl, ?_⟩
  exact Nat.le_trans (Nat.mul_le_mul hc (by omega : x + p - y ≤ 126)) (by decide)
/-- who agrees, bit by bit -/
theorem agm_b : ∀ k, k ≤ 6 → ∃ A, A < 2 ^ k ∧ agmN v k = nI A ∧ ∀ i, i < k → (A.testBit i = true ↔ ¬ agsN v i = 0) := by
  intro k
  induction k with
  | zero => intro _; exact ⟨0, by decide, rfl, fun i hi => absurd hi (by omega)⟩
  | succ k ih =>
    intro hk
    obtain ⟨A, hA, eA, bA⟩ := ih (by omega)
    rw [agmN, eA]
    by_cases c : agsN v k = 0
    · rw [if_pos c, or_0]
      have lt : A < 2 ^ (k + 1) := Nat.lt_of_lt_of_le hA (Nat.pow_le_pow_right (by decide) (by omega))
      refine ⟨A, lt, rfl, fun i hi => ?_⟩
      by_cases q : i = k
      · subst q
        rw [Nat.testBit_lt_two_pow hA]
        exact ⟨fun z => absurd z (by decide), fun z => absurd c z⟩
      · exact bA i (by omega)
    · rw [if_neg c]
      obtain ⟨o1, o2⟩ := or_T k (by omega) A hA
      refine ⟨A ||| 2 ^ k, o2, o1, fun i hi => ?_⟩
      rw [Nat.testBit_or, Nat.testBit_two_pow]
      by_cases q : i = k
      · subst q
        exact ⟨fun _ => c, fun _ => by simp⟩
      · have : decide (k = i) = false := by simp; omega
        rw [this, Bool.or_false]
        exact bA i (by omega)
theorem cost_4 {J : Nat} (h : RQ s r v o n V) (mo : MO v o n b se D) (hJ : J < 64) (hz : nI J &&& agmT v = 0) : ∀ (i j z c : Nat), j + i = n → c ≤ 3402 * j → pc (RcostOf_4 (RcostOf_R z) v (nI J) (nI c) (nI j)) (fun x => x = briIL s r i j (nI J) (nI b) (nI se) (nI D) (nI c) ∧ NB x (3402 * n)) := by
  have hn := h.2.1.1
  obtain ⟨_, e2, _⟩ := rq_n h
  have hb := mo.2.1.1
  have hse := mo.2.1.2.1
  have hD := mo.2.1.2.2
  obtain ⟨a0, a1, a2⟩ := amt_n D hD
  have e15 := mo.2.2.1
  have e16 := mo.2.2.2.1
  have e12 : v 64 12 = amtI (nI D) 0 := mo.2.2.2.2.1.trans a0.symm
  have e13 : v 64 13 = amtI (nI D) 1 := mo.2.2.2.2.2.1.trans a1.symm
  have e14 : v 64 14 = amtI (nI D) 2 := mo.2.2.2.2.2.2.trans a2.symm
  have hSE : SE v := ⟨by unfold seN; rw [e16, nI_clamp (by omega)], by unfold seN; rw [e16, nI_clamp (by omega)]; exact hse⟩
  intro i
  induction i with
  | zero =>
    intro j z c hj hc
    unfold RcostOf_4
    rw [q_ministers (rq_RH h), (rq_n h).1, Option.bind_some, if_pos (k_ge hj)]
    exact pc_s ⟨rfl, ⟨c, rfl, by rw [show n = j by omega]; exact hc⟩⟩
  | succ i ih =>
    intro j z c hj hc
    have go : ∀ c2 (Q : Int32 → Prop), c2 ≤ 3402 * (j + 1) → (∀ x, (x = briIL s r i (j + 1) (nI J) (nI b) (nI se) (nI D) (nI c2) ∧ NB x (3402 * n)) → Q x) → pc (RcostOf_R z v (nI J) (nI c2) (nI j + 1)) Q := by
      intro c2 Q h2 hq
      cases z with
      | zero => exact fun _ e => nomatch e
      | succ z =>
        show pc (RcostOf_4 (RcostOf_R z) v (nI J) (nI c2) (nI j + 1)) Q
        rw [← nI_succ]
        exact pc_w (ih (j + 1) z c2 (by omega) h2) hq
    unfold RcostOf_4
    rw [q_ministers (rq_RH h), (rq_n h).1, Option.bind_some, if_neg (k_lt hj (by omega)), briIL]
    by_cases c1 : (nI J >>> (nI j &&& 31)) &&& 1 = 1
    · have ng : agsN v j = 0 := by
        refine Decidable.byContradiction (fun g => ?_)
        obtain ⟨A, hA, eA, bA⟩ := agm_b (v := v) n hn
        have eT : agmT v = nI A := by unfold agmT; rw [e2]; exact eA
        rw [eT, and_T J hJ A (p2_64 hn hA)] at hz
        have l : J &&& A < 64 := Nat.lt_of_le_of_lt Nat.and_le_left hJ
        have z0 : J &&& A = 0 := nI_inj (b := 0) (by omega) (by decide) hz
        have t1 : J.testBit j = true := (bit_T J hJ j (by omega)).1 c1
        have t2 : A.testBit j = true := (bA j (by omega)).2 g
        have t3 : (J &&& A).testBit j = true := by rw [Nat.testBit_and, t1, t2]; rfl
        rw [z0, Nat.zero_testBit] at t3
        exact absurd t3 (by decide)
      have pr : cl 6 (s (r + 4)) (nI j) = ofN v (10 + 18 * j + 3) := by
        rw [cl_nI (by omega) (by decide), rq_of h]
        exact h.2.2.2.2.2.1 j 3 (by omega) (by omega)
      obtain ⟨g, eg, hg⟩ := mo_gap h mo (k := j) (by omega) ng
      rw [if_pos c1, if_neg (fun q => ((has_b (by omega)).1 q) c1), q_ofMinister (y := 3) (m := j) (a := 3) (rq_RH h) rfl rfl (by omega) (by decide), Option.bind_some, q_offOf (rq_RH h) hSE rfl (by omega), Option.bind_some, q_yields (rq_RH h) rfl (by omega), Option.bind_some, pr, rq_dis h (by omega) hse e16 e12 e13 e14, rq_pat h (by omega) hb e15, eg, nI_add]
      exact go (c + g) _ (by omega) (fun x hx => hx)
    · rw [if_neg c1, if_pos ((has_b (by omega)).2 c1), Int32.add_zero]
      exact go c _ (by omega) (fun x hx => hx)
theorem cost_v {J : Nat} (h : RQ s r v o n V) (mo : MO v o n b se D) (hJ : J < 64) (hz : nI J &&& agmT v = 0) : pc (RcostOf v (nI J)) (fun x => x = briI s r (nI J) (nI b) (nI se) (nI D) ∧ NB x 20412) := by
  have hn := h.2.1.1
  obtain ⟨_, _, e3⟩ := rq_n h
  unfold RcostOf briI
  rw [e3]
  refine pc_w (cost_4 h mo hJ hz n 0 xF 0 (by omega) (by omega)) (fun x hx => ⟨hx.1, ?_⟩)
  obtain ⟨c, ec, hc⟩ := hx.2
  exact ⟨c, ec, Nat.le_trans hc (Nat.mul_le_mul_left 3402 hn)⟩
theorem bri_33 (h : RQ s r v o n V) (zr : SZ s r) (mo : MO v o n b se D) (e18 : v 64 18 = allI s r) {k1 k4 k5 k6 : Int32} : ∀ (i j z : Nat) (y9 y10 c11 c12 : Int32), j + i = al s r + 1 → ((y9 = -1 ∧ c11 = -1 ∧ c12 = -1) ∨ ∃ J c, J < 64 ∧ c < 2 ^ 31 ∧ y9 = nI J ∧ c12 = nI J ∧ y10 = nI c ∧ c11 = nI c) → pc (Rbribe_33 (Rbribe_R z) v y1 y2 y3 y4 y5 y6 y7 (agmT v) y9 y10 (nI j)) (fun p => p.1 = brbIbL s r i j k1 (nI b) (nI se) k4 k5 k6 y7 (nI D) (agmT v) c11 c12) := by
  have hn := h.2.1.1
  have hal : al s r ≤ 63 := by
    unfold al
    have h6 := zr.2
    have : 2 ^ sz s r ≤ 2 ^ 6 := Nat.pow_le_pow_right (by decide) h6
    omega
  intro i
  induction i with
  | zero =>
    intro j z y9 y10 c11 c12 hj hr
    unfold Rbribe_33
    rw [bg_all h, Option.bind_some, if_pos (al_gt zr hj), brbIbL]
    rcases hr with ⟨e1, e2, e3⟩ | ⟨J, c, hJ, hc, e1, e2, e3, e4⟩
    · rw [e1, e2, e3, if_neg (show ¬ (0 : Int32) ≤ -1 by decide)]
      refine pc_s ?_
      split <;> rfl
    · rw [e1, e2, e3, e4, if_pos (show (0 : Int32) ≤ nI J from nI_le2 (a := 0) (by omega) (by omega))]
      by_cases g : y7 = 0
      · rw [if_pos g, if_pos g]; exact pc_s rfl
      · rw [if_neg g, if_neg g]; exact pc_s rfl
  | succ i ih =>
    intro j z y9 y10 c11 c12 hj hr
    have go : ∀ y9 y10 c11 c12, ((y9 = -1 ∧ c11 = -1 ∧ c12 = -1) ∨ ∃ J c, J < 64 ∧ c < 2 ^ 31 ∧ y9 = nI J ∧ c12 = nI J ∧ y10 = nI c ∧ c11 = nI c) → pc (Rbribe_R z v y1 y2 y3 y4 y5 y6 y7 (agmT v) y9 y10 (nI j + 1)) (fun p => p.1 = brbIbL s r i (j + 1) k1 (nI b) (nI se) k4 k5 k6 y7 (nI D) (agmT v) c11 c12) := by
      intro y9 y10 c11 c12 hr
      cases z with
      | zero => exact fun _ e => nomatch e
      | succ z =>
        show pc (Rbribe_33 (Rbribe_R z) v y1 y2 y3 y4 y5 y6 y7 (agmT v) y9 y10 (nI j + 1)) _
        rw [← nI_succ]
        exact ih (j + 1) z y9 y10 c11 c12 (by omega) hr
    unfold Rbribe_33
    rw [bg_all h, Option.bind_some, if_neg (al_le zr hj), brbIbL]
    by_cases c1 : nI j &&& agmT v = 0
    · rw [if_pos c1, if_pos c1, q_isPassed (rq_RH h) (rq_MZ h), Option.bind_some, rq_pas h e18]
      by_cases c2 : pasN v (agmT v ||| nI j) = 0
      · rw [if_pos c2, if_pos c2]; exact go _ _ _ _ hr
      · rw [if_neg c2, if_neg c2]
        refine pc_b (cost_v h mo (J := j) (by omega) c1) (fun x hx => ?_)
        obtain ⟨ex, c, ec, hc⟩ := hx
        rw [← ex]
        have tk : (nI j = -1 ∧ x = -1 ∧ nI j = -1) ∨ ∃ J c, J < 64 ∧ c < 2 ^ 31 ∧ nI j = nI J ∧ nI j = nI J ∧ x = nI c ∧ x = nI c := Or.inr ⟨j, c, by omega, by omega, rfl, rfl, ec, ec⟩
        rcases hr with ⟨e1, e2, e3⟩ | ⟨J, c', hJ, hc', e1, e2, e3, e4⟩
        · rw [e1, e2, if_pos (show (-1 : Int32) < 0 by decide), if_pos rfl]
          exact go _ _ _ _ tk
        · have n1 : ¬ nI J < 0 := nI_pos (by omega)
          have n2 : ¬ nI c' = -1 := fun q => absurd (show nI c' < 0 by rw [q]; decide) (nI_pos (by omega))
          rw [e1, e3, e4, if_neg n1, if_neg n2]
          by_cases c3 : x < nI c'
          · rw [if_pos c3, if_neg (Int32.not_le.mpr c3)]; exact go _ _ _ _ tk
          · rw [if_neg c3, if_pos (Int32.not_lt.mp c3), e2]
            exact go _ _ _ _ (Or.inr ⟨J, c', hJ, hc', rfl, rfl, rfl, rfl⟩)
    · rw [if_neg c1, if_neg c1]; exact go _ _ _ _ hr
end BRI
/-- the day of a motion that is -/
theorem day_n {x y z : Int32} (h : ¬ dayI x y z = -1) : ∃ D, D < 1000 ∧ dayI x y z = nI D := by
  have c : ¬ RareAmounts x y z = 0 := fun q => h (day_e.1.2 q)
  rw [day_e.2 c]
  unfold RareAmounts at c
  by_cases c1 : inI x 0 9 = 0
  · rw [if_pos c1] at c; exact absurd rfl c
  rw [if_neg c1] at c
  by_cases c2 : inI y 0 9 = 0
  · rw [if_pos c2] at c; exact absurd rfl c
  rw [if_neg c2] at c
  by_cases c3 : inI z 0 9 = 0
  · rw [if_pos c3] at c; exact absurd rfl c
  obtain ⟨i, ei, hi⟩ := inI_nI (b := 9) (by decide) c1
  obtain ⟨j, ej, hj⟩ := inI_nI (b := 9) (by decide) c2
  obtain ⟨k, ek, hk⟩ := inI_nI (b := 9) (by decide) c3
  refine ⟨100 * i + 10 * j + k, by omega, ?_⟩
  rw [ei, ej, ek]
  show (nI 100 * nI i + nI 10 * nI j) + nI k = _
  rw [nI_mulx, nI_mulx, nI_add, nI_add]
theorem mov_d {s : SG} {x y z u : Int32} {r : Nat} (h : movF s x y z u = some r) : ¬ u = -1 := by
  intro e
  unfold movF at h
  cases q : repO s x with
  | none => rw [q] at h; cases h
  | some r2 =>
    rw [q] at h
    replace h : movI s r2 y z u = some r := h
    unfold movI at h
    by_cases c1 : minI s r2 y = 0
    · rw [if_pos c1] at h; cases h
    rw [if_neg c1] at h
    by_cases c2 : issI z = 0
    · rw [if_pos c2] at h; cases h
    rw [if_neg c2, if_pos e] at h; cases h
theorem CE_bribe {s : SG} {x1 x2 x3 x4 x5 x6 x7 : Int32} (hP : wLoc SIM1) (h : INVP SIM1 K s) : ∃ v s1 s2, xN sc (d + 11) 112 [.inr (.inr (.inl (some 0))), .inl x1, .inl x2, .inl x3, .inl x4, .inl x5, .inl x6, .inl x7] (wl K s) = some (some (.inl v), wl K s1) ∧ xN sc (d + 11) 246 [.inr (.inr (.inl (some 64))), .inl x1, .inl x2, .inl x3, .inl x4, .inl x5, .inl x6, .inl x7] (wl K s1) = some (some (.inl v), wl K s2) ∧ INVP SIM1 K s2 := by
  have hK := INVP_SH h
  have hn := SIM_n.1 (INVP_P h)
  have rr := INVP_RI h
  have q2 := r_bribe (sc := sc) (d := d + 4) (s := s) (x1 := x1) (x2 := x2) (x3 := x3) (x4 := x4) (x5 := x5) (x6 := x6) (x7 := x7) hK
  obtain ⟨p, e2, qi⟩ : ok (Rbribe s x1 x2 x3 x4 x5 x6 x7) (fun p => QI s p.2) := bribe_ok rr
  rw [e2] at q2
  have I := INVP_q hP h (s1 := s) (fun _ _ => rfl) qi
  obtain ⟨w, ew, _⟩ := isMotion_ok (x := x1) (b := x2) (se := x3) (u := x4) (v := x5) (w := x6) rr
  unfold Rbribe at e2
  rw [ew, Option.bind_some] at e2
  rcases mot_v (x1 := x1) (x2 := x2) (x3 := x3) (x4 := x4) (x5 := x5) (x6 := x6) hn rr with ⟨c1, c2⟩ | ⟨j, b, se, hj, hb, hse, eb, es, c1, c2⟩
  · rw [if_pos (c2 w ew)] at e2
    have ep : p.1 = -1 := by cases e2; rfl
    exact ⟨p.1, s, p.2, by rw [ep]; exact c_brbI_a (sc := sc) (d := d + 7) (s := s) (x := x1) (who := x2) (se := x3) (u := x4) (v := x5) (z := x6) (g := x7) hK (TB_TV (INVP_TB h)) c1, q2, I⟩
  · obtain ⟨w1, n, V, hmn, rq, e15, e16, e12, e13, e14, e18, _, _, _, rb⟩ := c2 w ew
    obtain ⟨D, hD, eD⟩ := day_n (mov_d c1)
    obtain ⟨a0, a1, a2⟩ := amt_n D hD
    have mo : MO w.2 (610 + 118 * j) n b se D := ⟨rb, ⟨hb, hse, hD⟩, e15.trans eb, e16.trans es, by rw [e12, eD]; exact a0, by rw [e13, eD]; exact a1, by rw [e14, eD]; exact a2⟩
    have hSE : SE w.2 := ⟨by unfold seN; rw [e16, es, nI_clamp (by omega)], by unfold seN; rw [e16, es, nI_clamp (by omega)]; exact hse⟩
    have ag := rq_agr rq hb hse (e15.trans eb) (e16.trans es) e12 e13 e14
    rw [if_neg (show ¬ w.1 = 0 by rw [w1]; decide), q_agreeing (rq_RH rq) hSE (rq_MZ rq), Option.bind_some] at e2
    have zr : SZ s (6 + 8 * j) := by
      obtain ⟨_, _, e3⟩ := rq_n rq
      exact ⟨by rw [e3]; exact rq.2.2.1.1, by rw [e3]; exact rq.2.1.1⟩
    have cc := c_brbI_b (sc := sc) (d := d + 7) (s := s) (x := x1) (who := x2) (se := x3) (u := x4) (v := x5) (z := x6) (g := x7) (rp_j hK hj) hK (TB_TV (INVP_TB h)) c1 zr
    have fin := bri_33 (y1 := x1) (y2 := x2) (y3 := x3) (y4 := x4) (y5 := x5) (y6 := x6) (y7 := x7) (k1 := x1) (k4 := x4) (k5 := x5) (k6 := x6) rq zr mo e18 (al s (6 + 8 * j) + 1) 0 xF (-1) 0 (-1) (-1) (by omega) (Or.inl ⟨rfl, rfl, rfl⟩) p e2
    refine ⟨p.1, s, p.2, ?_, q2, I⟩
    rw [cc, fin]
    unfold brbIb
    rw [eb, es, ag, eD]
end XVF
end
section
section XVH
variable {sc : Nat × (Nat → Int32)} {d : Nat} {K : List KD} {r q t a B m : Nat}
/-! decades on both sides -/
def oneX (T : Int32) : Nat → Nat → Int32 → Int32 → Int32
  | 0, _, _, _ => -1
  | n + 1, j, y1, y2 => if hasI T (nI j) = 0 then oneX T n (j + 1) y1 y2 else if y2 = y1 then nI j else oneX T n (j + 1) y1 (y2 + 1)
theorem one_x {s : SG} {T : Int32} (e : s 56 2 = T) : ∀ (n j : Nat) (y1 y2 : Int32), oneIL s n j y1 y2 = oneX T n j y1 y2 := by
  intro n
  induction n with
  | zero => intro j y1 y2; rfl
  | succ n ih =>
    intro j y1 y2
    rw [oneIL, oneX, e, ih, ih]
theorem one_all0 : ((List.range 64).all fun a => (List.range 7).all fun k => (List.range 7).all fun b => !(bsL (nI a) 31 0 0 == nI b) || !(decide (k < b)) || (match thL (nI a) 6 (nI k) 0 with
    | some m => decide (m < 6) && decide (oneX (nI a) 6 0 (nI k) 0 = nI m)
    | none => false)) = true := by decide +kernel
theorem one_all (a : Nat) (ha : a < 64) (k : Nat) (hk : k < 7) (b : Nat) (hb : b < 7) (e : bsL (nI a) 31 0 0 = nI b) (hkb : k < b) : ∃ m, m < 6 ∧ thL (nI a) 6 (nI k) 0 = some m ∧ oneX (nI a) 6 0 (nI k) 0 = nI m := by
  have h := List.all_eq_true.mp (List.all_eq_true.mp (List.all_eq_true.mp one_all0 a (List.mem_range.mpr ha)) k (List.mem_range.mpr hk)) b (List.mem_range.mpr hb)
  have e1 : (bsL (nI a) 31 0 0 == nI b) = true := by rw [e]; exact beq_self_eq_true _
  rw [e1, decide_eq_true hkb] at h
  simp only [Bool.not_true, Bool.false_or] at h
  cases g : thL (nI a) 6 (nI k) 0 with
  | none => rw [g] at h; cases h
  | some m =>
    rw [g] at h
    replace h : (decide (m < 6) && decide (oneX (nI a) 6 0 (nI k) 0 = nI m)) = true := h
    rw [Bool.and_eq_true] at h
    exact ⟨m, of_decide_eq_true h.1, rfl, of_decide_eq_true h.2⟩
section DRW
variable {w s s2 v v2 : SG} {o n V N : Nat} {g : Nat → Int32} {a17 a26 a29 y1 y2 y3 y4 y5 y6 y7 y8 y9 seed : Int32}
/-- what a day that has passed adds to a decade -/
def RCF (s s2 : SG) : Prop := ∃ D, D < 1000 ∧ s2 56 8 = nI D ∧ s2 56 9 = s 56 9 + nI (D / 100) ∧ s2 56 11 = (if D / 100 = 0 then s 56 11 + 1 else 0) ∧ s2 56 10 = (if s 56 10 < (if D / 100 = 0 then s 56 11 + 1 else 0) then (if D / 100 = 0 then s 56 11 + 1 else 0) else s 56 10) ∧ s2 56 12 = s 56 12
theorem rcf_rec {D : Nat} (hD : D < 1000) : RCF s (rcdS s (nI D)) := by
  obtain ⟨_, _, f3, _, f5, f6, f7, f8⟩ := rcd_f (s := s) (day := nI D)
  obtain ⟨a0, _, _⟩ := amt_n D hD
  rw [a0] at f6 f7 f8
  have z : (if nI (D / 100) = 0 then s 56 11 + 1 else 0) = (if D / 100 = 0 then s 56 11 + 1 else (0 : Int32)) := by
    by_cases c : D / 100 = 0
    · rw [if_pos c, c, if_pos (show nI 0 = 0 from rfl)]
    · rw [if_neg c, if_neg (show ¬ nI (D / 100) = (0 : Int32) from fun q => c (nI_inj (b := 0) (by omega) (by decide) q))]
  rw [z] at f7 f8
  exact ⟨D, hD, f5, f6, f7, f8, f3 12 (by decide) (by decide) (by decide) (by decide) (by decide)⟩
theorem rcf_com (h : YJ w r o n V g a17 a26 a29 s v) : RCF s (comS s) := by
  obtain ⟨C, G, c1, c2, c3, c4, c5⟩ := h.2.2.2.2.2.1
  have go : ∀ D, D < 1000 → comS s = rcdS (up s 56 7 (s 56 7 + 1)) (nI D) → RCF s (comS s) := by
    intro D hD es
    obtain ⟨D2, h1, h2, h3, h4, h5, h6⟩ := rcf_rec (s := up s 56 7 (s 56 7 + 1)) hD
    rw [up_bn (show 9 ≠ 7 by decide)] at h3
    rw [up_bn (show 11 ≠ 7 by decide)] at h4 h5
    rw [up_bn (show 10 ≠ 7 by decide)] at h5
    rw [up_bn (show 12 ≠ 7 by decide)] at h6
    rw [es]
    exact ⟨D2, h1, h2, h3, h4, h5, h6⟩
  by_cases z : C = 0
  · subst z
    refine go 0 (by decide) ?_
    unfold comS
    rw [c1, if_neg (show ¬ (1 : Int32) < nI 0 by decide)]; rfl
  · refine go 100 (by decide) ?_
    unfold comS
    have e : (if (1 : Int32) < s 57 0 then 1 else s 57 0) = 1 := by
      rw [c1]
      by_cases z2 : C = 1
      · subst z2; rw [if_neg (show ¬ (1 : Int32) < nI 1 by decide)]; rfl
      · rw [if_pos (show (1 : Int32) < nI C from nI_lt2 (a := 1) (by omega) (by omega))]
    rw [e]; rfl
theorem bea_k {j i : Nat} {x : Int32} (h2 : i ≠ 2) (h3 : i ≠ 3) : beaS s r (nI j) x 56 i = s 56 i := by
  unfold beaS
  repeat' split
  all_goals simp only [up_bn h2, up_bn h3, pt_n (show 56 ≠ 58 by decide)]
theorem dsl_k {y2 y3 y4 : Int32} {i : Nat} (h2 : i ≠ 2) (h3 : i ≠ 3) : ∀ (k j : Nat) (s : SG), decSL r k j s y2 y3 y4 56 i = s 56 i := by
  intro k
  induction k with
  | zero => intro j s; rfl
  | succ k ih =>
    intro j s
    rw [decSL]
    by_cases c : hasI (s 56 2) (nI j) = 0
    · rw [if_pos c]; exact ih (j + 1) s
    · rw [if_neg c, ih (j + 1)]; exact bea_k h2 h3
theorem rcf_dec {D : Nat} {who : Int32} (h : YJ w r o n V g a17 a26 a29 s v) (hD : D < 1000) : RCF s (decS s r who (nI D)) := by
  unfold decS
  by_cases c : pasI s r (s 56 2) (agrT s r who (s 56 1) (nI D)) = 0
  · rw [if_pos c]; exact rcf_com h
  · rw [if_neg c]
    obtain ⟨D2, h1, h2, h3, h4, h5, h6⟩ := rcf_rec (s := s) hD
    refine ⟨D2, h1, ?_, ?_, ?_, ?_, ?_⟩
    · rw [dsl_k (by decide) (by decide)]; exact h2
    · rw [dsl_k (by decide) (by decide)]; exact h3
    · rw [dsl_k (by decide) (by decide)]; exact h4
    · rw [dsl_k (by decide) (by decide)]; exact h5
    · rw [dsl_k (by decide) (by decide)]; exact h6
theorem below_v {k : Nat} (e : s 56 12 = v 64 34) (hk : 0 < k) (hk2 : k ≤ 40000) : ∃ x c, x < k ∧ dbeP s (nI k) = (nI x, up s 56 12 c) ∧ Rbelow v (nI k) = some (nI x, up v 64 34 c) := by
  obtain ⟨p, ep, ⟨x, ex, hx⟩, _⟩ := below_ok (t := v) (x := nI k) rfl hk hk2
  have n0 : ¬ nI k = 0 := fun q => by
    have := nI_inj (b := 0) (by omega) (by decide) q
    omega
  unfold Rbelow at ep
  rw [if_neg n0] at ep
  cases ep
  have ex2 : (Int32.toUInt32 (((v 64 34) * 1103515245) + 12345) >>> (Int32.toUInt32 16 &&& Int32.toUInt32 31)).toInt32 - (Int32.toUInt32 (((v 64 34) * 1103515245) + 12345) >>> (Int32.toUInt32 16 &&& Int32.toUInt32 31)).toInt32 / nI k * nI k = nI x := ex
  refine ⟨x, ((v 64 34) * 1103515245) + 12345, hx, ?_, ?_⟩
  · unfold dbeP
    rw [if_neg (show ¬ nI k ≤ (0 : Int32) from nI_ge (a := 0) hk (by omega)), e, ex2]
  · unfold Rbelow
    rw [if_neg n0, ex2]
theorem d163 {R : SG → Int32 → Int32 → Int32 → Int32 → Int32 → Int32 → Int32 → Int32 → Option (Int32 × SG)} {D : Nat} (hD : D < 1000) (e : v 64 25 = nI D) : Rdrawn_163 R v y1 y2 y3 y4 y5 y6 y7 y8 y9 = R v y1 y2 y3 y4 (y5 + nI (D / 100)) (if D / 100 = 0 then y6 + 1 else 0) (if y7 < (if D / 100 = 0 then y6 + 1 else 0) then (if D / 100 = 0 then y6 + 1 else 0) else y7) (y8 + 1) := by
  have e2 : nI D / 100 = nI (D / 100) := nI_div (a := D) (b := 100) (by omega) (by decide) (by decide)
  have r192 : ∀ x v0, Rdrawn_192 R v y1 y2 y3 y4 x y6 y7 y8 y9 v0 = R v y1 y2 y3 y4 x v0 (if y7 < v0 then v0 else y7) (y8 + 1) := by
    intro x v0
    unfold Rdrawn_192
    by_cases c : v0 ≤ y7
    · rw [if_pos c, if_neg (Int32.not_lt.mpr c)]
    · rw [if_neg c, if_pos (Int32.not_le.mp c)]
  unfold Rdrawn_163
  rw [e, e2, r192, r192]
  by_cases c : D / 100 = 0
  · rw [if_neg (show ¬ (100 : Int32) ≤ nI D from nI_ge (b := 100) (by omega) (by decide))]
    simp only [if_pos c]
  · rw [if_pos (show (100 : Int32) ≤ nI D from nI_le2 (a := 100) (by omega) (by omega))]
    simp only [if_neg c]
/-- a decade so far -/
def DJ (w : SG) (r o n V : Nat) (g : Nat → Int32) (a17 a26 a29 y5 y6 y7 : Int32) (s v : SG) : Prop := YJ w r o n V g a17 a26 a29 s v ∧ s 56 12 = v 64 34 ∧ s 56 9 = y5 ∧ s 56 11 = y6 ∧ s 56 10 = y7
theorem yj_16 {c : Nat} (h : YJ w r o n V g a17 a26 a29 s v) (hc : c < 4) : YJ w r o n V g a17 a26 a29 (up s 56 1 (nI c)) (up v 64 16 (nI c)) := by
  obtain ⟨⟨h1, h2, h3, h4, h5⟩, ⟨h6, h7, h8⟩, h9, ⟨T, hT, hT2, hT3⟩, h11, ⟨C, G, c1, c2, c3, c4, c5⟩, h13, ⟨h14, h14b, h14c⟩, h15, h16⟩ := h
  exact ⟨⟨fun c hc => (up_n (by omega)).trans (h1 c hc), by rw [up_n (by decide)]; exact h2, by rw [up_bn (by decide)]; exact h3, by rw [up_bn (by decide)]; exact h4, by rw [up_bn (by decide)]; exact h5⟩, ⟨h6, RQ_v h7 (up_bn (by decide)) (up_n (by decide)), RB_v h8 (up_n (by decide))⟩, ⟨by rw [up_a, up_a], by rw [up_a]; exact ⟨c, rfl, by omega⟩⟩, ⟨T, hT, by rw [up_bn (by decide)]; exact hT2, by rw [up_bn (by decide)]; exact hT3⟩, by rw [up_bn (by decide), up_bn (by decide)]; exact h11, ⟨C, G, by rw [up_n (by decide)]; exact c1, by rw [up_bn (by decide)]; exact c2, by rw [up_n (by decide)]; exact c3, by rw [up_bn (by decide)]; exact c4, c5⟩, by rw [up_n (by decide), up_bn (by decide)]; exact h13, ⟨by rw [up_bn (by decide), up_bn (by decide)]; exact h14, by rw [up_bn (by decide), up_bn (by decide)]; exact h14b, by rw [up_bn (by decide), up_bn (by decide)]; exact h14c⟩, fun m hm => by rw [up_n (by decide), up_n (by decide)]; exact h15 m hm, fun k hk => by rw [up_n (by decide), up_n (by decide)]; exact h16 k hk⟩
/-- chance is drawn: nothing else changes -/
theorem yj_34 {c x : Int32} (h : YJ w r o n V g a17 a26 a29 s v) : YJ w r o n V g a17 a26 a29 (up s 56 12 c) (up v 64 34 x) := by
  have hs : ∀ i, i ≠ 12 → up s 56 12 c 56 i = s 56 i := fun i hi => up_bn hi
  obtain ⟨⟨h1, h2, h3, h4, h5⟩, ⟨h6, h7, h8⟩, h9, ⟨T, hT, hT2, hT3⟩, h11, ⟨C, G, c1, c2, c3, c4, c5⟩, h13, ⟨h14, h14b, h14c⟩, h15, h16⟩ := h
  exact ⟨⟨fun c hc => (up_n (by omega)).trans (h1 c hc), by rw [up_n (by decide)]; exact h2, by rw [up_bn (by decide)]; exact h3, by rw [up_bn (by decide)]; exact h4, by rw [up_bn (by decide)]; exact h5⟩, ⟨h6, RQ_v h7 (up_bn (by decide)) (up_n (by decide)), RB_v h8 (up_n (by decide))⟩, ⟨by rw [hs 1 (by decide), up_bn (by decide)]; exact h9.1, by rw [up_bn (by decide)]; exact h9.2⟩, ⟨T, hT, by rw [hs 2 (by decide)]; exact hT2, by rw [up_bn (by decide)]; exact hT3⟩, by rw [hs 3 (by decide), up_bn (by decide)]; exact h11, ⟨C, G, by rw [up_n (by decide)]; exact c1, by rw [up_bn (by decide)]; exact c2, by rw [up_n (by decide)]; exact c3, by rw [up_bn (by decide)]; exact c4, c5⟩, by rw [up_n (by decide), up_bn (by decide)]; exact h13, ⟨by rw [hs 6 (by decide), up_bn (by decide)]; exact h14, by rw [hs 7 (by decide), up_bn (by decide)]; exact h14b, by rw [hs 8 (by decide), up_bn (by decide)]; exact h14c⟩, fun m hm => by rw [up_n (by decide), up_n (by decide)]; exact h15 m hm, fun k hk => by rw [up_n (by decide), up_n (by decide)]; exact h16 k hk⟩
theorem yj_15 {x : Int32} (h : YJ w r o n V g a17 a26 a29 s v) : YJ w r o n V g a17 a26 a29 s (up v 64 15 x) :=
  yj_g h (fun _ _ => rfl) (up_n (by decide)) (up_n (by decide)) (up_n (by decide)) (fun j hj => up_bn (by omega)) ((up_bn (by decide)).trans h.1.2.2.2.1)
/-- one day of a decade -/
theorem drw_77 {R : SG → Int32 → Int32 → Int32 → Int32 → Int32 → Int32 → Int32 → Int32 → Option (Int32 × SG)} {Q : Int32 × SG → Prop} (h : YJ w r o n V g a17 a26 a29 s v) (e12 : s 56 12 = v 64 34) (rr : RI v) (qs : QS v) (h9 : s 56 9 = y5) (h11 : s 56 11 = y6) (h10 : s 56 10 = y7)
    (go : ∀ s2 v2 y5 y6 y7, DJ w r o n V g a17 a26 a29 y5 y6 y7 s2 v2 → RI v2 → QS v2 → s2 = (if s 56 2 = 0 then comS s else drmS s r) → pc (R v2 y1 y2 y3 y4 y5 y6 y7 (y8 + 1)) Q) : pc (Rdrawn_77 R v y1 y2 y3 y4 y5 y6 y7 y8 (if s 56 2 = 0 then 0 else 1)) Q := by
  have hn := h.2.1.2.1.2.1.1
  have fin : ∀ s5 s2 v2 y9, YJ w r o n V g a17 a26 a29 s2 v2 → RCF s5 s2 → s5 56 9 = s 56 9 → s5 56 10 = s 56 10 → s5 56 11 = s 56 11 → v2 64 34 = s5 56 12 → RI v2 → QS v2 → s2 = (if s 56 2 = 0 then comS s else drmS s r) → pc (Rdrawn_163 R v2 y1 y2 y3 y4 y5 y6 y7 y8 y9) Q := by
    intro s5 s2 v2 y9 hY hR g9 g10 g11 e34 r2 q2 es
    obtain ⟨D, hD, f8, f9, f11, f10, f12⟩ := hR
    have e25 : v2 64 25 = nI D := by rw [← hY.2.2.2.2.2.2.2.1.2.2]; exact f8
    rw [d163 hD e25]
    rw [g9, h9] at f9
    rw [g11, h11] at f11 f10
    rw [g10, h10] at f10
    exact go s2 v2 _ _ _ ⟨hY, by rw [f12, e34], f9, f11, f10⟩ r2 q2 es
  unfold Rdrawn_77
  by_cases z : s 56 2 = 0
  · rw [if_pos z, if_pos (show (0 : Int32) = 0 from rfl)]
    unfold Rdrawn_147
    rw [if_pos (show (0 : Int32) = 0 from rfl)]
    exact fin s (comS s) (Rcommittee v) 0 (yj_com h) (rcf_com h) rfl rfl rfl (by rw [comm_KQ.2 34 (by unfold KJ; omega)]; exact e12.symm) (QI_RI comm_KQ.1 rr) (KQ_QS comm_KQ qs) (by rw [if_pos z])
  · rw [if_neg z, if_neg (show ¬ (1 : Int32) = 0 by decide)]
    obtain ⟨T, hT, hT2, hT3⟩ := h.2.2.2.1
    have T64 := p2_64 hn hT
    have T0 : 0 < T := by
      refine Nat.pos_of_ne_zero (fun q => z ?_)
      rw [hT2, q]; rfl
    obtain ⟨b0, hb0, eb, pb, ebs⟩ := bits_ok2 (a := T) (by omega)
    have bpos := pb T0
    have ebit : bitI (s 56 2) = nI b0 := by rw [hT2, bit_e T T64, ebs]
    obtain ⟨k, c1, hk, d1, r1⟩ := below_v (s := s) (v := v) (k := b0) e12 bpos (by omega)
    obtain ⟨mm, hmm, eth, eone⟩ := one_all T T64 k (by omega) b0 (by omega) ebs hk
    have th : RthereAt (up v 64 34 c1) (nI k) = some (nI mm) := by
      unfold RthereAt
      exact thereAt_l 6 0 xF mm (nI k) (by rw [up_bn (by decide), hT3]; exact eth) (by have := xF_ge; omega)
    have one : oneI (up s 56 12 c1) (nI k) = nI mm := by
      unfold oneI
      rw [one_x (T := nI T) (by rw [up_bn (by decide)]; exact hT2)]; exact eone
    have Y2 := yj_15 (x := nI mm) (yj_34 (c := c1) (x := c1) h)
    obtain ⟨A, c2, hA, d2, r2⟩ := below_v (s := up s 56 12 c1) (v := up (up v 64 34 c1) 64 15 (nI mm)) (k := 10) (by rw [up_a, up_bn (by decide), up_a]) (by decide) (by decide)
    have Y3 := yj_34 (c := c2) (x := c2) Y2
    obtain ⟨B, c3, hB, d3, r3⟩ := below_v (s := up (up s 56 12 c1) 56 12 c2) (v := up (up (up v 64 34 c1) 64 15 (nI mm)) 64 34 c2) (k := 10) (by rw [up_a, up_a]) (by decide) (by decide)
    have Y4 := yj_34 (c := c3) (x := c3) Y3
    obtain ⟨C, c4, hC, d4, r4⟩ := below_v (s := up (up (up s 56 12 c1) 56 12 c2) 56 12 c3) (v := up (up (up (up v 64 34 c1) 64 15 (nI mm)) 64 34 c2) 64 34 c3) (k := 10) (by rw [up_a, up_a]) (by decide) (by decide)
    have Y5 := yj_34 (c := c4) (x := c4) Y4
    obtain ⟨s5, es5⟩ : ∃ s5, s5 = up (up (up (up s 56 12 c1) 56 12 c2) 56 12 c3) 56 12 c4 := ⟨_, rfl⟩
    obtain ⟨v5, ev5⟩ : ∃ v5, v5 = up (up (up (up (up v 64 34 c1) 64 15 (nI mm)) 64 34 c2) 64 34 c3) 64 34 c4 := ⟨_, rfl⟩
    have s5j : ∀ i, i ≠ 12 → s5 56 i = s 56 i := fun i hi => by rw [es5, up_bn hi, up_bn hi, up_bn hi, up_bn hi]
    have v5j : ∀ j, j ≠ 15 → j ≠ 34 → v5 64 j = v 64 j := fun j h1 h2 => by rw [ev5, up_bn h2, up_bn h2, up_bn h2, up_bn h1, up_bn h2]
    have v65 : v5 65 = v 65 := by rw [ev5, up_n (by decide), up_n (by decide), up_n (by decide), up_n (by decide), up_n (by decide)]
    have v15 : v5 64 15 = nI mm := by rw [ev5, up_bn (by decide), up_bn (by decide), up_bn (by decide), up_a]
    have e5 : v5 64 34 = s5 56 12 := by rw [ev5, es5, up_a, up_a]
    have rr5 : RI v5 := RI_65 v65 rr
    have qs5 : QS v5 := by
      unfold QS at *
      rw [v5j 11 (by decide) (by decide), v5j 16 (by decide) (by decide), v5j 18 (by decide) (by decide)]; exact qs
    have Y : YJ w r o n V g a17 a26 a29 s5 v5 := by rw [es5, ev5]; exact Y5
    obtain ⟨D, eD⟩ : ∃ D, D = 100 * A + 10 * B + C := ⟨_, rfl⟩
    have hD : D < 1000 := by omega
    have dC : numI (nI A) (nI B) (nI C) = nI D := by
      unfold numI
      show (nI A * nI 10 + nI B) * nI 10 + nI C = _
      rw [nI_mulx, nI_add, nI_mulx, nI_add]; congr 1; omega
    have dR : ((100 * nI A) + (10 * nI B)) + nI C = nI D := by
      show ((nI 100 * nI A) + (nI 10 * nI B)) + nI C = _
      rw [nI_mulx, nI_mulx, nI_add, nI_add, eD]
    have cls : drmS s r = if canI7 s5 (nI D) = 0 then comS s5 else decS s5 r (nI mm) (nI D) := by
      unfold drmS
      rw [ebit, d1]
      unfold drm1
      show drm2 r (oneI (up s 56 12 c1) (nI k)) (dbeP (up s 56 12 c1) (nI 10)) = _
      rw [one, d2]
      unfold drm2
      show drm3 r (nI mm) (nI A) (dbeP (up (up s 56 12 c1) 56 12 c2) (nI 10)) = _
      rw [d3]
      unfold drm3
      show drm4 r (nI mm) (nI A) (nI B) (dbeP (up (up (up s 56 12 c1) 56 12 c2) 56 12 c3) (nI 10)) = _
      rw [d4]
      unfold drm4
      show (if canI7 (up (up (up (up s 56 12 c1) 56 12 c2) 56 12 c3) 56 12 c4) (numI (nI A) (nI B) (nI C)) = 0 then comS (up (up (up (up s 56 12 c1) 56 12 c2) 56 12 c3) 56 12 c4) else decS (up (up (up (up s 56 12 c1) 56 12 c2) 56 12 c3) 56 12 c4) r (nI mm) (numI (nI A) (nI B) (nI C))) = _
      rw [dC, ← es5]
    have ref : ((Rbits (v 64 18)).bind fun q1 => (Rbelow v q1).bind fun p2 => (RthereAt p2.2 p2.1).bind fun q3 => (Rbelow (up p2.2 64 15 q3) (10)).bind fun p4 => (Rbelow p4.2 (10)).bind fun p5 => (Rbelow p5.2 (10)).bind fun p6 => Rdrawn_147 R (RtalksOf p6.2 (((100 * p4.1) + (10 * p5.1)) + p6.1)) y1 y2 y3 y4 y5 y6 y7 y8 (RcanNature (RtalksOf p6.2 (((100 * p4.1) + (10 * p5.1)) + p6.1)))) = Rdrawn_147 R (RtalksOf v5 (nI D)) y1 y2 y3 y4 y5 y6 y7 y8 (RcanNature (RtalksOf v5 (nI D))) := by
      rw [hT3, eb, Option.bind_some, r1, Option.bind_some]
      show ((RthereAt (up v 64 34 c1) (nI k)).bind fun q3 => (Rbelow (up (up v 64 34 c1) 64 15 q3) (nI 10)).bind fun p4 => (Rbelow p4.2 (nI 10)).bind fun p5 => (Rbelow p5.2 (nI 10)).bind fun p6 => Rdrawn_147 R (RtalksOf p6.2 (((100 * p4.1) + (10 * p5.1)) + p6.1)) y1 y2 y3 y4 y5 y6 y7 y8 (RcanNature (RtalksOf p6.2 (((100 * p4.1) + (10 * p5.1)) + p6.1)))) = _
      rw [th, Option.bind_some, r2, Option.bind_some]
      show ((Rbelow (up (up (up v 64 34 c1) 64 15 (nI mm)) 64 34 c2) (nI 10)).bind fun p5 => (Rbelow p5.2 (nI 10)).bind fun p6 => Rdrawn_147 R (RtalksOf p6.2 (((100 * nI A) + (10 * p5.1)) + p6.1)) y1 y2 y3 y4 y5 y6 y7 y8 (RcanNature (RtalksOf p6.2 (((100 * nI A) + (10 * p5.1)) + p6.1)))) = _
      rw [r3, Option.bind_some]
      show ((Rbelow (up (up (up (up v 64 34 c1) 64 15 (nI mm)) 64 34 c2) 64 34 c3) (nI 10)).bind fun p6 => Rdrawn_147 R (RtalksOf p6.2 (((100 * nI A) + (10 * nI B)) + p6.1)) y1 y2 y3 y4 y5 y6 y7 y8 (RcanNature (RtalksOf p6.2 (((100 * nI A) + (10 * nI B)) + p6.1)))) = _
      rw [r4, Option.bind_some]
      show Rdrawn_147 R (RtalksOf (up (up (up (up (up v 64 34 c1) 64 15 (nI mm)) 64 34 c2) 64 34 c3) 64 34 c4) (((100 * nI A) + (10 * nI B)) + nI C)) y1 y2 y3 y4 y5 y6 y7 y8 (RcanNature (RtalksOf (up (up (up (up (up v 64 34 c1) 64 15 (nI mm)) 64 34 c2) 64 34 c3) 64 34 c4) (((100 * nI A) + (10 * nI B)) + nI C))) = _
      rw [dR, ← ev5]
    rw [ref]
    have Yt := yj_t (x := nI D) Y
    obtain ⟨t12, t13, t14⟩ := talks_12 (u := v5) (x := nI D)
    obtain ⟨a0, a1, a2⟩ := amt_n D hD
    obtain ⟨cn1, cn2⟩ := yj_can Y hD
    have rt : RI (RtalksOf v5 (nI D)) := QI_RI talks_KQ.1 rr5
    have qt : QS (RtalksOf v5 (nI D)) := KQ_QS talks_KQ qs5
    rw [cn1]
    unfold Rdrawn_147
    by_cases c : canI7 s5 (nI D) = 0
    · rw [if_pos c]
      exact fin s5 (comS s5) _ _ (yj_com Yt) (rcf_com Yt) (s5j 9 (by decide)) (s5j 10 (by decide)) (s5j 11 (by decide)) (by rw [comm_KQ.2 34 (by unfold KJ; omega), talks_64 (by omega)]; exact e5) (QI_RI comm_KQ.1 rt) (KQ_QS comm_KQ qt) (by rw [if_neg z, cls, if_pos c])
    · rw [if_neg c]
      obtain ⟨u, eu, mv⟩ := moves_ok rt qt
      have Yu := yj_moves (b := mm) (D := D) Yt (by rw [talks_64 (by omega)]; exact v15) hmm hD (fun C' hC' => by
        rw [talks_64 (by omega)] at hC'
        obtain ⟨C2, G2, _, k2, _, _, k5⟩ := Y.2.2.2.2.2.1
        have l2 := cn2 c C2 k2 (by omega)
        by_cases q : C' < 2 ^ 31
        · exact cn2 c C' hC' q
        · omega) (by rw [t12, a0]) (by rw [t13, a1]) (by rw [t14, a2]) u eu
      rw [eu, Option.bind_some]
      exact fin s5 _ u _ Yu (rcf_dec Yt hD) (s5j 9 (by decide)) (s5j 10 (by decide)) (s5j 11 (by decide)) (by rw [mv.2.1 34 (by unfold KJ; omega) (by decide) (by decide), talks_64 (by omega)]; exact e5) (QI_RI mv.1 rt) (MV_QS mv qt) (by rw [if_neg z, cls, if_neg c])
theorem drw_49 (hy : y4 = 0 ∨ y4 = 1 ∨ y4 = 2 ∨ y4 = 3 ∨ y4 = 4 ∨ y4 = 5 ∨ y4 = 6) (hN : N ≤ 60) : ∀ (k j z : Nat) (s v : SG) (y5 y6 y7 : Int32), DJ w r o n V g a17 a26 a29 y5 y6 y7 s v → RI v → QS v → j + k = N → pc (Rdrawn_49 (Rdrawn_R z) v y1 y2 (nI N) y4 y5 y6 y7 (nI j)) (fun p => p.1 = drwPW (draSL r k j s seed) y4) := by
  intro k
  induction k with
  | zero =>
    intro j z s v y5 y6 y7 h rr qs hj
    obtain ⟨hY, e12, h9, h11, h10⟩ := h
    obtain ⟨C, G, c1, c2, c3, c4, c5⟩ := hY.2.2.2.2.2.1
    obtain ⟨T, hT, hT2, hT3⟩ := hY.2.2.2.1
    have e22 : s 57 2 = v 64 22 := hY.2.2.2.2.2.2.1
    have e7 : s 56 7 = v 64 24 := hY.2.2.2.2.2.2.2.1.2.1
    have dl : draSL r 0 j s seed = s := by rw [draSL]
    rw [dl]
    unfold Rdrawn_49
    rw [if_pos (k_ge hj)]
    unfold Rdrawn_218 drwPW
    rw [c1, c3, e22, hT2, e7, h9, h10, c2, c4, hT3]
    rcases hy with rfl | rfl | rfl | rfl | rfl | rfl | rfl <;> (simp (decide := true) only [if_true, if_false]; exact pc_s rfl)
  | succ k ih =>
    intro j z s v y5 y6 y7 h rr qs hj
    obtain ⟨hY, e12, h9, h11, h10⟩ := h
    have es : ((nI j / 5) - (nI j / 5) / 4 * 4) = nI (j / 5 % 4) := by
      have d1 : nI j / 5 = nI (j / 5) := nI_div (a := j) (b := 5) (by omega) (by decide) (by decide)
      rw [d1]
      exact nI_mod (a := j / 5) (b := 4) (by omega) (by decide) (by decide)
    have hY1 := yj_16 (c := j / 5 % 4) hY (Nat.mod_lt _ (by decide))
    have s2 : up s 56 1 (nI (j / 5 % 4)) 56 2 = s 56 2 := up_bn (by decide)
    obtain ⟨T, hT, hT2, hT3⟩ := hY.2.2.2.1
    have e18 : v 64 18 = s 56 2 := hT3.trans hT2.symm
    have rr1 : RI (up v 64 16 (nI (j / 5 % 4))) := RI_65 (up_n (by decide)) rr
    have qs1 : QS (up v 64 16 (nI (j / 5 % 4))) := by
      refine ⟨?_, ?_, ?_⟩
      · rw [up_bn (by decide)]; exact qs.1
      · rw [up_a]; exact ⟨_, rfl, by omega⟩
      · rw [up_bn (by decide)]; exact qs.2.2
    have e77 : Rdrawn_49 (Rdrawn_R z) v y1 y2 (nI N) y4 y5 y6 y7 (nI j) = Rdrawn_77 (Rdrawn_R z) (up v 64 16 (nI (j / 5 % 4))) y1 y2 (nI N) y4 y5 y6 y7 (nI j) (if up s 56 1 (nI (j / 5 % 4)) 56 2 = 0 then 0 else 1) := by
      unfold Rdrawn_49
      rw [if_neg (nI_ge (by omega) (by omega)), es, e18, s2]
      by_cases c : s 56 2 = 0
      · rw [if_pos c, if_pos c]
      · rw [if_neg c, if_neg c]
    have cls : draSL r (k + 1) j s seed = draSL r k (j + 1) (if up s 56 1 (nI (j / 5 % 4)) 56 2 = 0 then comS (up s 56 1 (nI (j / 5 % 4))) else drmS (up s 56 1 (nI (j / 5 % 4))) r) seed := by
      rw [draSL, es, s2]
      by_cases c : s 56 2 = 0
      · rw [if_pos c, if_pos c]
      · rw [if_neg c, if_neg c]
    rw [e77, cls]
    refine drw_77 hY1 (by rw [up_bn (by decide), up_bn (by decide)]; exact e12) rr1 qs1 (by rw [up_bn (by decide)]; exact h9) (by rw [up_bn (by decide)]; exact h11) (by rw [up_bn (by decide)]; exact h10) (fun s3 v3 z5 z6 z7 hD r3 q3 e3 => ?_)
    rw [← e3]
    cases z with
    | zero => exact fun _ e => nomatch e
    | succ z =>
      show pc (Rdrawn_49 (Rdrawn_R z) v3 y1 y2 (nI N) y4 z5 z6 z7 (nI j + 1)) _
      rw [← nI_succ]
      exact ih (j + 1) z s3 v3 z5 z6 z7 hD r3 q3 (by omega)
end DRW
theorem w06_n {x : Int32} (h : ¬ inI x 0 6 = 0) : x = 0 ∨ x = 1 ∨ x = 2 ∨ x = 3 ∨ x = 4 ∨ x = 5 ∨ x = 6 := by
  obtain ⟨a, ea, ha⟩ := inI_nI (b := 6) (by decide) h
  rcases (by omega : a = 0 ∨ a = 1 ∨ a = 2 ∨ a = 3 ∨ a = 4 ∨ a = 5 ∨ a = 6) with rfl | rfl | rfl | rfl | rfl | rfl | rfl
  · exact Or.inl ea
  · exact Or.inr (Or.inl ea)
  · exact Or.inr (Or.inr (Or.inl ea))
  · exact Or.inr (Or.inr (Or.inr (Or.inl ea)))
  · exact Or.inr (Or.inr (Or.inr (Or.inr (Or.inl ea))))
  · exact Or.inr (Or.inr (Or.inr (Or.inr (Or.inr (Or.inl ea)))))
  · exact Or.inr (Or.inr (Or.inr (Or.inr (Or.inr (Or.inr ea)))))
theorem w06_y {s : SG} {x : Int32} (h : inI x 0 6 = 0) : drwPW s x = -2 := by
  have n : ∀ k, k ≤ 6 → ¬ x = nI k := by
    intro k hk e
    rw [e] at h
    rcases (by omega : k = 0 ∨ k = 1 ∨ k = 2 ∨ k = 3 ∨ k = 4 ∨ k = 5 ∨ k = 6) with rfl | rfl | rfl | rfl | rfl | rfl | rfl <;> exact absurd h (by decide)
  unfold drwPW
  rw [if_neg (show ¬ x = (0 : Int32) from n 0 (by omega)), if_neg (show ¬ x = (1 : Int32) from n 1 (by omega)), if_neg (show ¬ x = (2 : Int32) from n 2 (by omega)), if_neg (show ¬ x = (3 : Int32) from n 3 (by omega)), if_neg (show ¬ x = (4 : Int32) from n 4 (by omega)), if_neg (show ¬ x = (5 : Int32) from n 5 (by omega)), if_neg (show ¬ x = (6 : Int32) from n 6 (by omega))]
theorem in60 {x : Int32} : inI x 0 60 = 0 ↔ (x < 0 ∨ ¬ x ≤ 60) := by
  unfold inI
  by_cases c : x < 0
  · rw [if_pos c]; exact ⟨fun _ => Or.inl c, fun _ => rfl⟩
  · rw [if_neg c]
    by_cases c2 : 60 < x
    · rw [if_pos c2]; exact ⟨fun _ => Or.inr (Int32.not_le.mpr c2), fun _ => rfl⟩
    · rw [if_neg c2]; exact ⟨fun h => absurd h (by decide), fun h => h.elim (fun g => absurd g c) (fun g => absurd (Int32.not_lt.mp c2) g)⟩
/-- the reference's drawn on s1 -/
theorem DR_fin {s s1 : SG} {x1 x2 x3 x4 : Int32} {p : Int32 × SG} (hn : SIMn s1) (rr : RI s1) (lo : ∀ c, c < 42 → s1 c = s c) (e2 : Rdrawn s1 x1 x2 x3 x4 = some p) : (repO s x1 = none → p.1 = -2) ∧ ∀ r, repO s x1 = some r → (inI x3 0 60 = 0 → p.1 = -2) ∧ ∀ m, m ≤ 60 → x3 = nI m → p.1 = (drwP s r m x2 x4).1 := by
  obtain ⟨n0, en, hn2⟩ := rr.1.1 0 (by omega)
  have re : repO s1 x1 = repO s x1 := repO_g lo
  obtain ⟨u0, eu0, qi0, qs0⟩ := isRepublic_ok (x := x1) rr
  unfold Rdrawn at e2
  rcases rep_sel (x := x1) hn en hn2 with ⟨z, e⟩ | ⟨j, hj, hjn, ex, z, e⟩
  · rw [isRep_n z, Option.bind_some, if_pos rfl] at e2
    rw [re] at e
    exact ⟨fun _ => by cases e2; rfl, fun r er => by (rw [e] at er; cases er)⟩
  · obtain ⟨u, eu, u1, bg⟩ := isRep_w ex hj z
    rw [eu] at eu0
    have hu := Option.some.inj eu0
    subst hu
    have g0 := rep_q hn hj en hn2 hjn
    have n1 : ¬ u.1 = 0 := by rw [u1]; decide
    rw [eu, Option.bind_some, if_neg n1] at e2
    rw [re] at e
    refine ⟨fun q => by (rw [e] at q; cases q), fun r er => ?_⟩
    rw [e] at er
    obtain rfl : 6 + 8 * j = r := Option.some.inj er
    refine ⟨fun c => ?_, fun m hm em => ?_⟩
    · rw [if_pos c] at e2; cases e2; rfl
    · have c : ¬ inI x3 0 60 = 0 := by
        intro q
        rcases in60.1 q with g | g
        · rw [em] at g; exact absurd g (nI_pos (by omega))
        · rw [em] at g; exact absurd (nI_le2 (a := m) (b := 60) hm (by decide)) g
      rw [if_neg c] at e2
      unfold drwP
      by_cases c4 : inI x4 0 6 = 0
      · rw [if_pos c4] at e2
        rw [w06_y c4]; cases e2; rfl
      · rw [if_neg c4, em] at e2
        obtain ⟨n, V, rq⟩ := RQ_of (v := up s1 64 11 (nI (610 + 118 * j))) (o := 610 + 118 * j) (s := s1) (r := 6 + 8 * j) (by rw [up_n (by decide)]; exact g0) up_a (by omega)
        have rb : RB (up s1 64 11 (nI (610 + 118 * j))) (610 + 118 * j) := RB_v (RB_of g0) (up_n (by decide))
        have rq' : RQ s (6 + 8 * j) (up s1 64 11 (nI (610 + 118 * j))) (610 + 118 * j) n V := RQ_s rq (fun i hi => (lo _ (by omega)).symm)
        have yj := yj_34 (c := x2) (x := x2) (yj_0 (s := s) (w := s) (by omega) (fun _ _ => rfl) rq' rb bg rfl rfl)
        obtain ⟨_, _, ⟨o9, o10, o11⟩, _⟩ := ope_f (s := s) (r := 6 + 8 * j) (by omega)
        have dj : DJ s (6 + 8 * j) (610 + 118 * j) n V _ _ _ _ 0 0 0 (up (opeS s (6 + 8 * j)) 56 12 x2) (up u.2 64 34 x2) := ⟨yj, by rw [up_a, up_a], by rw [up_bn (by decide)]; exact o9, by rw [up_bn (by decide)]; exact o11, by rw [up_bn (by decide)]; exact o10⟩
        have qs : QS u.2 := (qs0.resolve_left n1).1
        have r2 : RI (up u.2 64 34 x2) := RI_65 (up_n (by decide)) (QI_RI qi0 rr)
        have q2 : QS (up u.2 64 34 x2) := by
          unfold QS at *
          rw [up_bn (by decide), up_bn (by decide), up_bn (by decide)]; exact qs
        exact drw_49 (seed := x2) (y1 := x1) (y2 := x2) (w06_n c4) hm m 0 xF _ _ 0 0 0 dj r2 q2 (by omega) p e2
theorem CE_drawn {s : SG} {x1 x2 x3 x4 : Int32} (hP : wLoc SIM1) (h : INVP SIM1 K s) : ∃ v s1 s2, xN sc (d + 11) 100 [.inr (.inr (.inl (some 0))), .inl x1, .inl x2, .inl x3, .inl x4] (wl K s) = some (some (.inl v), wl K s1) ∧ xN sc (d + 11) 279 [.inr (.inr (.inl (some 64))), .inl x1, .inl x2, .inl x3, .inl x4] (wl K s1) = some (some (.inl v), wl K s2) ∧ INVP SIM1 K s2 := by
  have hK := INVP_SH h
  have hn := SIM_n.1 (INVP_P h)
  have rr := INVP_RI h
  have tv := TB_TV (INVP_TB h)
  have fin : ∀ (s1 : SG) (v : Int32), xN sc (d + 11) 100 [.inr (.inr (.inl (some 0))), .inl x1, .inl x2, .inl x3, .inl x4] (wl K s) = some (some (.inl v), wl K s1) → (∀ c, (c < 42 ∨ 64 ≤ c) → s1 c = s c) → (∀ p, Rdrawn s1 x1 x2 x3 x4 = some p → p.1 = v) → ∃ v s1 s2, xN sc (d + 11) 100 [.inr (.inr (.inl (some 0))), .inl x1, .inl x2, .inl x3, .inl x4] (wl K s) = some (some (.inl v), wl K s1) ∧ xN sc (d + 11) 279 [.inr (.inr (.inl (some 64))), .inl x1, .inl x2, .inl x3, .inl x4] (wl K s1) = some (some (.inl v), wl K s2) ∧ INVP SIM1 K s2 := by
    intro s1 v e1 fr hv
    have r1 : RI s1 := RI_65 (fr 65 (by omega)) rr
    have q2 := r_drawn (sc := sc) (d := d + 3) (s := s1) (x1 := x1) (x2 := x2) (x3 := x3) (x4 := x4) hK
    obtain ⟨p, e2, q⟩ : ok (Rdrawn s1 x1 x2 x3 x4) (fun p => QI s1 p.2) := drawn_ok r1
    have e3 := hv p e2
    rw [e2] at q2
    exact ⟨v, s1, p.2, e1, by rw [← e3]; exact q2, INVP_q hP h fr q⟩
  have AF := fun (s1 : SG) (fr : ∀ c, (c < 42 ∨ 64 ≤ c) → s1 c = s c) (p : Int32 × SG) (e : Rdrawn s1 x1 x2 x3 x4 = some p) => DR_fin (SIMn_g hn (fun c hc => fr c (Or.inl hc)) (fr 65 (by omega))) (RI_65 (fr 65 (by omega)) rr) (fun c hc => fr c (Or.inl hc)) e
  rcases repO_c (x := x1) hK tv with e1 | ⟨r, e1, hr, br, zr⟩
  · exact fin s (-2) (c_drawn_a (d := d + 8) (h := hK) (e1 := e1)) (fun _ _ => rfl) (fun p e => (AF s (fun _ _ => rfl) p e).1 e1)
  by_cases p1 : x3 < 0
  · exact fin s (-2) (c_drawn_b (d := d + 8) (hr := hr) (h := hK) (e1 := e1) (p1 := p1)) (fun _ _ => rfl) (fun p e => ((AF s (fun _ _ => rfl) p e).2 r e1).1 (in60.2 (Or.inl p1)))
  by_cases p2 : x3 ≤ 60
  · obtain ⟨m, hm0, em⟩ := nat_of (n := 61) p1 (Int32.lt_of_le_of_lt p2 (by decide)) (by decide)
    have hm : m ≤ 1000 := by omega
    have cc := c_drawn_d (sc := sc) (d := d + 3) (x := x1) (y := x2) (m := m) (v := x4) (hr := hr) (h := hK) (br := br) (e1 := e1) (zr := zr) (hm := hm) (p1 := by rw [← em]; exact p1) (p2 := by rw [← em]; exact p2)
    rw [← em] at cc
    exact fin _ _ cc (fun c hc => drwP_lo hc) (fun p e => ((AF _ (fun c hc => drwP_lo hc) p e).2 r e1).2 m (by omega) em)
  · exact fin s (-2) (c_drawn_c (d := d + 8) (hr := hr) (h := hK) (e1 := e1) (p1 := p1) (p2 := p2)) (fun _ _ => rfl) (fun p e => ((AF s (fun _ _ => rfl) p e).2 r e1).1 (in60.2 (Or.inr p2)))
end XVH
end
section
section XVI
variable {sc : Nat × (Nat → Int32)} {d : Nat} {K : List KD} {r q t a B m : Nat}
/-! reshuffles on both sides -/
section RSH
variable {s v : SG} {o n V c : Nat} {y1 y2 : Int32}
theorem wan_v {k i j : Nat} (h : RQ s r v o n V) (rb : RB v o) (hk : k < 6) (hi : i < 4) (hj : j < 3) : ∃ x, x ≤ 9 ∧ Rwants v (nI k) (nI i) (nI j) = some (nI x) ∧ wanI s r (nI k) (nI i * 3 + nI j) = nI x := by
  obtain ⟨x, ex, hx⟩ := rb.2.2.2 k (3 * i + j) hk (by omega)
  refine ⟨x, hx, ?_, ?_⟩
  · rw [q_wants (rq_RH h) rfl rfl rfl hk hi hj, rq_of h, show 16 + 18 * k + 3 * i + j = 16 + 18 * k + (3 * i + j) by omega, ex]
  · have ix : nI k * 4 * 3 + (nI i * 3 + nI j) = nI (12 * k + (3 * i + j)) := by
      show nI k * nI 4 * nI 3 + (nI i * nI 3 + nI j) = _
      rw [nI_mulx, nI_mulx, nI_mulx, nI_add, nI_add]; congr 1; omega
    unfold wanI
    rw [ix, cl_nI (by omega) (by decide), h.2.2.2.2.2.2.2.2 k (3 * i + j) hk (by omega), ex]
/-- what three in office propose for a season -/
theorem pro_v {i : Nat} (h : RQ s r v o n V) (rb : RB v o) (hc : c < 216) (hi : i < 4) : ∃ D, D < 1000 ∧ Rproposal v (nI c) (nI i) = some (nI D) ∧ proI s r (nI c) (nI i) = nI D := by
  obtain ⟨c1, c2, c3⟩ := code_n hc
  obtain ⟨x, hx, x1, x2⟩ := wan_v (k := c / 36) (i := i) (j := 0) h rb (by omega) hi (by decide)
  obtain ⟨y, hy, e1, e2⟩ := wan_v (k := c / 6 % 6) (i := i) (j := 1) h rb (by omega) hi (by decide)
  obtain ⟨z, hz, z1, z2⟩ := wan_v (k := c % 6) (i := i) (j := 2) h rb (by omega) hi (by decide)
  have x1' : Rwants v (nI (c / 36)) (nI i) 0 = some (nI x) := x1
  have e1' : Rwants v (nI (c / 6 % 6)) (nI i) 1 = some (nI y) := e1
  have z1' : Rwants v (nI (c % 6)) (nI i) 2 = some (nI z) := z1
  have x2' : wanI s r (nI (c / 36)) (nI i * 3 + 0) = nI x := x2
  have e2' : wanI s r (nI (c / 6 % 6)) (nI i * 3 + 1) = nI y := e2
  have z2' : wanI s r (nI (c % 6)) (nI i * 3 + 2) = nI z := z2
  refine ⟨100 * x + 10 * y + z, by omega, ?_, ?_⟩
  · unfold Rproposal
    rw [c1, c2, c3, x1', Option.bind_some, e1', Option.bind_some, z1', Option.bind_some]
    show some ((nI 100 * nI x + nI 10 * nI y) + nI z) = _
    rw [nI_mulx, nI_mulx, nI_add, nI_add]
  · unfold proI
    rw [c1, c2, c3, x2', e2', z2']
    unfold numI
    show (nI x * nI 10 + nI y) * nI 10 + nI z = _
    rw [nI_mulx, nI_add, nI_mulx, nI_add]; congr 1; omega
theorem ars_v (h : RQ s r v o n V) (hc : c < 216) : RareSeats v (nI c) = some (arsI s r (nI c)) := by
  obtain ⟨m1, k1⟩ := rq_mn (x := nI c / 36) h
  obtain ⟨m2, k2⟩ := rq_mn (x := nI c / 6 - nI c / 6 / 6 * 6) h
  obtain ⟨m3, k3⟩ := rq_mn (x := nI c - nI c / 6 * 6) h
  unfold RareSeats arsI
  rw [m1, Option.bind_some, m2, m3]
  by_cases g1 : inI (nI c / 36) 0 (nI n - 1) = 0
  · rw [if_pos g1, if_pos (k1.2 g1)]
  rw [if_neg g1, if_neg (fun z => g1 (k1.1 z)), Option.bind_some]
  by_cases g2 : inI (nI c / 6 - nI c / 6 / 6 * 6) 0 (nI n - 1) = 0
  · rw [if_pos g2, if_pos (k2.2 g2)]
  rw [if_neg g2, if_neg (fun z => g2 (k2.1 z)), Option.bind_some]
  by_cases g3 : inI (nI c - nI c / 6 * 6) 0 (nI n - 1) = 0
  · rw [if_pos g3, if_pos (k3.2 g3)]
  rw [if_neg g3, if_neg (fun z => g3 (k3.1 z))]
  by_cases g4 : nI c / 36 = nI c / 6 - nI c / 6 / 6 * 6
  · rw [if_pos g4, if_pos g4]
  rw [if_neg g4, if_neg g4]
  by_cases g5 : nI c / 6 - nI c / 6 / 6 * 6 = nI c - nI c / 6 * 6
  · rw [if_pos g5, if_pos g5]
  rw [if_neg g5, if_neg g5]
  by_cases g6 : nI c / 36 = nI c - nI c / 6 * 6
  · rw [if_pos g6, if_pos g6]
  · rw [if_neg g6, if_neg g6]
/-- what stays while seats are gone through -/
def RSJ (s : SG) (r : Nat) (v : SG) (o n V : Nat) : Prop := RQ s r v o n V ∧ RB v o ∧ v 64 18 = allI s r
theorem rsj_g {v2 : SG} (h : RSJ s r v o n V) (e65 : v2 65 = v 65) (e11 : v2 64 11 = v 64 11) (e18 : v2 64 18 = v 64 18) : RSJ s r v2 o n V := ⟨RQ_v h.1 e11 e65, RB_v h.2.1 e65, e18.trans h.2.2⟩
theorem rai_15 (hc : c < 216) : ∀ (k i z : Nat) (v : SG) (y : Int32), RSJ s r v o n V → v 64 15 = nI (c / 36) → v 64 16 = nI i → i + k = 4 → pc (Rrainy_15 (Rrainy_R z) v (nI c) y) (fun p => p.1 = wetIL s r k i (nI c) (nI (c / 36)) y ∧ RSJ s r p.2 o n V) := by
  intro k
  induction k with
  | zero =>
    intro i z v y h e15 e16 hi
    unfold Rrainy_15
    rw [e16, if_pos (show (4 : Int32) ≤ nI i from k_ge (m := 4) hi), wetIL]
    exact pc_s ⟨rfl, h⟩
  | succ k ih =>
    intro i z v y h e15 e16 hi
    obtain ⟨D, hD, p1, p2⟩ := pro_v (i := i) h.1 h.2.1 hc (by omega)
    obtain ⟨t12, t13, t14⟩ := talks_12 (u := v) (x := nI D)
    have hT := rsj_g (v2 := RtalksOf v (nI D)) h (talks_c (by decide)) (talks_64 (by omega)) (talks_64 (by omega))
    have f15 : RtalksOf v (nI D) 64 15 = nI (c / 36) := by rw [talks_64 (by omega)]; exact e15
    have f16 : RtalksOf v (nI D) 64 16 = nI i := by rw [talks_64 (by omega)]; exact e16
    have go : ∀ x y2, y + x = y2 → pc (Rrainy_60 (Rrainy_R z) (RtalksOf v (nI D)) (nI c) y x y) (fun p => p.1 = wetIL s r k (i + 1) (nI c) (nI (c / 36)) y2 ∧ RSJ s r p.2 o n V) := by
      intro x y2 hx
      unfold Rrainy_60
      rw [f16, hx]
      cases z with
      | zero => exact fun _ e => nomatch e
      | succ z =>
        show pc (Rrainy_15 (Rrainy_R z) (up (RtalksOf v (nI D)) 64 16 (nI i + 1)) (nI c) y2) _
        rw [← nI_succ]
        exact ih (i + 1) z _ y2 (rsj_g hT (up_n (by decide)) (up_bn (by decide)) (up_bn (by decide))) (by rw [up_bn (by decide)]; exact f15) up_a (by omega)
    unfold Rrainy_15
    rw [e16, if_neg (show ¬ (4 : Int32) ≤ nI i from k_lt (m := 4) hi (by decide)), p1, Option.bind_some, t12, wetIL, p2]
    by_cases c1 : amtI (nI D) 0 ≤ 0
    · rw [if_pos c1, if_pos c1]; exact go 0 y (Int32.add_zero y)
    rw [if_neg c1, if_neg c1]
    have hSE : SE (RtalksOf v (nI D)) := ⟨by unfold seN; rw [f16, nI_clamp (by omega)], by unfold seN; rw [f16, nI_clamp (by omega)]; omega⟩
    rw [q_agreeing (rq_RH hT.1) hSE (rq_MZ hT.1), Option.bind_some, q_isPassed (rq_RH hT.1) (rq_MZ hT.1), Option.bind_some, rq_agr hT.1 (by omega) (by omega) f15 f16 t12 t13 t14, rq_pas hT.1 hT.2.2]
    by_cases c2 : pasN (RtalksOf v (nI D)) (agmT (RtalksOf v (nI D))) = 0
    · rw [if_pos c2, if_pos c2]; exact go 0 y (Int32.add_zero y)
    · rw [if_neg c2, if_neg c2]; exact go 1 (y + 1) rfl
theorem res_18 {x1 : Int32} : ∀ (k j z : Nat) (v : SG) (y3 y4 : Int32), RSJ s r v o n V → j + k = 216 → pc (Rreshuffle_18 (Rreshuffle_R z) v y1 y2 y3 y4 (nI j)) (fun p => p.1 = resIbL s r k j x1 y2 y3 y4) := by
  intro k
  induction k with
  | zero =>
    intro j z v y3 y4 h hj
    unfold Rreshuffle_18
    rw [if_pos (show (216 : Int32) ≤ nI j from k_ge (m := 216) hj), resIbL]
    by_cases g : y2 = 0
    · rw [if_pos g, if_pos g]; exact pc_s rfl
    · rw [if_neg g, if_neg g]; exact pc_s rfl
  | succ k ih =>
    intro j z v y3 y4 h hj
    have go : ∀ v2 y3 y4, RSJ s r v2 o n V → pc (Rreshuffle_R z v2 y1 y2 y3 y4 (nI j + 1)) (fun p => p.1 = resIbL s r k (j + 1) x1 y2 y3 y4) := by
      intro v2 y3 y4 h2
      cases z with
      | zero => exact fun _ e => nomatch e
      | succ z =>
        show pc (Rreshuffle_18 (Rreshuffle_R z) v2 y1 y2 y3 y4 (nI j + 1)) _
        rw [← nI_succ]
        exact ih (j + 1) z v2 y3 y4 h2 (by omega)
    obtain ⟨c1, _, _⟩ := code_n (c := j) (by omega)
    unfold Rreshuffle_18
    rw [if_neg (show ¬ (216 : Int32) ≤ nI j from k_lt (m := 216) hj (by decide)), ars_v h.1 (by omega), Option.bind_some, resIbL]
    by_cases g : arsI s r (nI j) = 0
    · rw [if_pos g, if_pos g]; exact go v y3 y4 h
    rw [if_neg g, if_neg g]
    have rain : pc (Rrainy v (nI j)) (fun p => p.1 = wetI s r (nI j) ∧ RSJ s r p.2 o n V) := by
      unfold Rrainy wetI
      rw [c1]
      exact rai_15 (c := j) (by omega) 4 0 xF _ 0 (rsj_g h (by rw [up_n (by decide), up_n (by decide)]) (by rw [up_bn (by decide), up_bn (by decide)]) (by rw [up_bn (by decide), up_bn (by decide)])) (by rw [up_bn (by decide), up_a]) up_a rfl
    refine pc_b rain (fun p hp => ?_)
    obtain ⟨hp1, hp2⟩ := hp
    unfold Rreshuffle_59
    rw [← hp1]
    by_cases g2 : p.1 ≤ y4
    · rw [if_pos g2, if_pos g2, if_pos g2]; exact go _ _ _ hp2
    · rw [if_neg g2, if_neg g2, if_neg g2]; exact go _ _ _ hp2
end RSH
theorem CE_reshuffle {s : SG} {x1 x2 : Int32} (hP : wLoc SIM1) (h : INVP SIM1 K s) : ∃ v s1 s2, xN sc (d + 11) 129 [.inr (.inr (.inl (some 0))), .inl x1, .inl x2] (wl K s) = some (some (.inl v), wl K s1) ∧ xN sc (d + 11) 269 [.inr (.inr (.inl (some 64))), .inl x1, .inl x2] (wl K s1) = some (some (.inl v), wl K s2) ∧ INVP SIM1 K s2 := by
  have hK := INVP_SH h
  have hn := SIM_n.1 (INVP_P h)
  have rr := INVP_RI h
  have q2 := r_reshuffle (sc := sc) (d := d + 3) (s := s) (x1 := x1) (x2 := x2) hK
  obtain ⟨p, e2, qi⟩ : ok (Rreshuffle s x1 x2) (fun p => QI s p.2) := reshuffle_ok rr
  rw [e2] at q2
  have I := INVP_q hP h (s1 := s) (fun _ _ => rfl) qi
  unfold Rreshuffle at e2
  obtain ⟨n0, en, hn2⟩ := rr.1.1 0 (by omega)
  rcases rep_sel (x := x1) hn en hn2 with ⟨z, e⟩ | ⟨j, hj, hjn, ex, z, e⟩
  · rw [isRep_n z, Option.bind_some, if_pos rfl] at e2
    have ep : p.1 = -1 := by cases e2; rfl
    exact ⟨p.1, s, p.2, by rw [ep]; exact c_resI_a (sc := sc) (d := d + 8) (s := s) (x := x1) (g := x2) hK e, q2, I⟩
  · obtain ⟨u, eu, u1, bg⟩ := isRep_w ex hj z
    have g0 := rep_q hn hj en hn2 hjn
    rw [eu, Option.bind_some, if_neg (show ¬ u.1 = 0 by rw [u1]; decide)] at e2
    obtain ⟨n, V, rq⟩ := RQ_of (v := up s 64 11 (nI (610 + 118 * j))) (o := 610 + 118 * j) (s := s) (r := 6 + 8 * j) (by rw [up_n (by decide)]; exact g0) up_a (by omega)
    have rb : RB (up s 64 11 (nI (610 + 118 * j))) (610 + 118 * j) := RB_v (RB_of g0) (up_n (by decide))
    have u65 : u.2 65 = up s 64 11 (nI (610 + 118 * j)) 65 := bg.1 65 (by decide) (by decide) (by decide)
    have u11 : u.2 64 11 = up s 64 11 (nI (610 + 118 * j)) 64 11 := bg.2.1 11 (by omega)
    have J : RSJ s (6 + 8 * j) u.2 (610 + 118 * j) n V := ⟨RQ_v rq u11 u65, RB_v rb u65, by rw [bg.2.2.1.1, rq_all rq, rq.2.2.1.2]⟩
    obtain ⟨_, _, e3⟩ := rq_n rq
    have zr : SZ s (6 + 8 * j) := ⟨by rw [e3]; exact rq.2.2.1.1, by rw [e3]; exact rq.2.1.1⟩
    have cc := c_resI_b (sc := sc) (d := d + 6) (s := s) (x := x1) (g := x2) (rp_j hK hj) hK e zr
    have fin := res_18 (y1 := x1) (y2 := x2) (x1 := x1) 216 0 xF u.2 (-1) (-1) J rfl p e2
    refine ⟨p.1, s, p.2, ?_, q2, I⟩
    rw [cc, fin]; rfl
end XVI
end
section
section XSF
variable {sc : Nat × (Nat → Int32)} {d : Nat} {K : List KD} {s : SG}
/-! the law: answers that are the same, all that is told kept the same -/
theorem CE_feed {x1 x2 x3 x4 x5 : Int32} (hP : PGd SIM1) (h : INVP SIM1 K s) : ∃ v s1 s2, xN sc (d + 11) 72 [.inr (.inr (.inl (some 0))), .inl x1, .inl x2, .inl x3, .inl x4, .inl x5] (wl K s) = some (some (.inl v), wl K s1) ∧ xN sc (d + 11) 151 [.inr (.inr (.inl (some 64))), .inl x1, .inl x2, .inl x3, .inl x4, .inl x5] (wl K s1) = some (some (.inl v), wl K s2) ∧ INVP SIM1 K s2 := by
  obtain ⟨p, s2, e1, e2, e3, i⟩ := CQ_feed (sc := sc) (d := d) (x1 := x1) (x2 := x2) (x3 := x3) (x4 := x4) (x5 := x5) hP h
  have e := (FD_sim (INVP_TB h) (INVP_RI h) (INVP_P h) e3).1
  rw [e] at e1
  exact ⟨_, _, s2, e1, e2, i⟩
theorem CE_end {x1 : Int32} (hP : PGd SIM1) (h : INVP SIM1 K s) : ∃ v s1 s2, xN sc (d + 11) 74 [.inr (.inr (.inl (some 0))), .inl x1] (wl K s) = some (some (.inl v), wl K s1) ∧ xN sc (d + 11) 152 [.inr (.inr (.inl (some 64))), .inl x1] (wl K s1) = some (some (.inl v), wl K s2) ∧ INVP SIM1 K s2 := by
  obtain ⟨p, s2, e1, e2, e3, i⟩ := CQ_end (sc := sc) (d := d) (x1 := x1) hP h
  have e := (EN_sim (INVP_P h) e3).1
  rw [e] at e1
  exact ⟨_, _, s2, e1, e2, i⟩
theorem CE_text {x1 x2 : Int32} (hP : PGd SIM1) (h : INVP SIM1 K s) : ∃ v s1 s2, xN sc (d + 11) 75 [.inr (.inr (.inl (some 0))), .inl x1, .inl x2] (wl K s) = some (some (.inl v), wl K s1) ∧ xN sc (d + 11) 185 [.inr (.inr (.inl (some 64))), .inl x1, .inl x2] (wl K s1) = some (some (.inl v), wl K s2) ∧ INVP SIM1 K s2 := by
  obtain ⟨p, s2, e1, e2, e3, i⟩ := CQ_text (sc := sc) (d := d) (x1 := x1) (x2 := x2) hP h
  have e := (TX_sim (INVP_TB h) (INVP_RI h) (INVP_P h) e3).1
  rw [e] at e1
  exact ⟨_, _, s2, e1, e2, i⟩
theorem CE_fault {x1 : Int32} (_hP : wLoc SIM1) (h : INVP SIM1 K s) : ∃ v s1 s2, xN sc (d + 11) 78 [.inr (.inr (.inl (some 0))), .inl x1] (wl K s) = some (some (.inl v), wl K s1) ∧ xN sc (d + 11) 186 [.inr (.inr (.inl (some 64))), .inl x1] (wl K s1) = some (some (.inl v), wl K s2) ∧ INVP SIM1 K s2 := by
  have hK := INVP_SH h
  have hn := SIM_n.1 (INVP_P h)
  have q2 := r_fault (sc := sc) (d := d + 10) (s := s) (x1 := x1) hK
  have e : Rfault s x1 = some (fauI s x1) := by
    unfold Rfault fauI
    by_cases c0 : x1 = 0
    · rw [if_pos c0, if_pos c0, rd_nI (x := 7) (e := 7) rfl (by decide) (by decide), hn.1.2.1]; rfl
    · rw [if_neg c0, if_neg c0]
      by_cases c1 : x1 = 1
      · rw [if_pos c1, if_pos c1, rd_nI (x := 8) (e := 8) rfl (by decide) (by decide), hn.1.2.2]; rfl
      · rw [if_neg c1, if_neg c1]
  rw [e] at q2
  exact ⟨fauI s x1, s, s, c_fault (sc := sc) (d := d + 10) (s := s) (w := x1) hK, q2, h⟩
theorem CE_count {x1 : Int32} (_hP : wLoc SIM1) (h : INVP SIM1 K s) : ∃ v s1 s2, xN sc (d + 11) 79 [.inr (.inr (.inl (some 0))), .inl x1] (wl K s) = some (some (.inl v), wl K s1) ∧ xN sc (d + 11) 280 [.inr (.inr (.inl (some 64))), .inl x1] (wl K s1) = some (some (.inl v), wl K s2) ∧ INVP SIM1 K s2 := by
  have hK := INVP_SH h
  have hn := SIM_n.1 (INVP_P h)
  have q2 := r_count (sc := sc) (d := d + 9) (s := s) (x1 := x1) hK
  have e : Rcount s x1 = some (couI s x1) := by
    unfold Rcount couI
    by_cases c0 : inI x1 0 5 = 0
    · rw [if_pos c0]
      rcases inI5_n.1 c0 with g | g
      · rw [if_pos g]
      · rw [if_pos (Int32.not_lt.mp g)]; split <;> rfl
    · obtain ⟨k, ek, hk⟩ := inI_nI (b := 5) (by decide) c0
      have g1 : ¬ x1 < 0 := fun g => c0 (inI5_n.2 (Or.inl g))
      have g2 : ¬ 6 ≤ x1 := fun g => c0 (inI5_n.2 (Or.inr (Int32.not_lt.mpr g)))
      rw [if_neg c0, if_neg g1, if_neg g2, rd_nI ek (by omega) (by decide), ek, cl_nI (by omega) (by decide), hn.2.2.1 k (by omega)]; rfl
  rw [e] at q2
  exact ⟨couI s x1, s, s, c_count (sc := sc) (d := d + 9) (s := s) (w := x1) hK, q2, h⟩
end XSF
end
