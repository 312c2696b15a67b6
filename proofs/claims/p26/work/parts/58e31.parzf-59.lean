section
section XVJ
variable {sc : Nat × (Nat → Int32)} {d : Nat} {K : List KD} {r q t a B m : Nat}
/-! leaks on both sides -/
def cnB (f : Nat → Bool) : Nat → Nat → Nat → Nat
  | 0, _, c => c
  | i + 1, j, c => if f j = true then cnB f i (j + 1) (c + 1) else cnB f i (j + 1) c
theorem cnB_le {f : Nat → Bool} : ∀ i j c, c ≤ cnB f i j c ∧ cnB f i j c ≤ c + i := by
  intro i
  induction i with
  | zero => intro j c; rw [cnB]; omega
  | succ i ih =>
    intro j c
    rw [cnB]
    by_cases g : f j = true
    · rw [if_pos g]; have := ih (j + 1) (c + 1); omega
    · rw [if_neg g]; have := ih (j + 1) c; omega
theorem cnB_pos {f : Nat → Bool} : ∀ i j c, c < cnB f i j c ↔ ∃ x, j ≤ x ∧ x < j + i ∧ f x = true := by
  intro i
  induction i with
  | zero =>
    intro j c
    rw [cnB]
    exact ⟨fun h => absurd h (by omega), fun ⟨x, h1, h2, _⟩ => absurd h2 (by omega)⟩
  | succ i ih =>
    intro j c
    rw [cnB]
    by_cases g : f j = true
    · rw [if_pos g]
      have := (cnB_le (f := f) i (j + 1) (c + 1)).1
      exact ⟨fun _ => ⟨j, by omega, by omega, g⟩, fun _ => by omega⟩
    · rw [if_neg g, ih (j + 1) c]
      refine ⟨fun ⟨x, h1, h2, h3⟩ => ⟨x, by omega, by omega, h3⟩, fun ⟨x, h1, h2, h3⟩ => ?_⟩
      by_cases e : x = j
      · subst e; exact absurd h3 g
      · exact ⟨x, by omega, by omega, h3⟩
/-- a leak that does not tell what the day shows -/
def wrg (s : SG) (q A j : Nat) : Bool := Bool.xor (decide (parI s q (nI j) 1 = 1)) (A.testBit (parI s q (nI j) 0).toNatClampNeg)
theorem or_T8 : ∀ k, k < 8 → ∀ A, A < 2 ^ k → nI A ||| (1 <<< (nI k &&& 31)) = nI (A ||| 2 ^ k) := by decide +kernel
theorem or_P8 : ∀ k, k < 8 → ∀ A, A < 256 → nI A ||| nI (2 ^ k) = nI (A ||| 2 ^ k) := by decide +kernel
theorem bit_1 : ∀ W, W < 256 → bitI (nI W) = 1 → ∃ k, k < 8 ∧ W = 2 ^ k := by decide +kernel
theorem bit_1' : ∀ k, k < 8 → bitI (nI (2 ^ k)) = 1 := by decide +kernel
theorem pow_8 : ∀ a, a < 8 → ∀ b, b < 8 → 2 ^ a = 2 ^ b → a = b := by decide
theorem put_b {U j : Nat} (b : Bool) (hU : U < 2 ^ j) : (if b = true then U ||| 2 ^ j else U) < 2 ^ (j + 1) ∧ ∀ x, x < j + 1 → (if b = true then U ||| 2 ^ j else U).testBit x = if x = j then b else U.testBit x := by
  have l : U < 2 ^ (j + 1) := Nat.lt_of_lt_of_le hU (Nat.pow_le_pow_right (by decide) (by omega))
  have l2 : 2 ^ j < 2 ^ (j + 1) := Nat.pow_lt_pow_right (by decide) (by omega)
  cases b with
  | false =>
    rw [if_neg (by decide)]
    refine ⟨l, fun x hx => ?_⟩
    by_cases e : x = j
    · rw [if_pos e, e]; exact Nat.testBit_lt_two_pow hU
    · rw [if_neg e]
  | true =>
    rw [if_pos rfl]
    refine ⟨Nat.or_lt_two_pow l l2, fun x hx => ?_⟩
    rw [Nat.testBit_or, Nat.testBit_two_pow]
    by_cases e : x = j
    · rw [if_pos e, e]; simp
    · rw [if_neg e]
      have : decide (j = x) = false := by simp; omega
      rw [this, Bool.or_false]
theorem p2_256 {l W : Nat} (hl : l ≤ 8) (hW : W < 2 ^ l) : W < 256 := Nat.lt_of_lt_of_le hW (Nat.pow_le_pow_right (by decide) hl : 2 ^ l ≤ 2 ^ 8)
section LKF
variable {s v : SG} {o n V b se k l A D : Nat} {but y1 y2 y3 y4 y5 : Int32}
/-- the class's row of leaks at q, the reference's number k: as they were told -/
def LJ0 (s : SG) (q : Nat) (v : SG) (k l : Nat) : Prop := k < 2 ∧ OKl v k ∧ (l ≤ 8 ∧ rz s q = l ∧ v 65 (1330 + 17 * k) = nI l) ∧ ∀ j c, j < l → c < 2 → parI s q (nI j) (nI c) = v 65 (1330 + 17 * k + 1 + 2 * j + c)
/-- and all of them tell of ministers there are -/
def LJ (s : SG) (q : Nat) (v : SG) (k n l : Nat) : Prop := LJ0 s q v k l ∧ ∀ j, j < l → ∃ m, m < n ∧ parI s q (nI j) 0 = nI m
theorem lj_v {v2 : SG} (h : LJ s q v k n l) (e33 : v2 64 33 = v 64 33) (e65 : v2 65 = v 65) : LJ s q v2 k n l := by
  obtain ⟨⟨h1, h2, h3, h4⟩, h5⟩ := h
  refine ⟨⟨h1, ?_, by rw [e65]; exact h3, by rw [e65]; exact h4⟩, h5⟩
  unfold OKl at *
  rw [e33]; exact h2
theorem lj_rd (h : LJ0 s q v k l) : rdI v 65 5768 (v 64 33) = some (nI l) := by
  obtain ⟨h1, h2, h3, h4⟩ := h
  unfold OKl at h2
  rw [rd_nI h2 (by omega) (by decide), h3.2.2]
theorem unf_b (hA : A < 64) (hn : n ≤ 6) (lj : LJ s q v k n l) : ∀ i j U, j + i = l → U < 2 ^ j → (∀ x, x < j → U.testBit x = wrg s q A x) → ∃ W, unfIL s q i j y2 y3 y4 (nI A) (nI U) = nI W ∧ W < 2 ^ l ∧ ∀ x, x < l → W.testBit x = wrg s q A x := by
  intro i
  induction i with
  | zero =>
    intro j U hj hU hb
    have e : j = l := by omega
    subst e
    exact ⟨U, by rw [unfIL], hU, hb⟩
  | succ i ih =>
    intro j U hj hU hb
    have hl := lj.1.2.2.1.1
    obtain ⟨m, hm, em⟩ := lj.2 j (by omega)
    have hh := has_e A hA m (by omega)
    have w : wrg s q A j = Bool.xor (decide (parI s q (nI j) 1 = 1)) (A.testBit m) := by
      unfold wrg
      rw [em, nI_clamp (by omega)]
    have st : unfIL s q (i + 1) j y2 y3 y4 (nI A) (nI U) = unfIL s q i (j + 1) y2 y3 y4 (nI A) (nI (if wrg s q A j = true then U ||| 2 ^ j else U)) := by
      rw [unfIL, em, hh, w, or_T8 j (by omega) U hU]
      by_cases c : parI s q (nI j) 1 = 1
      · rw [if_pos c, decide_eq_true c]
        cases g : A.testBit m with
        | true => rfl
        | false => rfl
      · rw [if_neg c, decide_eq_false c]
        cases g : A.testBit m with
        | true => rfl
        | false => rfl
    obtain ⟨p1, p2⟩ := put_b (wrg s q A j) hU
    rw [st]
    refine ih (j + 1) _ (by omega) p1 (fun x hx => ?_)
    rw [p2 x hx]
    by_cases e : x = j
    · rw [if_pos e, e]
    · rw [if_neg e]; exact hb x (by omega)
/-- who agrees on a day, as a number -/
def UA (s : SG) (r b se D : Nat) : Nat := (agrT s r (nI b) (nI se) (nI D)).toNatClampNeg
theorem ags_01 {i : Nat} : agsN v i = 0 ∨ agsN v i = 1 := by
  unfold agsN
  by_cases c : nI i = v 64 15
  · rw [if_pos c]; exact Or.inr rfl
  · rw [if_neg c]
    by_cases c2 : yieN v i < ofoN v i
    · rw [if_pos c2]; exact Or.inl rfl
    · rw [if_neg c2]; exact Or.inr rfl
theorem ua_v (h : AGJ r o n V b se s v) : UA s r b se D < 64 ∧ agrT s r (nI b) (nI se) (nI D) = nI (UA s r b se D) ∧ ∀ i, i < n → agsN (RtalksOf v (nI D)) i = if (UA s r b se D).testBit i = true then 1 else 0 := by
  obtain ⟨h1, ⟨hb, hse⟩, h3, h4, h5, _⟩ := agj_t (x := nI D) h
  have hn := h3.2.1.1
  obtain ⟨t12, t13, t14⟩ := talks_12 (u := v) (x := nI D)
  have e := rq_agr h3 hb hse h4 h5 t12 t13 t14
  obtain ⟨A, hA, eA, bA⟩ := agm_b (v := RtalksOf v (nI D)) n hn
  have e2 : agrT s r (nI b) (nI se) (nI D) = nI A := by
    rw [e]
    unfold agmT
    rw [(rq_n h3).2.1]; exact eA
  have l : A < 64 := p2_64 hn hA
  have e3 : UA s r b se D = A := by unfold UA; rw [e2, nI_clamp (by omega)]
  rw [e3]
  refine ⟨l, e2, fun i hi => ?_⟩
  by_cases c : A.testBit i = true
  · rw [if_pos c]; exact ags_01.resolve_left ((bA i hi).1 c)
  · rw [if_neg c]; exact Decidable.byContradiction (fun g => c ((bA i hi).2 g))
theorem unf_v (h : AGJ r o n V b se s v) (lj : LJ s q v k n l) : ∃ W, unfI s r q (nI b) (nI se) (nI D) = nI W ∧ W < 2 ^ l ∧ ∀ x, x < l → W.testBit x = wrg s q (UA s r b se D) x := by
  obtain ⟨u1, u2, _⟩ := ua_v (D := D) h
  unfold unfI
  rw [u2, lj.1.2.2.1.2.1]
  exact unf_b u1 h.2.2.1.2.1.1 lj l 0 0 (by omega) (by decide) (fun x hx => absurd hx (by omega))
/-- all leaks of a day are right, one perhaps aside -/
def okb (s : SG) (r q b se l : Nat) (but : Int32) (D : Nat) : Bool := decide (∀ x, x < l → wrg s q (UA s r b se D) x = true → nI x = but)
theorem fit_10 (h : AGJ r o n V b se s v) (lj : LJ s q v k n l) (ha : ∀ i, i < n → agsN v i = if A.testBit i = true then 1 else 0) : ∀ (i j z : Nat) (y : Int32), (y = 0 ∨ y = 1) → j + i = l → pc (RisFit_10 (RisFit_R z) v y1 y2 y (nI j)) (fun p => p.2 = v ∧ (p.1 = 0 ↔ (y = 0 ∨ ∃ x, j ≤ x ∧ x < l ∧ ¬ nI x = y2 ∧ wrg s q A x = true))) := by
  have hl := lj.1.2.2.1.1
  have hn := h.2.2.1.2.1.1
  have hse := h.2.1.2
  have hSE : SE v := ⟨by unfold seN; rw [h.2.2.2.2.1, nI_clamp (by omega)], by unfold seN; rw [h.2.2.2.2.1, nI_clamp (by omega)]; exact h.2.1.2⟩
  intro i
  induction i with
  | zero =>
    intro j z y hy hj
    have e4 : xrt 4 y = true := by rcases hy with g | g <;> rw [g] <;> rfl
    unfold RisFit_10
    rw [lj_rd lj.1, Option.bind_some, if_pos (k_ge hj), e4]
    exact pc_s ⟨rfl, fun g => Or.inl g, fun g => g.resolve_right (fun ⟨x, g1, g2, _⟩ => absurd g2 (by omega))⟩
  | succ i ih =>
    intro j z y hy hj
    have e4 : xrt 4 y = true := by rcases hy with g | g <;> rw [g] <;> rfl
    have go : ∀ (y' : Int32) (Q : Int32 × SG → Prop), (y' = 0 ∨ y' = 1) → (∀ p, (p.2 = v ∧ (p.1 = 0 ↔ (y' = 0 ∨ ∃ x, j + 1 ≤ x ∧ x < l ∧ ¬ nI x = y2 ∧ wrg s q A x = true))) → Q p) → pc (RisFit_R z v y1 y2 y' (nI j + 1)) Q := by
      intro y' Q hy' hq
      cases z with
      | zero => exact fun _ e => nomatch e
      | succ z =>
        show pc (RisFit_10 (RisFit_R z) v y1 y2 y' (nI j + 1)) Q
        rw [← nI_succ]
        exact pc_w (ih (j + 1) z y' hy' (by omega)) hq
    unfold RisFit_10
    rw [lj_rd lj.1, Option.bind_some, if_neg (k_lt hj (by omega))]
    rcases hy with hy | hy
    · rw [if_pos hy, e4]
      exact pc_s ⟨rfl, fun _ => Or.inl hy, fun _ => hy⟩
    have y0 : ¬ y = 0 := by rw [hy]; decide
    rw [if_neg y0]
    have up1 : (¬ nI j = y2 ∧ wrg s q A j = true) → ∀ p : Int32 × SG, (p.2 = v ∧ (p.1 = 0 ↔ ((0 : Int32) = 0 ∨ ∃ x, j + 1 ≤ x ∧ x < l ∧ ¬ nI x = y2 ∧ wrg s q A x = true))) → p.2 = v ∧ (p.1 = 0 ↔ (y = 0 ∨ ∃ x, j ≤ x ∧ x < l ∧ ¬ nI x = y2 ∧ wrg s q A x = true)) :=
      fun g p hp => ⟨hp.1, fun _ => Or.inr ⟨j, Nat.le_refl _, by omega, g.1, g.2⟩, fun _ => hp.2.2 (Or.inl rfl)⟩
    have up0 : ¬ (¬ nI j = y2 ∧ wrg s q A j = true) → ∀ p : Int32 × SG, (p.2 = v ∧ (p.1 = 0 ↔ ((1 : Int32) = 0 ∨ ∃ x, j + 1 ≤ x ∧ x < l ∧ ¬ nI x = y2 ∧ wrg s q A x = true))) → p.2 = v ∧ (p.1 = 0 ↔ (y = 0 ∨ ∃ x, j ≤ x ∧ x < l ∧ ¬ nI x = y2 ∧ wrg s q A x = true)) := by
      intro g p hp
      refine ⟨hp.1, fun e => ?_, fun e => ?_⟩
      · rcases hp.2.1 e with z | ⟨x, x1, x2, x3, x4⟩
        · exact absurd z (by decide)
        · exact Or.inr ⟨x, by omega, x2, x3, x4⟩
      · rcases e with z | ⟨x, x1, x2, x3, x4⟩
        · exact absurd z y0
        · refine hp.2.2 (Or.inr ⟨x, ?_, x2, x3, x4⟩)
          by_cases q : x = j
          · subst q; exact absurd ⟨x3, x4⟩ g
          · omega
    by_cases c1 : nI j = y2
    · rw [if_pos c1]
      exact go 1 _ (Or.inr rfl) (up0 (fun g => g.1 c1))
    rw [if_neg c1]
    obtain ⟨m, hm, em⟩ := lj.2 j (by omega)
    have v0 : v 65 (1330 + 17 * k + 1 + 2 * j + 0) = nI m := by rw [← lj.1.2.2.2 j 0 (by omega) (by omega)]; exact em
    have v1 : v 65 (1330 + 17 * k + 1 + 2 * j + 1) = parI s q (nI j) 1 := (lj.1.2.2.2 j 1 (by omega) (by omega)).symm
    have w : wrg s q A j = Bool.xor (decide (parI s q (nI j) 1 = 1)) (A.testBit m) := by
      unfold wrg
      rw [em, nI_clamp (by omega)]
    rw [leakOf_eq (y := 0) (a := 0) lj.1.2.1 lj.1.1 rfl rfl (by omega) (by decide), Option.bind_some, v0, q_agrees (rq_RH h.2.2.1) hSE rfl (by omega), Option.bind_some, leakOf_eq (y := 1) (a := 1) lj.1.2.1 lj.1.1 rfl rfl (by omega) (by decide), Option.bind_some, v1, ha m hm]
    by_cases c : parI s q (nI j) 1 = 1
    · rw [if_pos c]
      rw [decide_eq_true c] at w
      unfold RisFit_61
      by_cases g : A.testBit m = true
      · rw [g] at w
        rw [if_pos g, if_pos rfl]
        exact go 1 _ (Or.inr rfl) (up0 (fun g => absurd (g.2.symm.trans w) (by decide)))
      · rw [if_neg g, if_neg (show ¬ (0 : Int32) = 1 by decide)]
        rw [Bool.not_eq_true] at g
        rw [g] at w
        exact go 0 _ (Or.inl rfl) (up1 ⟨c1, w⟩)
    · rw [if_neg c]
      rw [decide_eq_false c] at w
      unfold RisFit_61
      by_cases g : A.testBit m = true
      · rw [g] at w
        rw [if_pos g, if_neg (show ¬ (1 : Int32) = 0 by decide)]
        exact go 0 _ (Or.inl rfl) (up1 ⟨c1, w⟩)
      · rw [if_neg g, if_pos rfl]
        rw [Bool.not_eq_true] at g
        rw [g] at w
        exact go 1 _ (Or.inr rfl) (up0 (fun g => absurd (g.2.symm.trans w) (by decide)))
theorem fit_v (h : AGJ r o n V b se s v) (lj : LJ s q v k n l) : pc (RisFit v (nI D) but) (fun p => (p.1 = 0 ↔ okb s r q b se l but D = false) ∧ AGJ r o n V b se s p.2 ∧ LJ s q p.2 k n l) := by
  have h' := agj_t (x := nI D) h
  have lj' : LJ s q (RtalksOf v (nI D)) k n l := lj_v lj (talks_64 (by omega)) (talks_c (by omega))
  obtain ⟨_, _, u3⟩ := ua_v (D := D) h
  unfold RisFit
  refine pc_w (fit_10 (A := UA s r b se D) h' lj' u3 l 0 xF 1 (Or.inr rfl) (by omega)) (fun p hp => ?_)
  rw [hp.1]
  refine ⟨?_, h', lj'⟩
  unfold okb
  rw [hp.2, decide_eq_false_iff_not]
  refine ⟨fun g => ?_, fun g => ?_⟩
  · rcases g with z | ⟨x, _, x2, x3, x4⟩
    · exact absurd z (by decide)
    · exact fun g => x3 (g x x2 x4)
  · refine Classical.byContradiction (fun e => g (fun x hx hw => Decidable.byContradiction (fun e2 => e (Or.inr ⟨x, Nat.zero_le _, hx, e2, hw⟩))))
theorem fitting_4 : ∀ (i j z c : Nat) (v : SG), AGJ r o n V b se s v → LJ s q v k n l → j + i = 1000 → pc (Rfitting_4 (Rfitting_R z) v y1 (nI c) (nI j)) (fun p => p.1 = nI (cnB (okb s r q b se l y1) i j c) ∧ AGJ r o n V b se s p.2 ∧ LJ s q p.2 k n l) := by
  intro i
  induction i with
  | zero =>
    intro j z c v h lj hj
    unfold Rfitting_4
    rw [if_pos (show (1000 : Int32) ≤ nI j from k_ge (m := 1000) hj)]
    exact pc_s ⟨by rw [cnB], h, lj⟩
  | succ i ih =>
    intro j z c v h lj hj
    have go : ∀ (c2 : Nat) (u : SG), AGJ r o n V b se s u → LJ s q u k n l → pc (Rfitting_R z u y1 (nI c2) (nI j + 1)) (fun p => p.1 = nI (cnB (okb s r q b se l y1) i (j + 1) c2) ∧ AGJ r o n V b se s p.2 ∧ LJ s q p.2 k n l) := by
      intro c2 u h2 l2
      cases z with
      | zero => exact fun _ e => nomatch e
      | succ z =>
        show pc (Rfitting_4 (Rfitting_R z) u y1 (nI c2) (nI j + 1)) _
        rw [← nI_succ]
        exact ih (j + 1) z c2 u h2 l2 (by omega)
    unfold Rfitting_4
    rw [if_neg (show ¬ (1000 : Int32) ≤ nI j from k_lt (m := 1000) hj (by decide)), cnB]
    refine pc_b (fit_v (D := j) (but := y1) h lj) (fun p hp => ?_)
    by_cases g : p.1 = 0
    · rw [if_pos g, Int32.add_zero, if_neg (by rw [hp.1.1 g]; decide)]
      exact go c p.2 hp.2.1 hp.2.2
    · have g2 : okb s r q b se l y1 j = true := by
        cases e : okb s r q b se l y1 j with
        | true => rfl
        | false => exact absurd (hp.1.2 e) g
      rw [if_neg g, if_pos g2, ← nI_succ]
      exact go (c + 1) p.2 hp.2.1 hp.2.2
theorem rainy_5 : ∀ (i j z c : Nat) (v : SG), AGJ r o n V b se s v → LJ s q v k n l → j + i = 1000 → pc (RrainyFit_5 (RrainyFit_R z) v (nI c) (nI j)) (fun p => p.1 = nI (cnB (okb s r q b se l (-1)) i j c)) := by
  intro i
  induction i with
  | zero =>
    intro j z c v h lj hj
    unfold RrainyFit_5
    rw [if_pos (show (1000 : Int32) ≤ nI j from k_ge (m := 1000) hj)]
    exact pc_s (by rw [cnB])
  | succ i ih =>
    intro j z c v h lj hj
    have go : ∀ (c2 : Nat) (u : SG), AGJ r o n V b se s u → LJ s q u k n l → pc (RrainyFit_R z u (nI c2) (nI j + 1)) (fun p => p.1 = nI (cnB (okb s r q b se l (-1)) i (j + 1) c2)) := by
      intro c2 u h2 l2
      cases z with
      | zero => exact fun _ e => nomatch e
      | succ z =>
        show pc (RrainyFit_5 (RrainyFit_R z) u (nI c2) (nI j + 1)) _
        rw [← nI_succ]
        exact ih (j + 1) z c2 u h2 l2 (by omega)
    unfold RrainyFit_5
    rw [if_neg (show ¬ (1000 : Int32) ≤ nI j from k_lt (m := 1000) hj (by decide)), cnB]
    refine pc_b (fit_v (D := j) (but := -1) h lj) (fun p hp => ?_)
    by_cases g : p.1 = 0
    · rw [if_pos g, Int32.add_zero, if_neg (by rw [hp.1.1 g]; decide)]
      exact go c p.2 hp.2.1 hp.2.2
    · have g2 : okb s r q b se l (-1) j = true := by
        cases e : okb s r q b se l (-1) j with
        | true => rfl
        | false => exact absurd (hp.1.2 e) g
      rw [if_neg g, if_pos g2, ← nI_succ]
      exact go (c + 1) p.2 hp.2.1 hp.2.2
theorem unf_0 (h : AGJ r o n V b se s v) (lj : LJ s q v k n l) : unfI s r q (nI b) (nI se) (nI D) = 0 ↔ okb s r q b se l (-1) D = true := by
  have hl := lj.1.2.2.1.1
  obtain ⟨W, e, hW, hb⟩ := unf_v (D := D) h lj
  have l8 := p2_256 hl hW
  rw [e]
  unfold okb
  rw [decide_eq_true_iff]
  refine ⟨fun g x hx hw => ?_, fun g => ?_⟩
  · have w0 : W = 0 := nI_inj (b := 0) (by omega) (by decide) g
    rw [← hb x hx, w0, Nat.zero_testBit] at hw
    exact absurd hw (by decide)
  · have w0 : W = 0 := by
      refine Nat.eq_of_testBit_eq (fun x => ?_)
      rw [Nat.zero_testBit]
      by_cases hx : x < l
      · cases c : W.testBit x with
        | false => rfl
        | true =>
          have z := g x hx (by rw [← hb x hx]; exact c)
          exact absurd (show nI x < 0 by rw [z]; decide) (nI_pos (by omega))
      · exact Nat.testBit_lt_two_pow (Nat.lt_of_lt_of_le hW (Nat.pow_le_pow_right (by decide) (by omega)))
    rw [w0]; rfl
theorem mnf_0 (h : AGJ r o n V b se s v) (lj : LJ s q v k n l) : ∀ i j c, mnfIL s r q i j (nI b) (nI se) 0 (nI c) = nI (cnB (okb s r q b se l (-1)) i j c) := by
  intro i
  induction i with
  | zero => intro j c; rw [mnfIL, cnB]
  | succ i ih =>
    intro j c
    rw [mnfIL, cnB]
    by_cases g : okb s r q b se l (-1) j = true
    · rw [if_pos ((unf_0 h lj).2 g), if_pos rfl, if_pos g, ← nI_succ]; exact ih (j + 1) (c + 1)
    · rw [if_neg (fun e => g ((unf_0 h lj).1 e)), if_neg g]; exact ih (j + 1) c
theorem mnf_1 (h : AGJ r o n V b se s v) (lj : LJ s q v k n l) : ∀ i j c, 100 ≤ j → j + i ≤ 1000 → mnfIL s r q i j (nI b) (nI se) 1 (nI c) = nI (cnB (okb s r q b se l (-1)) i j c) := by
  intro i
  induction i with
  | zero => intro j c _ _; rw [mnfIL, cnB]
  | succ i ih =>
    intro j c h1 h2
    obtain ⟨a0, _, _⟩ := amt_n j (by omega)
    rw [mnfIL, cnB]
    by_cases g : okb s r q b se l (-1) j = true
    · rw [if_pos ((unf_0 h lj).2 g), if_neg (show ¬ (1 : Int32) = 0 by decide), a0, if_neg (show ¬ nI (j / 100) ≤ 0 from nI_ge (a := 0) (b := j / 100) (by omega) (by omega)), if_pos g, ← nI_succ]; exact ih (j + 1) (c + 1) (by omega) (by omega)
    · rw [if_neg (fun e => g ((unf_0 h lj).1 e)), if_neg g]; exact ih (j + 1) c (by omega) (by omega)
theorem mnf_s {c : Int32} : ∀ i j, j + i = 100 → mnfIL s r q (i + 900) j (nI b) (nI se) 1 c = mnfIL s r q 900 100 (nI b) (nI se) 1 c := by
  intro i
  induction i with
  | zero =>
    intro j hj
    have e : j = 100 := by omega
    subst e
    rw [Nat.zero_add]
  | succ i ih =>
    intro j hj
    obtain ⟨a0, _, _⟩ := amt_n j (by omega)
    have z : j / 100 = 0 := by omega
    rw [show i + 1 + 900 = (i + 900) + 1 by omega, mnfIL, a0, z]
    by_cases g : unfI s r q (nI b) (nI se) (nI j) = 0
    · rw [if_pos g, if_neg (show ¬ (1 : Int32) = 0 by decide), if_pos (show nI 0 ≤ 0 by decide)]; exact ih (j + 1) (by omega)
    · rw [if_neg g]; exact ih (j + 1) (by omega)
theorem mnfI_0 (h : AGJ r o n V b se s v) (lj : LJ s q v k n l) : mnfI s r q (nI b) (nI se) 0 = nI (cnB (okb s r q b se l (-1)) 1000 0 0) := mnf_0 h lj 1000 0 0
theorem mnfI_1 (h : AGJ r o n V b se s v) (lj : LJ s q v k n l) : mnfI s r q (nI b) (nI se) 1 = nI (cnB (okb s r q b se l (-1)) 900 100 0) := (mnf_s (c := 0) 100 0 rfl).trans (mnf_1 h lj 900 100 0 (by omega) (by omega))
theorem amt_a {j : Nat} (hj : j < 1000) : NB (amtI (nI j) y1) 9 := by
  obtain ⟨a0, a1, a2⟩ := amt_n j hj
  by_cases c0 : y1 = 0
  · rw [c0, a0]; exact ⟨_, rfl, by omega⟩
  by_cases c1 : y1 = 1
  · rw [c1, a1]; exact ⟨_, rfl, by omega⟩
  · have e : amtI (nI j) y1 = amtI (nI j) 2 := by
      unfold amtI
      rw [if_neg c0, if_neg c1, if_neg (show ¬ (2 : Int32) = 0 by decide), if_neg (show ¬ (2 : Int32) = 1 by decide)]
    rw [e, a2]; exact ⟨_, rfl, by omega⟩
theorem ext_5 : ∀ (i j z : Nat) (v : SG) (y : Int32), AGJ r o n V b se s v → LJ s q v k n l → j + i = 1000 → (y = -1 ∨ NB y 9) → pc (Rextreme_5 (Rextreme_R z) v y1 y2 y (nI j)) (fun p => p.1 = extIL s r q i j (nI b) (nI se) y1 y2 y) := by
  intro i
  induction i with
  | zero =>
    intro j z v y h lj hj _
    unfold Rextreme_5
    rw [if_pos (show (1000 : Int32) ≤ nI j from k_ge (m := 1000) hj), extIL]
    exact pc_s rfl
  | succ i ih =>
    intro j z v y h lj hj hy
    have go : ∀ (y' : Int32) (u : SG), AGJ r o n V b se s u → LJ s q u k n l → (y' = -1 ∨ NB y' 9) → pc (Rextreme_R z u y1 y2 y' (nI j + 1)) (fun p => p.1 = extIL s r q i (j + 1) (nI b) (nI se) y1 y2 y') := by
      intro y' u h2 l2 hy'
      cases z with
      | zero => exact fun _ e => nomatch e
      | succ z =>
        show pc (Rextreme_5 (Rextreme_R z) u y1 y2 y' (nI j + 1)) _
        rw [← nI_succ]
        exact ih (j + 1) z u y' h2 l2 (by omega) hy'
    have ea : RamountOf (nI j) y1 = amtI (nI j) y1 := rfl
    have na : NB (amtI (nI j) y1) 9 := amt_a (by omega)
    unfold Rextreme_5
    rw [if_neg (show ¬ (1000 : Int32) ≤ nI j from k_lt (m := 1000) hj (by decide)), extIL, ea]
    refine pc_b (fit_v (D := j) (but := -1) h lj) (fun p hp => ?_)
    have g0 : p.1 = 0 ↔ ¬ unfI s r q (nI b) (nI se) (nI j) = 0 := by
      rw [hp.1, unf_0 h lj, Bool.not_eq_true]
    by_cases g : p.1 = 0
    · rw [if_pos g, if_neg (g0.1 g)]; exact go y p.2 hp.2.1 hp.2.2 hy
    rw [if_neg g, if_pos (Decidable.byContradiction (fun e => g (g0.2 e)))]
    have ty : y < 0 ↔ y = -1 := by
      rcases hy with e | ⟨x, e, hx⟩
      · rw [e]; exact ⟨fun _ => rfl, fun _ => by decide⟩
      · rw [e]
        exact ⟨fun c => absurd c (nI_pos (by omega)), fun c => absurd (show nI x < 0 by rw [c]; decide) (nI_pos (by omega))⟩
    by_cases c1 : y < 0
    · rw [if_pos c1, if_pos (ty.1 c1)]; exact go _ p.2 hp.2.1 hp.2.2 (Or.inr na)
    rw [if_neg c1, if_neg (fun e => c1 (ty.2 e))]
    by_cases c2 : y2 = 0
    · rw [if_pos c2, if_pos c2]
      by_cases c3 : y ≤ amtI (nI j) y1
      · rw [if_pos c3, if_pos c3]; exact go _ p.2 hp.2.1 hp.2.2 hy
      · rw [if_neg c3, if_neg c3]; exact go _ p.2 hp.2.1 hp.2.2 (Or.inr na)
    · rw [if_neg c2, if_neg c2]
      by_cases c3 : amtI (nI j) y1 ≤ y
      · rw [if_pos c3, if_pos c3]; exact go _ p.2 hp.2.1 hp.2.2 hy
      · rw [if_neg c3, if_neg c3]; exact go _ p.2 hp.2.1 hp.2.2 (Or.inr na)
/-- one leak alone is wrong -/
theorem okb_k (h : AGJ r o n V b se s v) (lj : LJ s q v k n l) {W g : Nat} (e : unfI s r q (nI b) (nI se) (nI D) = nI W) (hW : W < 2 ^ l) (nz : ¬ W = 0) (hg : g < l) : okb s r q b se l (nI g) D = true ↔ W = 2 ^ g := by
  have hl := lj.1.2.2.1.1
  obtain ⟨W2, e2, hW2, hb⟩ := unf_v (D := D) h lj
  have l8 := p2_256 hl hW
  have l82 := p2_256 hl hW2
  have ew : W2 = W := nI_inj (by omega) (by omega) (e2.symm.trans e)
  subst ew
  unfold okb
  rw [decide_eq_true_iff]
  have hi : ∀ x, ¬ x < l → W2.testBit x = false := fun x hx => Nat.testBit_lt_two_pow (Nat.lt_of_lt_of_le hW (Nat.pow_le_pow_right (by decide) (by omega)))
  refine ⟨fun c => ?_, fun c x hx hw => ?_⟩
  · have one : ∀ x, W2.testBit x = true → x = g := by
      intro x hx
      by_cases q : x < l
      · exact nI_inj (by omega) (by omega) (c x q (by rw [← hb x q]; exact hx))
      · rw [hi x q] at hx; exact absurd hx (by decide)
    have has : W2.testBit g = true := by
      refine Decidable.byContradiction (fun z => nz (Nat.eq_of_testBit_eq (fun x => ?_)))
      rw [Nat.zero_testBit]
      cases q : W2.testBit x with
      | false => rfl
      | true => rw [one x q] at q; exact absurd q z
    refine Nat.eq_of_testBit_eq (fun x => ?_)
    rw [Nat.testBit_two_pow]
    by_cases q : g = x
    · subst q; rw [has]; simp
    · have : decide (g = x) = false := by simp; exact q
      rw [this]
      cases q2 : W2.testBit x with
      | false => rfl
      | true => exact absurd (one x q2).symm q
  · rw [← hb x hx, c, Nat.testBit_two_pow, decide_eq_true_iff] at hw
    rw [hw]
theorem lie_0 (h : AGJ r o n V b se s v) (lj : LJ s q v k n l) : ∀ i j y, (∃ x, j ≤ x ∧ x < j + i ∧ okb s r q b se l (-1) x = true) → lieIL s r q i j (nI b) (nI se) y = 0 := by
  intro i
  induction i with
  | zero => intro j y ⟨x, h1, h2, _⟩; exact absurd h2 (by omega)
  | succ i ih =>
    intro j y ⟨x, h1, h2, h3⟩
    rw [lieIL]
    by_cases g : unfI s r q (nI b) (nI se) (nI j) = 0
    · rw [if_pos g]
    · have ne : ¬ x = j := fun e => g ((unf_0 h lj).2 (by rw [← e]; exact h3))
      have nx : ∃ x, j + 1 ≤ x ∧ x < j + 1 + i ∧ okb s r q b se l (-1) x = true := ⟨x, by omega, by omega, h3⟩
      rw [if_neg g]
      split
      · exact ih (j + 1) _ nx
      · exact ih (j + 1) _ nx
theorem lie_b (h : AGJ r o n V b se s v) (lj : LJ s q v k n l) : ∀ i j Y, Y < 2 ^ l → (∀ x, j ≤ x → x < j + i → okb s r q b se l (-1) x = false) → ∃ Z, lieIL s r q i j (nI b) (nI se) (nI Y) = nI Z ∧ Z < 2 ^ l ∧ ∀ g, g < l → (Z.testBit g = true ↔ (Y.testBit g = true ∨ ∃ x, j ≤ x ∧ x < j + i ∧ okb s r q b se l (nI g) x = true)) := by
  have hl := lj.1.2.2.1.1
  intro i
  induction i with
  | zero =>
    intro j Y hY _
    refine ⟨Y, by rw [lieIL], hY, fun g _ => ⟨fun c => Or.inl c, fun c => c.resolve_right (fun ⟨x, x1, x2, _⟩ => absurd x2 (by omega))⟩⟩
  | succ i ih =>
    intro j Y hY hz
    obtain ⟨W, e, hW, hb⟩ := unf_v (D := j) h lj
    have l8 := p2_256 hl hW
    have nz : ¬ W = 0 := by
      intro z
      rw [z] at e
      have := (unf_0 h lj).1 e
      rw [hz j (by omega) (by omega)] at this
      exact absurd this (by decide)
    have nz2 : ¬ nI W = 0 := fun g => nz (nI_inj (b := 0) (by omega) (by decide) g)
    have hz2 : ∀ x, j + 1 ≤ x → x < j + 1 + i → okb s r q b se l (-1) x = false := fun x x1 x2 => hz x (by omega) (by omega)
    rw [lieIL, e, if_neg nz2]
    by_cases c : bitI (nI W) = 1
    · obtain ⟨k0, hk0, ek⟩ := bit_1 W l8 c
      have lk : k0 < l := by
        refine Decidable.byContradiction (fun g => ?_)
        have : 2 ^ l ≤ 2 ^ k0 := Nat.pow_le_pow_right (by decide) (by omega)
        omega
      rw [if_pos c, ek, or_P8 k0 hk0 Y (p2_256 hl hY)]
      obtain ⟨Z, z1, z2, z3⟩ := ih (j + 1) (Y ||| 2 ^ k0) (Nat.or_lt_two_pow hY (by rw [← ek]; exact hW)) hz2
      refine ⟨Z, z1, z2, fun g hg => ?_⟩
      rw [z3 g hg, Nat.testBit_or, Nat.testBit_two_pow, Bool.or_eq_true, decide_eq_true_iff]
      have ok := okb_k h lj e hW nz hg
      refine ⟨fun q => ?_, fun q => ?_⟩
      · rcases q with (q | q) | ⟨x, x1, x2, x3⟩
        · exact Or.inl q
        · exact Or.inr ⟨j, Nat.le_refl _, by omega, ok.2 (by rw [ek, q])⟩
        · exact Or.inr ⟨x, by omega, by omega, x3⟩
      · rcases q with q | ⟨x, x1, x2, x3⟩
        · exact Or.inl (Or.inl q)
        · by_cases ex : x = j
          · subst ex
            have w2 := ok.1 x3
            rw [ek] at w2
            exact Or.inl (Or.inr (pow_8 k0 hk0 g (by omega) w2))
          · exact Or.inr ⟨x, by omega, by omega, x3⟩
    · rw [if_neg c]
      obtain ⟨Z, z1, z2, z3⟩ := ih (j + 1) Y hY hz2
      refine ⟨Z, z1, z2, fun g hg => ?_⟩
      rw [z3 g hg]
      have ok := okb_k h lj e hW nz hg
      refine ⟨fun q => ?_, fun q => ?_⟩
      · rcases q with q | ⟨x, x1, x2, x3⟩
        · exact Or.inl q
        · exact Or.inr ⟨x, by omega, by omega, x3⟩
      · rcases q with q | ⟨x, x1, x2, x3⟩
        · exact Or.inl q
        · by_cases ex : x = j
          · subst ex
            exact absurd (by rw [ok.1 x3]; exact bit_1' g (by omega)) c
          · exact Or.inr ⟨x, by omega, by omega, x3⟩
theorem lie_144 : ∀ (i j z Y : Nat) (v : SG), AGJ r o n V b se s v → LJ s q v k n l → j + i = l → Y < 2 ^ j → (∀ g, g < j → (Y.testBit g = true ↔ 0 < cnB (okb s r q b se l (nI g)) 1000 0 0)) → pc (Rfits_144 (Rfits_R z).1 (Rfits_R z).2 v y1 y2 y3 y4 y5 0 (nI Y) (nI j)) (fun p => ∃ Z, p.1 = nI Z ∧ Z < 2 ^ l ∧ ∀ g, g < l → (Z.testBit g = true ↔ 0 < cnB (okb s r q b se l (nI g)) 1000 0 0)) := by
  intro i
  induction i with
  | zero =>
    intro j z Y v h lj hj hY hb
    have e : j = l := by omega
    subst e
    unfold Rfits_144
    rw [lj_rd lj.1, Option.bind_some, if_pos (k_ge hj)]
    exact pc_s ⟨Y, rfl, hY, hb⟩
  | succ i ih =>
    intro j z Y v h lj hj hY hb
    have hl := lj.1.2.2.1.1
    have go : ∀ (Y' : Nat) (u : SG), AGJ r o n V b se s u → LJ s q u k n l → Y' < 2 ^ (j + 1) → (∀ g, g < j + 1 → (Y'.testBit g = true ↔ 0 < cnB (okb s r q b se l (nI g)) 1000 0 0)) → pc ((Rfits_R z).2 u y1 y2 y3 y4 y5 0 (nI Y') (nI j + 1)) (fun p => ∃ Z, p.1 = nI Z ∧ Z < 2 ^ l ∧ ∀ g, g < l → (Z.testBit g = true ↔ 0 < cnB (okb s r q b se l (nI g)) 1000 0 0)) := by
      intro Y' u h2 l2 hY' hb'
      cases z with
      | zero => exact fun _ e => nomatch e
      | succ z =>
        show pc (Rfits_144 (Rfits_R z).1 (Rfits_R z).2 u y1 y2 y3 y4 y5 0 (nI Y') (nI j + 1)) _
        rw [← nI_succ]
        exact ih (j + 1) z Y' u h2 l2 (by omega) hY' hb'
    unfold Rfits_144
    rw [lj_rd lj.1, Option.bind_some, if_neg (k_lt hj (by omega)), if_pos rfl]
    unfold Rfitting
    refine pc_b (fitting_4 (y1 := nI j) 1000 0 xF 0 v h lj rfl) (fun p hp => ?_)
    obtain ⟨e, h2, l2⟩ := hp
    have cl := (cnB_le (f := okb s r q b se l (nI j)) 1000 0 0).2
    obtain ⟨p1, p2⟩ := put_b (decide (0 < cnB (okb s r q b se l (nI j)) 1000 0 0)) hY
    have bits : ∀ g, g < j + 1 → ((if decide (0 < cnB (okb s r q b se l (nI j)) 1000 0 0) = true then Y ||| 2 ^ j else Y).testBit g = true ↔ 0 < cnB (okb s r q b se l (nI g)) 1000 0 0) := by
      intro g hg
      rw [p2 g hg]
      by_cases q : g = j
      · rw [if_pos q, q, decide_eq_true_iff]
      · rw [if_neg q]; exact hb g (by omega)
    by_cases c : 0 < cnB (okb s r q b se l (nI j)) 1000 0 0
    · rw [if_neg (show ¬ p.1 ≤ 0 by rw [e]; exact nI_ge (a := 0) c (by omega)), or_T8 j (by omega) Y hY]
      rw [decide_eq_true c, if_pos rfl] at p1 bits
      exact go _ p.2 h2 l2 p1 bits
    · rw [if_pos (show p.1 ≤ 0 by rw [e]; exact nI_le2 (b := 0) (by omega) (by decide)), or_0]
      rw [decide_eq_false c, if_neg (by decide)] at p1 bits
      exact go _ p.2 h2 l2 p1 bits
theorem part_w {a b : Nat} {u : Int32} (ha : a < 2 ^ 31) (hb2 : b ≤ 1000) : pc (Rpart (nI a) (nI b) u) (fun v => v = fraI (nI a) (nI b) u) := by
  have ec : comI (nI a) (nI b) = nI (Nat.gcd b a) := com_c 10 b a 64 0 (by omega) (by decide) ha (by omega)
  have e9 : ∀ v, pc (Rpart_9 (nI a) (nI b) u v) (fun x => ¬ nI (Nat.gcd b a) = 0 ∧ x = v / nI (Nat.gcd b a)) := by
    intro v
    unfold Rpart_9 Rcommon
    refine pc_b (com_r b a xF ha (by omega)) (fun g hg => ?_)
    subst hg
    by_cases c : nI (Nat.gcd b a) = 0
    · rw [if_pos c]; exact fun _ e => nomatch e
    · rw [if_neg c]; exact pc_s ⟨c, rfl⟩
  unfold Rpart fraI
  rw [ec]
  by_cases u0 : u = 0
  · rw [if_pos u0]
    refine pc_w (e9 _) (fun x hx => ?_)
    rw [if_neg hx.1, if_pos u0]; exact hx.2
  · rw [if_neg u0]
    refine pc_w (e9 _) (fun x hx => ?_)
    rw [if_neg hx.1, if_neg u0]; exact hx.2
theorem fit_128 {z : Nat} {u c y6 : Int32} {a b2 : Nat} (ha : a < 2 ^ 31) (hb2 : b2 ≤ 1000) (ec : c = nI b2) (e6 : u = nI a) {g : Int32} : pc (Rfits_128 (Rfits_R z).1 (Rfits_R z).2 v y1 y2 y3 y4 y5 y6 g c u) (fun p => p.1 = fraI (nI a) (nI b2) g) := by
  unfold Rfits_128
  rw [ec, e6]
  exact pc_b (part_w ha hb2) (fun x hx => pc_s hx)
theorem lir_102 {z : Nat} (h : AGJ r o n V b se s v) (lj : LJ s q v k n l) : pc (Rfits_102 (Rfits_R z).1 (Rfits_R z).2 v y1 y2 y3 y4 y5 (nI (cnB (okb s r q b se l (-1)) 1000 0 0))) (fun p => p.1 = if y5 = 2 then lirI s r q (nI b) (nI se) 1 else lirI s r q (nI b) (nI se) 0) := by
  have e0 := mnfI_0 h lj
  have e1 := mnfI_1 h lj
  have b0 := (cnB_le (f := okb s r q b se l (-1)) 1000 0 0).2
  have b1 := (cnB_le (f := okb s r q b se l (-1)) 900 100 0).2
  unfold Rfits_102 lirI
  rw [e0, e1]
  by_cases c : nI (cnB (okb s r q b se l (-1)) 1000 0 0) = 0
  · rw [if_pos c, if_pos c, if_pos c]
    exact pc_s (by split <;> rfl)
  rw [if_neg c, if_neg c, if_neg c]
  unfold RrainyFit
  refine pc_b (rainy_5 900 100 xF 0 v h lj rfl) (fun p hp => ?_)
  by_cases c2 : y5 = 2
  · rw [if_pos c2, if_pos c2]
    exact fit_128 (by omega) (by omega) rfl hp
  · rw [if_neg c2, if_neg c2]
    exact fit_128 (by omega) (by omega) rfl hp
theorem fitW_0 : fitIcW s r q y3 y4 0 0 = mnfI s r q y3 y4 0 := by
  unfold fitIcW
  rw [if_pos rfl]
theorem fitW_1 : fitIcW s r q y3 y4 1 1 = if (1 : Int32) = 2 then lirI s r q y3 y4 1 else lirI s r q y3 y4 0 := by
  unfold fitIcW
  rw [if_neg (show ¬ (1 : Int32) = 0 by decide), if_pos rfl]
theorem fitW_2 : fitIcW s r q y3 y4 2 2 = if (2 : Int32) = 2 then lirI s r q y3 y4 1 else lirI s r q y3 y4 0 := by
  unfold fitIcW
  rw [if_neg (show ¬ (2 : Int32) = 0 by decide), if_neg (show ¬ (2 : Int32) = 1 by decide), if_pos (show (2 : Int32) = 2 from rfl)]
theorem fitW_3 : fitIcW s r q y3 y4 3 3 = lieI s r q y3 y4 := by
  unfold fitIcW
  rw [if_neg (show ¬ (3 : Int32) = 0 by decide), if_neg (show ¬ (3 : Int32) = 1 by decide), if_neg (show ¬ (3 : Int32) = 2 by decide), if_pos rfl]
theorem fitW_10 : fitIcW s r q y3 y4 10 10 = extI s r q y3 y4 (10 - 10) 0 := by
  unfold fitIcW
  rw [if_neg (show ¬ (10 : Int32) = 0 by decide), if_neg (show ¬ (10 : Int32) = 1 by decide), if_neg (show ¬ (10 : Int32) = 2 by decide), if_neg (show ¬ (10 : Int32) = 3 by decide), if_neg (show ¬ (10 : Int32) = 4 by decide), if_neg (show ¬ (10 : Int32) = 5 by decide), if_neg (show ¬ (10 : Int32) = 6 by decide), if_neg (show ¬ (10 : Int32) = 7 by decide), if_neg (show ¬ (10 : Int32) = 8 by decide), if_neg (show ¬ (10 : Int32) = 9 by decide), if_pos rfl]
theorem fitW_11 : fitIcW s r q y3 y4 11 11 = extI s r q y3 y4 (11 - 10) 0 := by
  unfold fitIcW
  rw [if_neg (show ¬ (11 : Int32) = 0 by decide), if_neg (show ¬ (11 : Int32) = 1 by decide), if_neg (show ¬ (11 : Int32) = 2 by decide), if_neg (show ¬ (11 : Int32) = 3 by decide), if_neg (show ¬ (11 : Int32) = 4 by decide), if_neg (show ¬ (11 : Int32) = 5 by decide), if_neg (show ¬ (11 : Int32) = 6 by decide), if_neg (show ¬ (11 : Int32) = 7 by decide), if_neg (show ¬ (11 : Int32) = 8 by decide), if_neg (show ¬ (11 : Int32) = 9 by decide), if_neg (show ¬ (11 : Int32) = 10 by decide), if_pos rfl]
theorem fitW_12 : fitIcW s r q y3 y4 12 12 = extI s r q y3 y4 (12 - 10) 0 := by
  unfold fitIcW
  rw [if_neg (show ¬ (12 : Int32) = 0 by decide), if_neg (show ¬ (12 : Int32) = 1 by decide), if_neg (show ¬ (12 : Int32) = 2 by decide), if_neg (show ¬ (12 : Int32) = 3 by decide), if_neg (show ¬ (12 : Int32) = 4 by decide), if_neg (show ¬ (12 : Int32) = 5 by decide), if_neg (show ¬ (12 : Int32) = 6 by decide), if_neg (show ¬ (12 : Int32) = 7 by decide), if_neg (show ¬ (12 : Int32) = 8 by decide), if_neg (show ¬ (12 : Int32) = 9 by decide), if_neg (show ¬ (12 : Int32) = 10 by decide), if_neg (show ¬ (12 : Int32) = 11 by decide), if_pos rfl]
theorem fitW_20 : fitIcW s r q y3 y4 20 20 = extI s r q y3 y4 (20 - 20) 1 := by
  unfold fitIcW
  rw [if_neg (show ¬ (20 : Int32) = 0 by decide), if_neg (show ¬ (20 : Int32) = 1 by decide), if_neg (show ¬ (20 : Int32) = 2 by decide), if_neg (show ¬ (20 : Int32) = 3 by decide), if_neg (show ¬ (20 : Int32) = 4 by decide), if_neg (show ¬ (20 : Int32) = 5 by decide), if_neg (show ¬ (20 : Int32) = 6 by decide), if_neg (show ¬ (20 : Int32) = 7 by decide), if_neg (show ¬ (20 : Int32) = 8 by decide), if_neg (show ¬ (20 : Int32) = 9 by decide), if_neg (show ¬ (20 : Int32) = 10 by decide), if_neg (show ¬ (20 : Int32) = 11 by decide), if_neg (show ¬ (20 : Int32) = 12 by decide), if_neg (show ¬ (20 : Int32) = 13 by decide), if_neg (show ¬ (20 : Int32) = 14 by decide), if_neg (show ¬ (20 : Int32) = 15 by decide), if_neg (show ¬ (20 : Int32) = 16 by decide), if_neg (show ¬ (20 : Int32) = 17 by decide), if_neg (show ¬ (20 : Int32) = 18 by decide), if_neg (show ¬ (20 : Int32) = 19 by decide), if_pos rfl]
theorem fitW_21 : fitIcW s r q y3 y4 21 21 = extI s r q y3 y4 (21 - 20) 1 := by
  unfold fitIcW
  rw [if_neg (show ¬ (21 : Int32) = 0 by decide), if_neg (show ¬ (21 : Int32) = 1 by decide), if_neg (show ¬ (21 : Int32) = 2 by decide), if_neg (show ¬ (21 : Int32) = 3 by decide), if_neg (show ¬ (21 : Int32) = 4 by decide), if_neg (show ¬ (21 : Int32) = 5 by decide), if_neg (show ¬ (21 : Int32) = 6 by decide), if_neg (show ¬ (21 : Int32) = 7 by decide), if_neg (show ¬ (21 : Int32) = 8 by decide), if_neg (show ¬ (21 : Int32) = 9 by decide), if_neg (show ¬ (21 : Int32) = 10 by decide), if_neg (show ¬ (21 : Int32) = 11 by decide), if_neg (show ¬ (21 : Int32) = 12 by decide), if_neg (show ¬ (21 : Int32) = 13 by decide), if_neg (show ¬ (21 : Int32) = 14 by decide), if_neg (show ¬ (21 : Int32) = 15 by decide), if_neg (show ¬ (21 : Int32) = 16 by decide), if_neg (show ¬ (21 : Int32) = 17 by decide), if_neg (show ¬ (21 : Int32) = 18 by decide), if_neg (show ¬ (21 : Int32) = 19 by decide), if_neg (show ¬ (21 : Int32) = 20 by decide), if_pos rfl]
theorem fitW_22 : fitIcW s r q y3 y4 22 22 = extI s r q y3 y4 (22 - 20) 1 := by
  unfold fitIcW
  rw [if_neg (show ¬ (22 : Int32) = 0 by decide), if_neg (show ¬ (22 : Int32) = 1 by decide), if_neg (show ¬ (22 : Int32) = 2 by decide), if_neg (show ¬ (22 : Int32) = 3 by decide), if_neg (show ¬ (22 : Int32) = 4 by decide), if_neg (show ¬ (22 : Int32) = 5 by decide), if_neg (show ¬ (22 : Int32) = 6 by decide), if_neg (show ¬ (22 : Int32) = 7 by decide), if_neg (show ¬ (22 : Int32) = 8 by decide), if_neg (show ¬ (22 : Int32) = 9 by decide), if_neg (show ¬ (22 : Int32) = 10 by decide), if_neg (show ¬ (22 : Int32) = 11 by decide), if_neg (show ¬ (22 : Int32) = 12 by decide), if_neg (show ¬ (22 : Int32) = 13 by decide), if_neg (show ¬ (22 : Int32) = 14 by decide), if_neg (show ¬ (22 : Int32) = 15 by decide), if_neg (show ¬ (22 : Int32) = 16 by decide), if_neg (show ¬ (22 : Int32) = 17 by decide), if_neg (show ¬ (22 : Int32) = 18 by decide), if_neg (show ¬ (22 : Int32) = 19 by decide), if_neg (show ¬ (22 : Int32) = 20 by decide), if_neg (show ¬ (22 : Int32) = 21 by decide), if_pos rfl]
theorem fitW_x (h : y5 = 10 ∨ y5 = 11 ∨ y5 = 12) : fitIcW s r q y3 y4 y5 y5 = extI s r q y3 y4 (y5 - 10) 0 := by
  rcases h with h | h | h <;> rw [h]
  · exact fitW_10
  · exact fitW_11
  · exact fitW_12
theorem fitW_y (h : y5 = 20 ∨ y5 = 21 ∨ y5 = 22) : fitIcW s r q y3 y4 y5 y5 = extI s r q y3 y4 (y5 - 20) 1 := by
  rcases h with h | h | h <;> rw [h]
  · exact fitW_20
  · exact fitW_21
  · exact fitW_22
theorem in_3 {lo : Nat} (hl : lo ≤ 20) (h : ¬ inI y5 (nI lo) (nI (lo + 2)) = 0) : y5 = nI lo ∨ y5 = nI (lo + 1) ∨ y5 = nI (lo + 2) := by
  obtain ⟨i, e, hi⟩ := between (by omega) h (by omega)
  rcases (by omega : i = 0 ∨ i = 1 ∨ i = 2) with rfl | rfl | rfl
  · exact Or.inl e
  · exact Or.inr (Or.inl e)
  · exact Or.inr (Or.inr e)
theorem fitW_n (c0 : ¬ y5 = 0) (c1 : ¬ y5 = 1) (c2 : ¬ y5 = 2) (c3 : ¬ y5 = 3) (k1 : inI y5 10 12 = 0) (k2 : inI y5 20 22 = 0) : fitIcW s r q y3 y4 y5 y5 = -2 := by
  have n10 : ¬ y5 = 10 := fun e => by rw [e] at k1; exact absurd k1 (by decide)
  have n11 : ¬ y5 = 11 := fun e => by rw [e] at k1; exact absurd k1 (by decide)
  have n12 : ¬ y5 = 12 := fun e => by rw [e] at k1; exact absurd k1 (by decide)
  have n20 : ¬ y5 = 20 := fun e => by rw [e] at k2; exact absurd k2 (by decide)
  have n21 : ¬ y5 = 21 := fun e => by rw [e] at k2; exact absurd k2 (by decide)
  have n22 : ¬ y5 = 22 := fun e => by rw [e] at k2; exact absurd k2 (by decide)
  unfold fitIcW
  rw [if_neg c0, if_neg c1, if_neg c2, if_neg c3, if_neg n10, if_neg n11, if_neg n12, if_neg n20, if_neg n21, if_neg n22]
  simp only [ite_self]
theorem fits_38 (h : AGJ r o n V b se s v) (l0 : LJ0 s q v k l) : ∀ (i j z : Nat), (∀ x, x < j → ∃ m, m < n ∧ parI s q (nI x) 0 = nI m) → j + i = l → pc (Rfits_38 (Rfits_R z).1 (Rfits_R z).2 v y1 y2 y3 y4 y5 (nI j)) (fun p => p.1 = if artIL s r q i j = 0 then -2 else fitIcW s r q (nI b) (nI se) y5 y5) := by
  have hl := l0.2.2.1.1
  have hn := h.2.2.1.2.1.1
  intro i
  induction i with
  | zero =>
    intro j z lk hj
    have lj : LJ s q v k n l := ⟨l0, fun x hx => lk x (by omega)⟩
    unfold Rfits_38
    rw [lj_rd l0, Option.bind_some, if_pos (k_ge hj), artIL, if_neg (show ¬ (1 : Int32) = 0 by decide)]
    unfold Rfitting
    refine pc_b (fitting_4 (y1 := -1) 1000 0 xF 0 v h lj rfl) (fun p hp => ?_)
    obtain ⟨e, h2, l2⟩ := hp
    have b0 := (cnB_le (f := okb s r q b se l (-1)) 1000 0 0).2
    by_cases c0 : y5 = 0
    · rw [if_pos c0, c0, fitW_0]
      exact pc_s (e.trans (mnfI_0 h2 l2).symm)
    rw [if_neg c0]
    by_cases c1 : y5 = 1
    · rw [if_pos c1, e]
      refine pc_w (lir_102 h2 l2) (fun x hx => hx.trans ?_)
      rw [c1, fitW_1]
    rw [if_neg c1]
    by_cases c2 : y5 = 2
    · rw [if_pos c2, e]
      refine pc_w (lir_102 h2 l2) (fun x hx => hx.trans ?_)
      rw [c2, fitW_2]
    rw [if_neg c2]
    by_cases c3 : y5 = 3
    · rw [if_pos c3]
      have ew : fitIcW s r q (nI b) (nI se) y5 y5 = lieI s r q (nI b) (nI se) := by rw [c3, fitW_3]
      rw [ew]
      unfold lieI
      by_cases g : 0 < cnB (okb s r q b se l (-1)) 1000 0 0
      · obtain ⟨x, x1, x2, x3⟩ := (cnB_pos 1000 0 0).1 g
        rw [lie_0 h2 l2 1000 0 0 ⟨x, x1, x2, x3⟩]
        have ne : ¬ p.1 = 0 := by
          rw [e]
          exact fun q => absurd (nI_inj (b := 0) (by omega) (by decide) q) (by omega)
        unfold Rfits_144
        rw [lj_rd l2.1, Option.bind_some, if_neg ne]
        exact pc_i (fun _ => pc_s rfl) (fun _ => pc_s rfl)
      · have z0 : cnB (okb s r q b se l (-1)) 1000 0 0 = 0 := by omega
        rw [e, z0]
        have nf : ∀ x, 0 ≤ x → x < 0 + 1000 → okb s r q b se l (-1) x = false := by
          intro x x1 x2
          cases q : okb s r q b se l (-1) x with
          | false => rfl
          | true => exact absurd ((cnB_pos 1000 0 0).2 ⟨x, x1, x2, q⟩) g
        obtain ⟨Z, z1, z2, z3⟩ := lie_b h2 l2 1000 0 0 (Nat.two_pow_pos l) nf
        refine pc_w (lie_144 (y1 := y1) (y2 := y2) (y3 := y3) (y4 := y4) (y5 := y5) l 0 z 0 p.2 h2 l2 (by omega) (by decide) (fun g hg => absurd hg (by omega))) (fun w hw => ?_)
        obtain ⟨Z2, w1, w2, w3⟩ := hw
        have eZ : Z2 = Z := by
          refine Nat.eq_of_testBit_eq (fun x => ?_)
          by_cases hx : x < l
          · refine Bool.eq_iff_iff.mpr ((w3 x hx).trans (((cnB_pos 1000 0 0).trans ?_).trans (z3 x hx).symm))
            refine ⟨fun c => Or.inr c, fun c => c.resolve_left (fun c => ?_)⟩
            rw [Nat.zero_testBit] at c; exact absurd c (by decide)
          · have pl : 2 ^ l ≤ 2 ^ x := Nat.pow_le_pow_right (by decide) (by omega)
            rw [Nat.testBit_lt_two_pow (Nat.lt_of_lt_of_le w2 pl), Nat.testBit_lt_two_pow (Nat.lt_of_lt_of_le z2 pl)]
        rw [w1, eZ]
        exact z1.symm
    rw [if_neg c3]
    by_cases k1 : inI y5 10 12 = 0
    · rw [if_pos k1]
      by_cases k2 : inI y5 20 22 = 0
      · rw [if_pos k2, fitW_n c0 c1 c2 c3 k1 k2]; exact pc_s rfl
      · rw [if_neg k2, fitW_y (in_3 (lo := 20) (by decide) k2)]
        unfold Rextreme extI
        exact pc_b (ext_5 1000 0 xF p.2 (-1) h2 l2 rfl (Or.inl rfl)) (fun x hx => pc_s hx)
    · rw [if_neg k1, fitW_x (in_3 (lo := 10) (by decide) k1)]
      unfold Rextreme extI
      exact pc_b (ext_5 1000 0 xF p.2 (-1) h2 l2 rfl (Or.inl rfl)) (fun x hx => pc_s hx)
  | succ i ih =>
    intro j z lk hj
    unfold Rfits_38
    have p0 : parI s q (nI j) 0 = v 65 (1330 + 17 * k + 1 + 2 * j + 0) := l0.2.2.2 j 0 (by omega) (by omega)
    obtain ⟨m1, m2⟩ := rq_mn (x := parI s q (nI j) 0) h.2.2.1
    rw [lj_rd l0, Option.bind_some, if_neg (k_lt hj (by omega)), leakOf_eq (y := 0) (a := 0) l0.2.1 l0.1 rfl rfl (by omega) (by decide), Option.bind_some, ← p0, m1, Option.bind_some, artIL]
    by_cases c : inI (parI s q (nI j) 0) 0 (nI n - 1) = 0
    · rw [if_pos c, if_pos (m2.2 c), if_pos rfl]; exact pc_s rfl
    rw [if_neg c, if_neg (fun e => c (m2.1 e))]
    obtain ⟨m, em, hm⟩ := inI_sub (by omega) c
    cases z with
    | zero => exact fun _ e => nomatch e
    | succ z =>
      show pc (Rfits_38 (Rfits_R z).1 (Rfits_R z).2 v y1 y2 y3 y4 y5 (nI j + 1)) _
      rw [← nI_succ]
      refine ih (j + 1) z (fun x hx => ?_) (by omega)
      by_cases q : x = j
      · rw [q]; exact ⟨m, hm, em⟩
      · exact lk x (by omega)
end LKF
theorem CE_fits {s : SG} {x1 x2 x3 x4 x5 : Int32} (hP : wLoc SIM1) (h : INVP SIM1 K s) : ∃ v s1 s2, xN sc (d + 11) 131 [.inr (.inr (.inl (some 0))), .inl x1, .inl x2, .inl x3, .inl x4, .inl x5] (wl K s) = some (some (.inl v), wl K s1) ∧ xN sc (d + 11) 276 [.inr (.inr (.inl (some 64))), .inl x1, .inl x2, .inl x3, .inl x4, .inl x5] (wl K s1) = some (some (.inl v), wl K s2) ∧ INVP SIM1 K s2 := by
  have hK := INVP_SH h
  have hn := SIM_n.1 (INVP_P h)
  have rr := INVP_RI h
  have q2 := r_fits (sc := sc) (d := d + 3) (s := s) (x1 := x1) (x2 := x2) (x3 := x3) (x4 := x4) (x5 := x5) hK
  obtain ⟨p, e2, qi⟩ : ok (Rfits s x1 x2 x3 x4 x5) (fun p => QI s p.2) := fits_ok rr
  rw [e2] at q2
  have I := INVP_q hP h (s1 := s) (fun _ _ => rfl) qi
  obtain ⟨w, ew, qw, _⟩ := isMotion_ok (x := x1) (b := x3) (se := x4) (u := 0) (v := 0) (w := 0) rr
  obtain ⟨n3, en3, hn3⟩ := rr.1.1 3 (by omega)
  unfold Rfits at e2
  rw [ew, Option.bind_some] at e2
  have d0 : dayI 0 0 0 = 0 := by decide
  have tv := TB_TV (INVP_TB h)
  rcases mot_v (x1 := x1) (x2 := x3) (x3 := x4) (x4 := 0) (x5 := 0) (x6 := 0) hn rr with ⟨c1, c2⟩ | ⟨j, b, se, hj, hb, hse, eb, es, c1, c2⟩
  · rw [d0] at c1
    rw [if_pos (c2 w ew)] at e2
    have ep : p.1 = -2 := by cases e2; rfl
    exact ⟨p.1, s, p.2, by rw [ep]; exact c_fitI_a (sc := sc) (d := d + 7) (s := s) (x := x1) (y := x2) (who := x3) (se := x4) (v := x5) hK tv c1, q2, I⟩
  · rw [d0] at c1
    obtain ⟨w1, n, V, hmn, rq, e15, e16, e12, e13, e14, e18, e20, e21, e22, rb⟩ := c2 w ew
    have zr : SZ s (6 + 8 * j) := by
      obtain ⟨_, _, e3⟩ := rq_n rq
      exact ⟨by rw [e3]; exact rq.2.2.1.1, by rw [e3]; exact rq.2.1.1⟩
    have iw : iofN w.2 3 x2 = iofN s 3 x2 := by unfold iofN; rw [qw.1]
    rw [if_neg (show ¬ w.1 = 0 by rw [w1]; decide), q_isOf (x := 3) (a := 3) rfl (by decide), Option.bind_some, iw] at e2
    rcases row_sel (k := 2) (x := x2) hn (by omega) en3 hn3 with ⟨z, e⟩ | ⟨g, hg, hgn, ex, z, e⟩
    · rw [if_pos z] at e2
      have ep : p.1 = -2 := by cases e2; rfl
      exact ⟨p.1, s, p.2, by rw [ep]; exact c_fitI_b (sc := sc) (d := d + 7) (s := s) (x := x1) (y := x2) (who := x3) (se := x4) (v := x5) (rp_j hK hj) hK tv c1 e, q2, I⟩
    · rw [if_neg z, ex, place3] at e2
      have wq : WEQ 2 8 (fun e j2 => s (22 + 2 * (2 * 2 + g) + e) j2) (fun j2 => s 65 (1330 + 17 * g + j2)) := by
        have g' : ∀ e, 1 + (CPK 3 g + e) = 22 + 2 * (2 * 2 + g) + e := fun e => by
          show 1 + (21 + 2 * (2 * 2 + g) + e) = _
          omega
        have w : WEQ 2 8 (fun e j2 => s (1 + (CPK 3 g + e)) j2) (fun j2 => s 65 (1330 + 17 * g + j2)) := hn.2.2.2 3 g n3 (by omega) hg en3 hn3 hgn
        simp only [g'] at w
        exact w
      obtain ⟨l, hl, g1, g3, g4, _⟩ := wq
      have g1 : s (22 + 2 * (2 * 2 + g)) 0 = nI l := g1
      have g3 : s 65 (1330 + 17 * g) = nI l := g3
      have rzl : rz s (22 + 2 * (2 * 2 + g)) = l := by unfold rz; rw [g1, nI_clamp (by omega)]
      have zq : RZ s (22 + 2 * (2 * 2 + g)) := ⟨by rw [rzl]; exact g1, by rw [rzl]; omega⟩
      have u65 : up w.2 64 33 (nI (1330 + 17 * g)) 65 = s 65 := by rw [up_n (by decide)]; exact qw.1
      have l0 : LJ0 s (22 + 2 * (2 * 2 + g)) (up w.2 64 33 (nI (1330 + 17 * g))) g l := by
        refine ⟨hg, up_a, ⟨hl, rzl, by rw [u65]; exact g3⟩, fun j2 c hj2 hc => ?_⟩
        have i : parI s (22 + 2 * (2 * 2 + g)) (nI j2) (nI c) = s (22 + 2 * (2 * 2 + g) + 1) (5 * j2 + c) := by
          unfold parI
          rw [show nI j2 * 5 + nI c = nI (5 * j2 + c) by
            show nI j2 * nI 5 + nI c = _
            rw [nI_mulx, nI_add, Nat.mul_comm]]
          exact cl_nI (by omega) (by decide)
        rw [i, u65, show 1330 + 17 * g + 1 + 2 * j2 + c = 1330 + 17 * g + (1 + 2 * j2 + c) by omega]
        exact g4 j2 c hj2 hc
      have J : AGJ (6 + 8 * j) (610 + 118 * j) n V b se s (up w.2 64 33 (nI (1330 + 17 * g))) := ⟨by omega, ⟨hb, hse⟩, RQ_v rq (up_bn (by decide)) (up_n (by decide)), by rw [up_bn (by decide), e15, eb], by rw [up_bn (by decide), e16, es], by rw [up_bn (by decide), e18], by rw [up_bn (by decide), e20], by rw [up_bn (by decide), e21], by rw [up_bn (by decide), e22]⟩
      have cc := c_fitI_c (sc := sc) (d := d + 4) (s := s) (x := x1) (y := x2) (who := x3) (se := x4) (v := x5) (rp_j hK hj) (RW2 hK (2 * 2 + g) (by omega)) hK tv c1 e zr zq
      have fin := fits_38 (y1 := x1) (y2 := nI g) (y3 := x3) (y4 := x4) (y5 := x5) J l0 l 0 xF (fun x hx => absurd hx (by omega)) (by omega) p e2
      refine ⟨p.1, s, p.2, ?_, q2, I⟩
      rw [cc, fin, eb, es]
      unfold fitIc artI
      rw [rzl]
end XVJ
end
section
section XSF
variable {sc : Nat × (Nat → Int32)} {d : Nat} {K : List KD} {s : SG}
/-! the law: answers that are the same, all that is told kept the same -/
theorem CE_feed {x1 x2 x3 x4 x5 : Int32} (hP : PGd SIM1) (h : INVP SIM1 K s) : ∃ v s1 s2, xN sc (d + 11) 72 [.inr (.inr (.inl (some 0))), .inl x1, .inl x2, .inl x3, .inl x4, .inl x5] (wl K s) = some (some (.inl v), wl K s1) ∧ xN sc (d + 11) 151 [.inr (.inr (.inl (some 64))), .inl x1, .inl x2, .inl x3, .inl x4, .inl x5] (wl K s1) = some (some (.inl v), wl K s2) ∧ INVP SIM1 K s2 := by
  obtain ⟨p, s2, e1, e2, e3, i⟩ := CQ_feed (sc := sc) (d := d) (x1 := x1) (x2 := x2) (x3 := x3) (x4 := x4) (x5 := x5) hP h
  have e := (FD_sim (INVP_TB h) (INVP_RI h) (INVP_P h) e3).1
  rw [e] at e1
  exact ⟨_, _, s2, e1, e2, i⟩
theorem CE_end {x1 : Int32} (hP : PGd SIM1) (h : INVP SIM1 K s) : ∃ v s1 s2, xN sc (d + 11) 74 [.inr (.inr (.inl (some 0))), .inl x1] (wl K s) = some (some (.inl v), wl K s1) ∧ xN sc (d + 11) 152 [.inr (.inr (.inl (some 64))), .inl x1] (wl K s1) = some (some (.inl v), wl K s2) ∧ INVP SIM1 K s2 := by
  obtain ⟨p, s2, e1, e2, e3, i⟩ := CQ_end (sc := sc) (d := d) (x1 := x1) hP h
  have e := (EN_sim (INVP_P h) e3).1
  rw [e] at e1
  exact ⟨_, _, s2, e1, e2, i⟩
theorem CE_text {x1 x2 : Int32} (hP : PGd SIM1) (h : INVP SIM1 K s) : ∃ v s1 s2, xN sc (d + 11) 75 [.inr (.inr (.inl (some 0))), .inl x1, .inl x2] (wl K s) = some (some (.inl v), wl K s1) ∧ xN sc (d + 11) 185 [.inr (.inr (.inl (some 64))), .inl x1, .inl x2] (wl K s1) = some (some (.inl v), wl K s2) ∧ INVP SIM1 K s2 := by
  obtain ⟨p, s2, e1, e2, e3, i⟩ := CQ_text (sc := sc) (d := d) (x1 := x1) (x2 := x2) hP h
  have e := (TX_sim (INVP_TB h) (INVP_RI h) (INVP_P h) e3).1
  rw [e] at e1
  exact ⟨_, _, s2, e1, e2, i⟩
theorem CE_fault {x1 : Int32} (_hP : wLoc SIM1) (h : INVP SIM1 K s) : ∃ v s1 s2, xN sc (d + 11) 78 [.inr (.inr (.inl (some 0))), .inl x1] (wl K s) = some (some (.inl v), wl K s1) ∧ xN sc (d + 11) 186 [.inr (.inr (.inl (some 64))), .inl x1] (wl K s1) = some (some (.inl v), wl K s2) ∧ INVP SIM1 K s2 := by
  have hK := INVP_SH h
  have hn := SIM_n.1 (INVP_P h)
  have q2 := r_fault (sc := sc) (d := d + 10) (s := s) (x1 := x1) hK
  have e : Rfault s x1 = some (fauI s x1) := by
    unfold Rfault fauI
    by_cases c0 : x1 = 0
    · rw [if_pos c0, if_pos c0, rd_nI (x := 7) (e := 7) rfl (by decide) (by decide), hn.1.2.1]; rfl
    · rw [if_neg c0, if_neg c0]
      by_cases c1 : x1 = 1
      · rw [if_pos c1, if_pos c1, rd_nI (x := 8) (e := 8) rfl (by decide) (by decide), hn.1.2.2]; rfl
      · rw [if_neg c1, if_neg c1]
  rw [e] at q2
  exact ⟨fauI s x1, s, s, c_fault (sc := sc) (d := d + 10) (s := s) (w := x1) hK, q2, h⟩
theorem CE_count {x1 : Int32} (_hP : wLoc SIM1) (h : INVP SIM1 K s) : ∃ v s1 s2, xN sc (d + 11) 79 [.inr (.inr (.inl (some 0))), .inl x1] (wl K s) = some (some (.inl v), wl K s1) ∧ xN sc (d + 11) 280 [.inr (.inr (.inl (some 64))), .inl x1] (wl K s1) = some (some (.inl v), wl K s2) ∧ INVP SIM1 K s2 := by
  have hK := INVP_SH h
  have hn := SIM_n.1 (INVP_P h)
  have q2 := r_count (sc := sc) (d := d + 9) (s := s) (x1 := x1) hK
  have e : Rcount s x1 = some (couI s x1) := by
    unfold Rcount couI
    by_cases c0 : inI x1 0 5 = 0
    · rw [if_pos c0]
      rcases inI5_n.1 c0 with g | g
      · rw [if_pos g]
      · rw [if_pos (Int32.not_lt.mp g)]; split <;> rfl
    · obtain ⟨k, ek, hk⟩ := inI_nI (b := 5) (by decide) c0
      have g1 : ¬ x1 < 0 := fun g => c0 (inI5_n.2 (Or.inl g))
      have g2 : ¬ 6 ≤ x1 := fun g => c0 (inI5_n.2 (Or.inr (Int32.not_lt.mpr g)))
      rw [if_neg c0, if_neg g1, if_neg g2, rd_nI ek (by omega) (by decide), ek, cl_nI (by omega) (by decide), hn.2.2.1 k (by omega)]; rfl
  rw [e] at q2
  exact ⟨couI s x1, s, s, c_count (sc := sc) (d := d + 9) (s := s) (w := x1) hK, q2, h⟩
end XSF
end
section
section XRQ
variable {sc : Nat × (Nat → Int32)} {d : Nat} {K : List KD} {s : SG} {b : Nat → XL → List EV → EW → XR} {x a1 a2 a3 a4 a5 a6 a7 : Int32}
/-! the law: one call -/
theorem LS_feed (h : INVP SIM1 K s) (g1 : ∀ w, xdi sc w (x + 1) (.inr (.inr (.inr 2))) = some a1) (g2 : ∀ w, xdi sc w (x + 2) (.inr (.inr (.inr 2))) = some a2) (g3 : ∀ w, xdi sc w (x + 3) (.inr (.inr (.inr 2))) = some a3) (g4 : ∀ w, xdi sc w (x + 4) (.inr (.inr (.inr 2))) = some a4) (g5 : ∀ w, xdi sc w (x + 5) (.inr (.inr (.inr 2))) = some a5) : ∃ s2, INVP SIM1 K s2 ∧ fW sc 8 4 false 4 (xN sc (d + 11)) b kL_law_164 164 [some (.inr (.inr (.inr 2))), some (.inr (.inr (.inl (some 0)))), some (.inr (.inr (.inl (some 64)))), some (.inl x)] [] (wl K s) = fW sc 8 4 false 4 (xN sc (d + 11)) b kL_law_1621 1621 [some (.inr (.inr (.inr 2))), some (.inr (.inr (.inl (some 0)))), some (.inr (.inr (.inl (some 64)))), some (.inl x)] [] (wl K s2) := by
  have hK := INVP_SH h
  obtain ⟨p, s2, e1, e2, _, i2⟩ := CQ_feed (sc := sc) (d := d) (x1 := a1) (x2 := a2) (x3 := a3) (x4 := a4) (x5 := a5) SIM1_gd h
  refine ⟨s2, i2, ?_⟩
  simp only [uL_law_164, qL_law_164, jL_law_164_227, jL_law_164_250, jL_law_164_283, jL_law_164_306, jL_law_164_339, jL_law_164_382, jL_law_164_457, jL_law_164_560, jL_law_164_603, jL_law_164_678, jL_law_164_721, jL_law_164_764, jL_law_164_827, jL_law_164_890, jL_law_164_949, jL_law_164_982, jL_law_164_1085, jL_law_164_1172, jL_law_164_1215, jL_law_164_1258, jL_law_164_1301, jL_law_164_1344, jL_law_164_1393, jL_law_164_1436, jL_law_164_1499, jL_law_164_1552, jL_law_164_1575, jL_law_164_1598, jL_law_164_1621, jL_law_227_1621, g1, g2, g3, g4, g5, bd2, c0_v hK, c64_v hK, cond_true, e1, e2, xci_eq]
theorem LS_end (h : INVP SIM1 K s) (g1 : ∀ w, xdi sc w (x + 1) (.inr (.inr (.inr 2))) = some a1) : ∃ s2, INVP SIM1 K s2 ∧ fW sc 8 4 false 4 (xN sc (d + 11)) b kL_law_227 227 [some (.inr (.inr (.inr 2))), some (.inr (.inr (.inl (some 0)))), some (.inr (.inr (.inl (some 64)))), some (.inl x)] [] (wl K s) = fW sc 8 4 false 4 (xN sc (d + 11)) b kL_law_1621 1621 [some (.inr (.inr (.inr 2))), some (.inr (.inr (.inl (some 0)))), some (.inr (.inr (.inl (some 64)))), some (.inl x)] [] (wl K s2) := by
  have hK := INVP_SH h
  obtain ⟨p, s2, e1, e2, _, i2⟩ := CQ_end (sc := sc) (d := d) (x1 := a1) SIM1_gd h
  refine ⟨s2, i2, ?_⟩
  simp only [uL_law_227, qL_law_227, jL_law_227_1621, jL_law_250_1621, g1, bd2, c0_v hK, c64_v hK, cond_true, e1, e2, xci_eq]
theorem LS_text (h : INVP SIM1 K s) (g1 : ∀ w, xdi sc w (x + 1) (.inr (.inr (.inr 2))) = some a1) (g2 : ∀ w, xdi sc w (x + 2) (.inr (.inr (.inr 2))) = some a2) : ∃ s2, INVP SIM1 K s2 ∧ fW sc 8 4 false 4 (xN sc (d + 11)) b kL_law_250 250 [some (.inr (.inr (.inr 2))), some (.inr (.inr (.inl (some 0)))), some (.inr (.inr (.inl (some 64)))), some (.inl x)] [] (wl K s) = fW sc 8 4 false 4 (xN sc (d + 11)) b kL_law_1621 1621 [some (.inr (.inr (.inr 2))), some (.inr (.inr (.inl (some 0)))), some (.inr (.inr (.inl (some 64)))), some (.inl x)] [] (wl K s2) := by
  have hK := INVP_SH h
  obtain ⟨p, s2, e1, e2, _, i2⟩ := CQ_text (sc := sc) (d := d) (x1 := a1) (x2 := a2) SIM1_gd h
  refine ⟨s2, i2, ?_⟩
  simp only [uL_law_250, qL_law_250, jL_law_250_1621, jL_law_283_1621, g1, g2, bd2, c0_v hK, c64_v hK, cond_true, e1, e2, xci_eq]
theorem LS_fault (h : INVP SIM1 K s) (g1 : ∀ w, xdi sc w (x + 1) (.inr (.inr (.inr 2))) = some a1) : ∃ s2, INVP SIM1 K s2 ∧ fW sc 8 4 false 4 (xN sc (d + 11)) b kL_law_283 283 [some (.inr (.inr (.inr 2))), some (.inr (.inr (.inl (some 0)))), some (.inr (.inr (.inl (some 64)))), some (.inl x)] [] (wl K s) = fW sc 8 4 false 4 (xN sc (d + 11)) b kL_law_1621 1621 [some (.inr (.inr (.inr 2))), some (.inr (.inr (.inl (some 0)))), some (.inr (.inr (.inl (some 64)))), some (.inl x)] [] (wl K s2) := by
  have hK := INVP_SH h
  obtain ⟨v1, v2, e1, e2, i2⟩ := CQ_fault (sc := sc) (d := d) (x1 := a1) SIM1_gd.1 h
  refine ⟨s, i2, ?_⟩
  simp only [uL_law_283, qL_law_283, jL_law_283_1621, jL_law_306_1621, g1, bd2, c0_v hK, c64_v hK, cond_true, e1, e2, xci_eq]
theorem LS_republic (h : INVP SIM1 K s) (g1 : ∀ w, xdi sc w (x + 1) (.inr (.inr (.inr 2))) = some a1) (g2 : ∀ w, xdi sc w (x + 2) (.inr (.inr (.inr 2))) = some a2) : ∃ s2, INVP SIM1 K s2 ∧ fW sc 8 4 false 4 (xN sc (d + 11)) b kL_law_306 306 [some (.inr (.inr (.inr 2))), some (.inr (.inr (.inl (some 0)))), some (.inr (.inr (.inl (some 64)))), some (.inl x)] [] (wl K s) = fW sc 8 4 false 4 (xN sc (d + 11)) b kL_law_1621 1621 [some (.inr (.inr (.inr 2))), some (.inr (.inr (.inl (some 0)))), some (.inr (.inr (.inl (some 64)))), some (.inl x)] [] (wl K s2) := by
  have hK := INVP_SH h
  obtain ⟨v1, v2, s1, s2, e1, e2, i2⟩ := CQ_republic (sc := sc) (d := d) (x1 := a1) (x2 := a2) SIM1_gd.1 h
  refine ⟨s2, i2, ?_⟩
  simp only [uL_law_306, qL_law_306, jL_law_306_1621, jL_law_339_1621, g1, g2, bd2, c0_v hK, c64_v hK, cond_true, e1, e2, xci_eq]
theorem LS_minister (h : INVP SIM1 K s) (g1 : ∀ w, xdi sc w (x + 1) (.inr (.inr (.inr 2))) = some a1) (g2 : ∀ w, xdi sc w (x + 2) (.inr (.inr (.inr 2))) = some a2) (g3 : ∀ w, xdi sc w (x + 3) (.inr (.inr (.inr 2))) = some a3) : ∃ s2, INVP SIM1 K s2 ∧ fW sc 8 4 false 4 (xN sc (d + 11)) b kL_law_339 339 [some (.inr (.inr (.inr 2))), some (.inr (.inr (.inl (some 0)))), some (.inr (.inr (.inl (some 64)))), some (.inl x)] [] (wl K s) = fW sc 8 4 false 4 (xN sc (d + 11)) b kL_law_1621 1621 [some (.inr (.inr (.inr 2))), some (.inr (.inr (.inl (some 0)))), some (.inr (.inr (.inl (some 64)))), some (.inl x)] [] (wl K s2) := by
  have hK := INVP_SH h
  obtain ⟨v1, v2, s1, s2, e1, e2, i2⟩ := CQ_minister (sc := sc) (d := d) (x1 := a1) (x2 := a2) (x3 := a3) SIM1_gd.1 h
  refine ⟨s2, i2, ?_⟩
  simp only [uL_law_339, qL_law_339, jL_law_339_1621, jL_law_382_1621, g1, g2, g3, bd2, c0_v hK, c64_v hK, cond_true, e1, e2, xci_eq]
theorem LS_off (h : INVP SIM1 K s) (g1 : ∀ w, xdi sc w (x + 1) (.inr (.inr (.inr 2))) = some a1) (g2 : ∀ w, xdi sc w (x + 2) (.inr (.inr (.inr 2))) = some a2) (g3 : ∀ w, xdi sc w (x + 3) (.inr (.inr (.inr 2))) = some a3) (g4 : ∀ w, xdi sc w (x + 4) (.inr (.inr (.inr 2))) = some a4) (g5 : ∀ w, xdi sc w (x + 5) (.inr (.inr (.inr 2))) = some a5) (g6 : ∀ w, xdi sc w (x + 6) (.inr (.inr (.inr 2))) = some a6) : ∃ s2, INVP SIM1 K s2 ∧ fW sc 8 4 false 4 (xN sc (d + 11)) b kL_law_382 382 [some (.inr (.inr (.inr 2))), some (.inr (.inr (.inl (some 0)))), some (.inr (.inr (.inl (some 64)))), some (.inl x)] [] (wl K s) = fW sc 8 4 false 4 (xN sc (d + 11)) b kL_law_1621 1621 [some (.inr (.inr (.inr 2))), some (.inr (.inr (.inl (some 0)))), some (.inr (.inr (.inl (some 64)))), some (.inl x)] [] (wl K s2) := by
  have hK := INVP_SH h
  obtain ⟨v1, v2, s1, s2, e1, e2, i2⟩ := CQ_off (sc := sc) (d := d) (x1 := a1) (x2 := a2) (x3 := a3) (x4 := a4) (x5 := a5) (x6 := a6) SIM1_gd.1 h
  refine ⟨s2, i2, ?_⟩
  simp only [uL_law_382, qL_law_382, jL_law_382_1621, jL_law_457_1621, g1, g2, g3, g4, g5, g6, bd2, c0_v hK, c64_v hK, cond_true, e1, e2, xci_eq]
theorem LS_vote (h : INVP SIM1 K s) (g1 : ∀ w, xdi sc w (x + 1) (.inr (.inr (.inr 2))) = some a1) (g2 : ∀ w, xdi sc w (x + 2) (.inr (.inr (.inr 2))) = some a2) (g3 : ∀ w, xdi sc w (x + 3) (.inr (.inr (.inr 2))) = some a3) (g4 : ∀ w, xdi sc w (x + 4) (.inr (.inr (.inr 2))) = some a4) (g5 : ∀ w, xdi sc w (x + 5) (.inr (.inr (.inr 2))) = some a5) (g6 : ∀ w, xdi sc w (x + 6) (.inr (.inr (.inr 2))) = some a6) (g7 : ∀ w, xdi sc w (x + 7) (.inr (.inr (.inr 2))) = some a7) : ∃ s2, INVP SIM1 K s2 ∧ fW sc 8 4 false 4 (xN sc (d + 11)) b kL_law_457 457 [some (.inr (.inr (.inr 2))), some (.inr (.inr (.inl (some 0)))), some (.inr (.inr (.inl (some 64)))), some (.inl x)] [] (wl K s) = fW sc 8 4 false 4 (xN sc (d + 11)) b kL_law_1621 1621 [some (.inr (.inr (.inr 2))), some (.inr (.inr (.inl (some 0)))), some (.inr (.inr (.inl (some 64)))), some (.inl x)] [] (wl K s2) := by
  have hK := INVP_SH h
  by_cases z : a7 = 0
  · skip
    obtain ⟨v1, v2, s1, s2, e1, e2, i2⟩ := CQ_vote (sc := sc) (d := d) (x1 := a1) (x2 := a2) (x3 := a3) (x4 := a4) (x5 := a5) (x6 := a6) (x7 := 0) SIM1_gd.1 h
    refine ⟨s2, i2, ?_⟩
    simp only [uL_law_457, uL_law_498, uL_law_502, uL_law_503, uL_law_548, uL_law_552, uL_law_553, qL_law_457, qL_law_498, qL_law_502, qL_law_503, qL_law_548, qL_law_552, qL_law_553, jL_law_457_1621, jL_law_498_502, jL_law_502_503, jL_law_548_552, jL_law_552_553, jL_law_560_1621, g1, g2, g3, g4, g5, g6, g7, bd2, c0_v hK, c64_v hK, cond_true, e1, e2, xci_eq, if_pos z]
  · skip
    obtain ⟨v1, v2, s1, s2, e1, e2, i2⟩ := CQ_vote (sc := sc) (d := d) (x1 := a1) (x2 := a2) (x3 := a3) (x4 := a4) (x5 := a5) (x6 := a6) (x7 := 1) SIM1_gd.1 h
    refine ⟨s2, i2, ?_⟩
    simp only [uL_law_457, uL_law_498, uL_law_502, uL_law_503, uL_law_548, uL_law_552, uL_law_553, qL_law_457, qL_law_498, qL_law_502, qL_law_503, qL_law_548, qL_law_552, qL_law_553, jL_law_457_1621, jL_law_498_502, jL_law_502_503, jL_law_548_552, jL_law_552_553, jL_law_560_1621, g1, g2, g3, g4, g5, g6, g7, bd2, c0_v hK, c64_v hK, cond_true, e1, e2, xci_eq, if_neg z]
theorem LS_order (h : INVP SIM1 K s) (g1 : ∀ w, xdi sc w (x + 1) (.inr (.inr (.inr 2))) = some a1) (g2 : ∀ w, xdi sc w (x + 2) (.inr (.inr (.inr 2))) = some a2) (g3 : ∀ w, xdi sc w (x + 3) (.inr (.inr (.inr 2))) = some a3) : ∃ s2, INVP SIM1 K s2 ∧ fW sc 8 4 false 4 (xN sc (d + 11)) b kL_law_560 560 [some (.inr (.inr (.inr 2))), some (.inr (.inr (.inl (some 0)))), some (.inr (.inr (.inl (some 64)))), some (.inl x)] [] (wl K s) = fW sc 8 4 false 4 (xN sc (d + 11)) b kL_law_1621 1621 [some (.inr (.inr (.inr 2))), some (.inr (.inr (.inl (some 0)))), some (.inr (.inr (.inl (some 64)))), some (.inl x)] [] (wl K s2) := by
  have hK := INVP_SH h
  obtain ⟨v1, v2, s1, s2, e1, e2, i2⟩ := CQ_order (sc := sc) (d := d) (x1 := a1) (x2 := a2) (x3 := a3) SIM1_gd.1 h
  refine ⟨s2, i2, ?_⟩
  simp only [uL_law_560, qL_law_560, jL_law_560_1621, jL_law_603_1621, g1, g2, g3, bd2, c0_v hK, c64_v hK, cond_true, e1, e2, xci_eq]
theorem LS_broken (h : INVP SIM1 K s) (g1 : ∀ w, xdi sc w (x + 1) (.inr (.inr (.inr 2))) = some a1) (g2 : ∀ w, xdi sc w (x + 2) (.inr (.inr (.inr 2))) = some a2) (g3 : ∀ w, xdi sc w (x + 3) (.inr (.inr (.inr 2))) = some a3) (g4 : ∀ w, xdi sc w (x + 4) (.inr (.inr (.inr 2))) = some a4) (g5 : ∀ w, xdi sc w (x + 5) (.inr (.inr (.inr 2))) = some a5) (g6 : ∀ w, xdi sc w (x + 6) (.inr (.inr (.inr 2))) = some a6) : ∃ s2, INVP SIM1 K s2 ∧ fW sc 8 4 false 4 (xN sc (d + 11)) b kL_law_603 603 [some (.inr (.inr (.inr 2))), some (.inr (.inr (.inl (some 0)))), some (.inr (.inr (.inl (some 64)))), some (.inl x)] [] (wl K s) = fW sc 8 4 false 4 (xN sc (d + 11)) b kL_law_1621 1621 [some (.inr (.inr (.inr 2))), some (.inr (.inr (.inl (some 0)))), some (.inr (.inr (.inl (some 64)))), some (.inl x)] [] (wl K s2) := by
  have hK := INVP_SH h
  obtain ⟨v1, v2, s1, s2, e1, e2, i2⟩ := CQ_broken (sc := sc) (d := d) (x1 := a1) (x2 := a2) (x3 := a3) (x4 := a4) (x5 := a5) (x6 := a6) SIM1_gd.1 h
  refine ⟨s2, i2, ?_⟩
  simp only [uL_law_603, qL_law_603, jL_law_603_1621, jL_law_678_1621, g1, g2, g3, g4, g5, g6, bd2, c0_v hK, c64_v hK, cond_true, e1, e2, xci_eq]
theorem LS_deed (h : INVP SIM1 K s) (g1 : ∀ w, xdi sc w (x + 1) (.inr (.inr (.inr 2))) = some a1) (g2 : ∀ w, xdi sc w (x + 2) (.inr (.inr (.inr 2))) = some a2) (g3 : ∀ w, xdi sc w (x + 3) (.inr (.inr (.inr 2))) = some a3) : ∃ s2, INVP SIM1 K s2 ∧ fW sc 8 4 false 4 (xN sc (d + 11)) b kL_law_678 678 [some (.inr (.inr (.inr 2))), some (.inr (.inr (.inl (some 0)))), some (.inr (.inr (.inl (some 64)))), some (.inl x)] [] (wl K s) = fW sc 8 4 false 4 (xN sc (d + 11)) b kL_law_1621 1621 [some (.inr (.inr (.inr 2))), some (.inr (.inr (.inl (some 0)))), some (.inr (.inr (.inl (some 64)))), some (.inl x)] [] (wl K s2) := by
  have hK := INVP_SH h
  obtain ⟨v1, v2, s1, s2, e1, e2, i2⟩ := CQ_deed (sc := sc) (d := d) (x1 := a1) (x2 := a2) (x3 := a3) SIM1_gd.1 h
  refine ⟨s2, i2, ?_⟩
  simp only [uL_law_678, qL_law_678, jL_law_678_1621, jL_law_721_1621, g1, g2, g3, bd2, c0_v hK, c64_v hK, cond_true, e1, e2, xci_eq]
theorem LS_stop (h : INVP SIM1 K s) (g1 : ∀ w, xdi sc w (x + 1) (.inr (.inr (.inr 2))) = some a1) (g2 : ∀ w, xdi sc w (x + 2) (.inr (.inr (.inr 2))) = some a2) (g3 : ∀ w, xdi sc w (x + 3) (.inr (.inr (.inr 2))) = some a3) : ∃ s2, INVP SIM1 K s2 ∧ fW sc 8 4 false 4 (xN sc (d + 11)) b kL_law_721 721 [some (.inr (.inr (.inr 2))), some (.inr (.inr (.inl (some 0)))), some (.inr (.inr (.inl (some 64)))), some (.inl x)] [] (wl K s) = fW sc 8 4 false 4 (xN sc (d + 11)) b kL_law_1621 1621 [some (.inr (.inr (.inr 2))), some (.inr (.inr (.inl (some 0)))), some (.inr (.inr (.inl (some 64)))), some (.inl x)] [] (wl K s2) := by
  have hK := INVP_SH h
  obtain ⟨v1, v2, s1, s2, e1, e2, i2⟩ := CQ_stop (sc := sc) (d := d) (x1 := a1) (x2 := a2) (x3 := a3) SIM1_gd.1 h
  refine ⟨s2, i2, ?_⟩
  simp only [uL_law_721, qL_law_721, jL_law_721_1621, jL_law_764_1621, g1, g2, g3, bd2, c0_v hK, c64_v hK, cond_true, e1, e2, xci_eq]
theorem LS_state (h : INVP SIM1 K s) (g1 : ∀ w, xdi sc w (x + 1) (.inr (.inr (.inr 2))) = some a1) (g2 : ∀ w, xdi sc w (x + 2) (.inr (.inr (.inr 2))) = some a2) (g3 : ∀ w, xdi sc w (x + 3) (.inr (.inr (.inr 2))) = some a3) (g4 : ∀ w, xdi sc w (x + 4) (.inr (.inr (.inr 2))) = some a4) (g5 : ∀ w, xdi sc w (x + 5) (.inr (.inr (.inr 2))) = some a5) : ∃ s2, INVP SIM1 K s2 ∧ fW sc 8 4 false 4 (xN sc (d + 11)) b kL_law_764 764 [some (.inr (.inr (.inr 2))), some (.inr (.inr (.inl (some 0)))), some (.inr (.inr (.inl (some 64)))), some (.inl x)] [] (wl K s) = fW sc 8 4 false 4 (xN sc (d + 11)) b kL_law_1621 1621 [some (.inr (.inr (.inr 2))), some (.inr (.inr (.inl (some 0)))), some (.inr (.inr (.inl (some 64)))), some (.inl x)] [] (wl K s2) := by
  have hK := INVP_SH h
  obtain ⟨v1, v2, s1, s2, e1, e2, i2⟩ := CQ_state (sc := sc) (d := d) (x1 := a1) (x2 := a2) (x3 := a3) (x4 := a4) (x5 := a5) SIM1_gd.1 h
  refine ⟨s2, i2, ?_⟩
  simp only [uL_law_764, qL_law_764, jL_law_764_1621, jL_law_827_1621, g1, g2, g3, g4, g5, bd2, c0_v hK, c64_v hK, cond_true, e1, e2, xci_eq]
theorem LS_agreed (h : INVP SIM1 K s) (g1 : ∀ w, xdi sc w (x + 1) (.inr (.inr (.inr 2))) = some a1) (g2 : ∀ w, xdi sc w (x + 2) (.inr (.inr (.inr 2))) = some a2) (g3 : ∀ w, xdi sc w (x + 3) (.inr (.inr (.inr 2))) = some a3) (g4 : ∀ w, xdi sc w (x + 4) (.inr (.inr (.inr 2))) = some a4) (g5 : ∀ w, xdi sc w (x + 5) (.inr (.inr (.inr 2))) = some a5) : ∃ s2, INVP SIM1 K s2 ∧ fW sc 8 4 false 4 (xN sc (d + 11)) b kL_law_827 827 [some (.inr (.inr (.inr 2))), some (.inr (.inr (.inl (some 0)))), some (.inr (.inr (.inl (some 64)))), some (.inl x)] [] (wl K s) = fW sc 8 4 false 4 (xN sc (d + 11)) b kL_law_1621 1621 [some (.inr (.inr (.inr 2))), some (.inr (.inr (.inl (some 0)))), some (.inr (.inr (.inl (some 64)))), some (.inl x)] [] (wl K s2) := by
  have hK := INVP_SH h
  obtain ⟨v1, v2, s1, s2, e1, e2, i2⟩ := CQ_agreed (sc := sc) (d := d) (x1 := a1) (x2 := a2) (x3 := a3) (x4 := a4) (x5 := a5) SIM1_gd.1 h
  refine ⟨s2, i2, ?_⟩
  simp only [uL_law_827, qL_law_827, jL_law_827_1621, jL_law_890_1621, g1, g2, g3, g4, g5, bd2, c0_v hK, c64_v hK, cond_true, e1, e2, xci_eq]
theorem LS_power (h : INVP SIM1 K s) (g1 : ∀ w, xdi sc w (x + 1) (.inr (.inr (.inr 2))) = some a1) (g2 : ∀ w, xdi sc w (x + 2) (.inr (.inr (.inr 2))) = some a2) (g3 : ∀ w, xdi sc w (x + 3) (.inr (.inr (.inr 2))) = some a3) : ∃ s2, INVP SIM1 K s2 ∧ fW sc 8 4 false 4 (xN sc (d + 11)) b kL_law_890 890 [some (.inr (.inr (.inr 2))), some (.inr (.inr (.inl (some 0)))), some (.inr (.inr (.inl (some 64)))), some (.inl x)] [] (wl K s) = fW sc 8 4 false 4 (xN sc (d + 11)) b kL_law_1621 1621 [some (.inr (.inr (.inr 2))), some (.inr (.inr (.inl (some 0)))), some (.inr (.inr (.inl (some 64)))), some (.inl x)] [] (wl K s2) := by
  have hK := INVP_SH h
  by_cases z : a3 = 0
  · skip
    obtain ⟨v1, v2, s1, s2, e1, e2, i2⟩ := CQ_power (sc := sc) (d := d) (x1 := a1) (x2 := a2) (x3 := 0) SIM1_gd.1 h
    refine ⟨s2, i2, ?_⟩
    simp only [uL_law_890, uL_law_909, uL_law_913, uL_law_914, uL_law_937, uL_law_941, uL_law_942, qL_law_890, qL_law_909, qL_law_913, qL_law_914, qL_law_937, qL_law_941, qL_law_942, jL_law_890_1621, jL_law_909_913, jL_law_913_914, jL_law_937_941, jL_law_941_942, jL_law_949_1621, g1, g2, g3, bd2, c0_v hK, c64_v hK, cond_true, e1, e2, xci_eq, if_pos z]
  · skip
    obtain ⟨v1, v2, s1, s2, e1, e2, i2⟩ := CQ_power (sc := sc) (d := d) (x1 := a1) (x2 := a2) (x3 := 1) SIM1_gd.1 h
    refine ⟨s2, i2, ?_⟩
    simp only [uL_law_890, uL_law_909, uL_law_913, uL_law_914, uL_law_937, uL_law_941, uL_law_942, qL_law_890, qL_law_909, qL_law_913, qL_law_914, qL_law_937, qL_law_941, qL_law_942, jL_law_890_1621, jL_law_909_913, jL_law_913_914, jL_law_937_941, jL_law_941_942, jL_law_949_1621, g1, g2, g3, bd2, c0_v hK, c64_v hK, cond_true, e1, e2, xci_eq, if_neg z]
theorem LS_coalition (h : INVP SIM1 K s) (g1 : ∀ w, xdi sc w (x + 1) (.inr (.inr (.inr 2))) = some a1) (g2 : ∀ w, xdi sc w (x + 2) (.inr (.inr (.inr 2))) = some a2) : ∃ s2, INVP SIM1 K s2 ∧ fW sc 8 4 false 4 (xN sc (d + 11)) b kL_law_949 949 [some (.inr (.inr (.inr 2))), some (.inr (.inr (.inl (some 0)))), some (.inr (.inr (.inl (some 64)))), some (.inl x)] [] (wl K s) = fW sc 8 4 false 4 (xN sc (d + 11)) b kL_law_1621 1621 [some (.inr (.inr (.inr 2))), some (.inr (.inr (.inl (some 0)))), some (.inr (.inr (.inl (some 64)))), some (.inl x)] [] (wl K s2) := by
  have hK := INVP_SH h
  obtain ⟨v1, v2, s1, s2, e1, e2, i2⟩ := CQ_coalition (sc := sc) (d := d) (x1 := a1) (x2 := a2) SIM1_gd.1 h
  refine ⟨s2, i2, ?_⟩
  simp only [uL_law_949, qL_law_949, jL_law_949_1621, jL_law_982_1621, g1, g2, bd2, c0_v hK, c64_v hK, cond_true, e1, e2, xci_eq]
theorem LS_bribe (h : INVP SIM1 K s) (g1 : ∀ w, xdi sc w (x + 1) (.inr (.inr (.inr 2))) = some a1) (g2 : ∀ w, xdi sc w (x + 2) (.inr (.inr (.inr 2))) = some a2) (g3 : ∀ w, xdi sc w (x + 3) (.inr (.inr (.inr 2))) = some a3) (g4 : ∀ w, xdi sc w (x + 4) (.inr (.inr (.inr 2))) = some a4) (g5 : ∀ w, xdi sc w (x + 5) (.inr (.inr (.inr 2))) = some a5) (g6 : ∀ w, xdi sc w (x + 6) (.inr (.inr (.inr 2))) = some a6) (g7 : ∀ w, xdi sc w (x + 7) (.inr (.inr (.inr 2))) = some a7) : ∃ s2, INVP SIM1 K s2 ∧ fW sc 8 4 false 4 (xN sc (d + 11)) b kL_law_982 982 [some (.inr (.inr (.inr 2))), some (.inr (.inr (.inl (some 0)))), some (.inr (.inr (.inl (some 64)))), some (.inl x)] [] (wl K s) = fW sc 8 4 false 4 (xN sc (d + 11)) b kL_law_1621 1621 [some (.inr (.inr (.inr 2))), some (.inr (.inr (.inl (some 0)))), some (.inr (.inr (.inl (some 64)))), some (.inl x)] [] (wl K s2) := by
  have hK := INVP_SH h
  by_cases z : a7 = 0
  · skip
    obtain ⟨v1, v2, s1, s2, e1, e2, i2⟩ := CQ_bribe (sc := sc) (d := d) (x1 := a1) (x2 := a2) (x3 := a3) (x4 := a4) (x5 := a5) (x6 := a6) (x7 := 0) SIM1_gd.1 h
    refine ⟨s2, i2, ?_⟩
    simp only [uL_law_982, uL_law_1023, uL_law_1027, uL_law_1028, uL_law_1073, uL_law_1077, uL_law_1078, qL_law_982, qL_law_1023, qL_law_1027, qL_law_1028, qL_law_1073, qL_law_1077, qL_law_1078, jL_law_982_1621, jL_law_1023_1027, jL_law_1027_1028, jL_law_1073_1077, jL_law_1077_1078, jL_law_1085_1621, g1, g2, g3, g4, g5, g6, g7, bd2, c0_v hK, c64_v hK, cond_true, e1, e2, xci_eq, if_pos z]
  · skip
    obtain ⟨v1, v2, s1, s2, e1, e2, i2⟩ := CQ_bribe (sc := sc) (d := d) (x1 := a1) (x2 := a2) (x3 := a3) (x4 := a4) (x5 := a5) (x6 := a6) (x7 := 1) SIM1_gd.1 h
    refine ⟨s2, i2, ?_⟩
    simp only [uL_law_982, uL_law_1023, uL_law_1027, uL_law_1028, uL_law_1073, uL_law_1077, uL_law_1078, qL_law_982, qL_law_1023, qL_law_1027, qL_law_1028, qL_law_1073, qL_law_1077, qL_law_1078, jL_law_982_1621, jL_law_1023_1027, jL_law_1027_1028, jL_law_1073_1077, jL_law_1077_1078, jL_law_1085_1621, g1, g2, g3, g4, g5, g6, g7, bd2, c0_v hK, c64_v hK, cond_true, e1, e2, xci_eq, if_neg z]
theorem LS_lobby (h : INVP SIM1 K s) (g1 : ∀ w, xdi sc w (x + 1) (.inr (.inr (.inr 2))) = some a1) (g2 : ∀ w, xdi sc w (x + 2) (.inr (.inr (.inr 2))) = some a2) (g3 : ∀ w, xdi sc w (x + 3) (.inr (.inr (.inr 2))) = some a3) (g4 : ∀ w, xdi sc w (x + 4) (.inr (.inr (.inr 2))) = some a4) (g5 : ∀ w, xdi sc w (x + 5) (.inr (.inr (.inr 2))) = some a5) (g6 : ∀ w, xdi sc w (x + 6) (.inr (.inr (.inr 2))) = some a6) (g7 : ∀ w, xdi sc w (x + 7) (.inr (.inr (.inr 2))) = some a7) : ∃ s2, INVP SIM1 K s2 ∧ fW sc 8 4 false 4 (xN sc (d + 11)) b kL_law_1085 1085 [some (.inr (.inr (.inr 2))), some (.inr (.inr (.inl (some 0)))), some (.inr (.inr (.inl (some 64)))), some (.inl x)] [] (wl K s) = fW sc 8 4 false 4 (xN sc (d + 11)) b kL_law_1621 1621 [some (.inr (.inr (.inr 2))), some (.inr (.inr (.inl (some 0)))), some (.inr (.inr (.inl (some 64)))), some (.inl x)] [] (wl K s2) := by
  have hK := INVP_SH h
  obtain ⟨v1, v2, s1, s2, e1, e2, i2⟩ := CQ_lobby (sc := sc) (d := d) (x1 := a1) (x2 := a2) (x3 := a3) (x4 := a4) (x5 := a5) (x6 := a6) (x7 := a7) SIM1_gd.1 h
  refine ⟨s2, i2, ?_⟩
  simp only [uL_law_1085, qL_law_1085, jL_law_1085_1621, jL_law_1172_1621, g1, g2, g3, g4, g5, g6, g7, bd2, c0_v hK, c64_v hK, cond_true, e1, e2, xci_eq]
theorem LS_bargain (h : INVP SIM1 K s) (g1 : ∀ w, xdi sc w (x + 1) (.inr (.inr (.inr 2))) = some a1) (g2 : ∀ w, xdi sc w (x + 2) (.inr (.inr (.inr 2))) = some a2) (g3 : ∀ w, xdi sc w (x + 3) (.inr (.inr (.inr 2))) = some a3) : ∃ s2, INVP SIM1 K s2 ∧ fW sc 8 4 false 4 (xN sc (d + 11)) b kL_law_1172 1172 [some (.inr (.inr (.inr 2))), some (.inr (.inr (.inl (some 0)))), some (.inr (.inr (.inl (some 64)))), some (.inl x)] [] (wl K s) = fW sc 8 4 false 4 (xN sc (d + 11)) b kL_law_1621 1621 [some (.inr (.inr (.inr 2))), some (.inr (.inr (.inl (some 0)))), some (.inr (.inr (.inl (some 64)))), some (.inl x)] [] (wl K s2) := by
  have hK := INVP_SH h
  obtain ⟨v1, v2, s1, s2, e1, e2, i2⟩ := CQ_bargain (sc := sc) (d := d) (x1 := a1) (x2 := a2) (x3 := a3) SIM1_gd.1 h
  refine ⟨s2, i2, ?_⟩
  simp only [uL_law_1172, qL_law_1172, jL_law_1172_1621, jL_law_1215_1621, g1, g2, g3, bd2, c0_v hK, c64_v hK, cond_true, e1, e2, xci_eq]
theorem LS_was (h : INVP SIM1 K s) (g1 : ∀ w, xdi sc w (x + 1) (.inr (.inr (.inr 2))) = some a1) (g2 : ∀ w, xdi sc w (x + 2) (.inr (.inr (.inr 2))) = some a2) (g3 : ∀ w, xdi sc w (x + 3) (.inr (.inr (.inr 2))) = some a3) : ∃ s2, INVP SIM1 K s2 ∧ fW sc 8 4 false 4 (xN sc (d + 11)) b kL_law_1215 1215 [some (.inr (.inr (.inr 2))), some (.inr (.inr (.inl (some 0)))), some (.inr (.inr (.inl (some 64)))), some (.inl x)] [] (wl K s) = fW sc 8 4 false 4 (xN sc (d + 11)) b kL_law_1621 1621 [some (.inr (.inr (.inr 2))), some (.inr (.inr (.inl (some 0)))), some (.inr (.inr (.inl (some 64)))), some (.inl x)] [] (wl K s2) := by
  have hK := INVP_SH h
  obtain ⟨v1, v2, s1, s2, e1, e2, i2⟩ := CQ_was (sc := sc) (d := d) (x1 := a1) (x2 := a2) (x3 := a3) SIM1_gd.1 h
  refine ⟨s2, i2, ?_⟩
  simp only [uL_law_1215, qL_law_1215, jL_law_1215_1621, jL_law_1258_1621, g1, g2, g3, bd2, c0_v hK, c64_v hK, cond_true, e1, e2, xci_eq]
theorem LS_nature (h : INVP SIM1 K s) (g1 : ∀ w, xdi sc w (x + 1) (.inr (.inr (.inr 2))) = some a1) (g2 : ∀ w, xdi sc w (x + 2) (.inr (.inr (.inr 2))) = some a2) (g3 : ∀ w, xdi sc w (x + 3) (.inr (.inr (.inr 2))) = some a3) : ∃ s2, INVP SIM1 K s2 ∧ fW sc 8 4 false 4 (xN sc (d + 11)) b kL_law_1258 1258 [some (.inr (.inr (.inr 2))), some (.inr (.inr (.inl (some 0)))), some (.inr (.inr (.inl (some 64)))), some (.inl x)] [] (wl K s) = fW sc 8 4 false 4 (xN sc (d + 11)) b kL_law_1621 1621 [some (.inr (.inr (.inr 2))), some (.inr (.inr (.inl (some 0)))), some (.inr (.inr (.inl (some 64)))), some (.inl x)] [] (wl K s2) := by
  have hK := INVP_SH h
  obtain ⟨v1, v2, s1, s2, e1, e2, i2⟩ := CQ_nature (sc := sc) (d := d) (x1 := a1) (x2 := a2) (x3 := a3) SIM1_gd.1 h
  refine ⟨s2, i2, ?_⟩
  simp only [uL_law_1258, qL_law_1258, jL_law_1258_1621, jL_law_1301_1621, g1, g2, g3, bd2, c0_v hK, c64_v hK, cond_true, e1, e2, xci_eq]
theorem LS_seats (h : INVP SIM1 K s) (g1 : ∀ w, xdi sc w (x + 1) (.inr (.inr (.inr 2))) = some a1) (g2 : ∀ w, xdi sc w (x + 2) (.inr (.inr (.inr 2))) = some a2) (g3 : ∀ w, xdi sc w (x + 3) (.inr (.inr (.inr 2))) = some a3) : ∃ s2, INVP SIM1 K s2 ∧ fW sc 8 4 false 4 (xN sc (d + 11)) b kL_law_1301 1301 [some (.inr (.inr (.inr 2))), some (.inr (.inr (.inl (some 0)))), some (.inr (.inr (.inl (some 64)))), some (.inl x)] [] (wl K s) = fW sc 8 4 false 4 (xN sc (d + 11)) b kL_law_1621 1621 [some (.inr (.inr (.inr 2))), some (.inr (.inr (.inl (some 0)))), some (.inr (.inr (.inl (some 64)))), some (.inl x)] [] (wl K s2) := by
  have hK := INVP_SH h
  obtain ⟨v1, v2, s1, s2, e1, e2, i2⟩ := CQ_seats (sc := sc) (d := d) (x1 := a1) (x2 := a2) (x3 := a3) SIM1_gd.1 h
  refine ⟨s2, i2, ?_⟩
  simp only [uL_law_1301, qL_law_1301, jL_law_1301_1621, jL_law_1344_1621, g1, g2, g3, bd2, c0_v hK, c64_v hK, cond_true, e1, e2, xci_eq]
theorem LS_reshuffle (h : INVP SIM1 K s) (g1 : ∀ w, xdi sc w (x + 1) (.inr (.inr (.inr 2))) = some a1) (g2 : ∀ w, xdi sc w (x + 2) (.inr (.inr (.inr 2))) = some a2) : ∃ s2, INVP SIM1 K s2 ∧ fW sc 8 4 false 4 (xN sc (d + 11)) b kL_law_1344 1344 [some (.inr (.inr (.inr 2))), some (.inr (.inr (.inl (some 0)))), some (.inr (.inr (.inl (some 64)))), some (.inl x)] [] (wl K s) = fW sc 8 4 false 4 (xN sc (d + 11)) b kL_law_1621 1621 [some (.inr (.inr (.inr 2))), some (.inr (.inr (.inl (some 0)))), some (.inr (.inr (.inl (some 64)))), some (.inl x)] [] (wl K s2) := by
  have hK := INVP_SH h
  by_cases z : a2 = 0
  · skip
    obtain ⟨v1, v2, s1, s2, e1, e2, i2⟩ := CQ_reshuffle (sc := sc) (d := d) (x1 := a1) (x2 := 0) SIM1_gd.1 h
    refine ⟨s2, i2, ?_⟩
    simp only [uL_law_1344, uL_law_1358, uL_law_1362, uL_law_1363, uL_law_1381, uL_law_1385, uL_law_1386, qL_law_1344, qL_law_1358, qL_law_1362, qL_law_1363, qL_law_1381, qL_law_1385, qL_law_1386, jL_law_1344_1621, jL_law_1358_1362, jL_law_1362_1363, jL_law_1381_1385, jL_law_1385_1386, jL_law_1393_1621, g1, g2, bd2, c0_v hK, c64_v hK, cond_true, e1, e2, xci_eq, if_pos z]
  · skip
    obtain ⟨v1, v2, s1, s2, e1, e2, i2⟩ := CQ_reshuffle (sc := sc) (d := d) (x1 := a1) (x2 := 1) SIM1_gd.1 h
    refine ⟨s2, i2, ?_⟩
    simp only [uL_law_1344, uL_law_1358, uL_law_1362, uL_law_1363, uL_law_1381, uL_law_1385, uL_law_1386, qL_law_1344, qL_law_1358, qL_law_1362, qL_law_1363, qL_law_1381, qL_law_1385, qL_law_1386, jL_law_1344_1621, jL_law_1358_1362, jL_law_1362_1363, jL_law_1381_1385, jL_law_1385_1386, jL_law_1393_1621, g1, g2, bd2, c0_v hK, c64_v hK, cond_true, e1, e2, xci_eq, if_neg z]
theorem LS_leak (h : INVP SIM1 K s) (g1 : ∀ w, xdi sc w (x + 1) (.inr (.inr (.inr 2))) = some a1) (g2 : ∀ w, xdi sc w (x + 2) (.inr (.inr (.inr 2))) = some a2) (g3 : ∀ w, xdi sc w (x + 3) (.inr (.inr (.inr 2))) = some a3) : ∃ s2, INVP SIM1 K s2 ∧ fW sc 8 4 false 4 (xN sc (d + 11)) b kL_law_1393 1393 [some (.inr (.inr (.inr 2))), some (.inr (.inr (.inl (some 0)))), some (.inr (.inr (.inl (some 64)))), some (.inl x)] [] (wl K s) = fW sc 8 4 false 4 (xN sc (d + 11)) b kL_law_1621 1621 [some (.inr (.inr (.inr 2))), some (.inr (.inr (.inl (some 0)))), some (.inr (.inr (.inl (some 64)))), some (.inl x)] [] (wl K s2) := by
  have hK := INVP_SH h
  obtain ⟨v1, v2, s1, s2, e1, e2, i2⟩ := CQ_leak (sc := sc) (d := d) (x1 := a1) (x2 := a2) (x3 := a3) SIM1_gd.1 h
  refine ⟨s2, i2, ?_⟩
  simp only [uL_law_1393, qL_law_1393, jL_law_1393_1621, jL_law_1436_1621, g1, g2, g3, bd2, c0_v hK, c64_v hK, cond_true, e1, e2, xci_eq]
theorem LS_fits (h : INVP SIM1 K s) (g1 : ∀ w, xdi sc w (x + 1) (.inr (.inr (.inr 2))) = some a1) (g2 : ∀ w, xdi sc w (x + 2) (.inr (.inr (.inr 2))) = some a2) (g3 : ∀ w, xdi sc w (x + 3) (.inr (.inr (.inr 2))) = some a3) (g4 : ∀ w, xdi sc w (x + 4) (.inr (.inr (.inr 2))) = some a4) (g5 : ∀ w, xdi sc w (x + 5) (.inr (.inr (.inr 2))) = some a5) : ∃ s2, INVP SIM1 K s2 ∧ fW sc 8 4 false 4 (xN sc (d + 11)) b kL_law_1436 1436 [some (.inr (.inr (.inr 2))), some (.inr (.inr (.inl (some 0)))), some (.inr (.inr (.inl (some 64)))), some (.inl x)] [] (wl K s) = fW sc 8 4 false 4 (xN sc (d + 11)) b kL_law_1621 1621 [some (.inr (.inr (.inr 2))), some (.inr (.inr (.inl (some 0)))), some (.inr (.inr (.inl (some 64)))), some (.inl x)] [] (wl K s2) := by
  have hK := INVP_SH h
  obtain ⟨v, s1, s2, e1, e2, i2⟩ := CE_fits (sc := sc) (d := d) (x1 := a1) (x2 := a2) (x3 := a3) (x4 := a4) (x5 := a5) SIM1_gd.1 h
  refine ⟨s2, i2, ?_⟩
  simp only [uL_law_1436, uL_law_1497, qL_law_1436, qL_law_1497, jL_law_1436_1621, jL_law_1497_1621, g1, g2, g3, g4, g5, bd2, c0_v hK, c64_v hK, cond_true, e1, e2, xci_eq, if_true]
theorem LS_drawn (h : INVP SIM1 K s) (g1 : ∀ w, xdi sc w (x + 1) (.inr (.inr (.inr 2))) = some a1) (g2 : ∀ w, xdi sc w (x + 2) (.inr (.inr (.inr 2))) = some a2) (g3 : ∀ w, xdi sc w (x + 3) (.inr (.inr (.inr 2))) = some a3) (g4 : ∀ w, xdi sc w (x + 4) (.inr (.inr (.inr 2))) = some a4) : ∃ s2, INVP SIM1 K s2 ∧ fW sc 8 4 false 4 (xN sc (d + 11)) b kL_law_1499 1499 [some (.inr (.inr (.inr 2))), some (.inr (.inr (.inl (some 0)))), some (.inr (.inr (.inl (some 64)))), some (.inl x)] [] (wl K s) = fW sc 8 4 false 4 (xN sc (d + 11)) b kL_law_1621 1621 [some (.inr (.inr (.inr 2))), some (.inr (.inr (.inl (some 0)))), some (.inr (.inr (.inl (some 64)))), some (.inl x)] [] (wl K s2) := by
  have hK := INVP_SH h
  obtain ⟨v1, v2, s1, s2, e1, e2, i2⟩ := CQ_drawn (sc := sc) (d := d) (x1 := a1) (x2 := a2) (x3 := a3) (x4 := a4) SIM1_gd.1 h
  refine ⟨s2, i2, ?_⟩
  simp only [uL_law_1499, qL_law_1499, jL_law_1552_1621, g1, g2, g3, g4, bd2, c0_v hK, c64_v hK, cond_true, e1, e2, xci_eq]
theorem LS_count (h : INVP SIM1 K s) (g1 : ∀ w, xdi sc w (x + 1) (.inr (.inr (.inr 2))) = some a1) : ∃ s2, INVP SIM1 K s2 ∧ fW sc 8 4 false 4 (xN sc (d + 11)) b kL_law_1552 1552 [some (.inr (.inr (.inr 2))), some (.inr (.inr (.inl (some 0)))), some (.inr (.inr (.inl (some 64)))), some (.inl x)] [] (wl K s) = fW sc 8 4 false 4 (xN sc (d + 11)) b kL_law_1621 1621 [some (.inr (.inr (.inr 2))), some (.inr (.inr (.inl (some 0)))), some (.inr (.inr (.inl (some 64)))), some (.inl x)] [] (wl K s2) := by
  have hK := INVP_SH h
  obtain ⟨v1, v2, e1, e2, i2⟩ := CQ_count (sc := sc) (d := d) (x1 := a1) SIM1_gd.1 h
  refine ⟨s, i2, ?_⟩
  simp only [uL_law_1552, qL_law_1552, jL_law_1552_1621, jL_law_1575_1621, g1, bd2, c0_v hK, c64_v hK, cond_true, e1, e2, xci_eq]
theorem LS_image (h : INVP SIM1 K s) (g1 : ∀ w, xdi sc w (x + 1) (.inr (.inr (.inr 2))) = some a1) : ∃ K2 s2, INVP SIM1 K2 s2 ∧ fW sc 8 4 false 4 (xN sc (d + 11)) b kL_law_1575 1575 [some (.inr (.inr (.inr 2))), some (.inr (.inr (.inl (some 0)))), some (.inr (.inr (.inl (some 64)))), some (.inl x)] [] (wl K s) = fW sc 8 4 false 4 (xN sc (d + 11)) b kL_law_1621 1621 [some (.inr (.inr (.inr 2))), some (.inr (.inr (.inl (some 0)))), some (.inr (.inr (.inl (some 64)))), some (.inl x)] [] (wl K2 s2) := by
  have hK := INVP_SH h
  obtain ⟨v, K2, s1, s2, e1, hK2, e2, i2⟩ := CE_image (sc := sc) (d := d) (x1 := a1) SIM1_gd.1 h
  refine ⟨K2, s2, i2, ?_⟩
  simp only [uL_law_1575, qL_law_1575, jL_law_1575_1621, jL_law_1598_1621, g1, bd2, c0_v hK, c64_v hK2, cond_true, e1, e2, xci_eq]
theorem LS_again (h : INVP SIM1 K s) (g1 : ∀ w, xdi sc w (x + 1) (.inr (.inr (.inr 2))) = some a1) : ∃ s2, INVP SIM1 K s2 ∧ fW sc 8 4 false 4 (xN sc (d + 11)) b kL_law_1598 1598 [some (.inr (.inr (.inr 2))), some (.inr (.inr (.inl (some 0)))), some (.inr (.inr (.inl (some 64)))), some (.inl x)] [] (wl K s) = fW sc 8 4 false 4 (xN sc (d + 11)) b kL_law_1621 1621 [some (.inr (.inr (.inr 2))), some (.inr (.inr (.inl (some 0)))), some (.inr (.inr (.inl (some 64)))), some (.inl x)] [] (wl K s2) := by
  have hK := INVP_SH h
  obtain ⟨v, s1, s2, e1, e2, i2⟩ := CE_again (sc := sc) (d := d) (x1 := a1) SIM1_gd.1 h
  refine ⟨s2, i2, ?_⟩
  simp only [uL_law_1598, qL_law_1598, jL_law_1598_1621, g1, bd2, c0_v hK, c64_v hK, cond_true, e1, e2, xci_eq]
end XRQ
end
