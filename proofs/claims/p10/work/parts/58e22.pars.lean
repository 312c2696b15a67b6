section XTZ
variable {sc : Nat × (Nat → Int32)} {d : Nat} {K : List KD} {r q t a B m : Nat} {w : EW}
/-! queries of a told republic -/
theorem isRep_n {s : SG} {x : Int32} (hz : iofN s 0 x = 0) : RisRepublic s x = some (0, s) := by
  unfold RisRepublic
  rw [q_isOf (x := 0) (a := 0) rfl (by decide)]
  show (if iofN s 0 x = 0 then _ else _) = _
  rw [if_pos hz]
theorem isRep_y {s : SG} {x : Int32} {j : Nat} (rr : RI s) (hj : j < 2) (hx : x = nI j) (hz : ¬ iofN s 0 x = 0) : ok (RisRepublic s x) (fun p => p.1 = 1 ∧ p.2 65 = s 65 ∧ p.2 64 11 = nI (610 + 118 * j)) := by
  unfold RisRepublic
  rw [q_isOf (x := 0) (a := 0) rfl (by decide)]
  show ok (if iofN s 0 x = 0 then _ else _) _
  rw [if_neg hz, hx, place0]
  refine ok_b (begins_ok (s := up s 64 11 (nI (610 + 118 * j))) (RI_65 (up_n (by decide)) rr) ⟨j, hj, up_a⟩) (fun u hu => ok_s ⟨rfl, ?_, ?_⟩)
  · show u 65 = _
    rw [hu.1.1, up_n (by decide)]
  · show u 64 11 = _
    rw [hu.2.2.2, up_a]
theorem rof_v {s : SG} {x : Int32} {b i : Nat} (e : s 64 11 = nI b) (hx : x = nI i) (hb : b + i < 5768) : Rof s x = some (s 65 (b + i)) := by
  unfold Rof
  rw [e, hx, nI_add, rd_nI (e := b + i) rfl hb (by decide)]; rfl
theorem between {x : Int32} {lo hi : Nat} (hh : hi ≤ 1000) (h : ¬ inI x (nI lo) (nI hi) = 0) (hl : lo ≤ hi) : ∃ i, x = nI (lo + i) ∧ lo + i ≤ hi := by
  unfold inI at h
  by_cases c1 : x < nI lo
  · rw [if_pos c1] at h; exact absurd rfl h
  · by_cases c2 : nI hi < x
    · rw [if_neg c1, if_pos c2] at h; exact absurd rfl h
    · have q1 := Int32.not_lt.mp c1
      have q2 := Int32.not_lt.mp c2
      rw [Int32.le_iff_toInt_le, nI_toInt (by omega)] at q1 q2
      have x0 : ¬ x < 0 := by
        rw [Int32.lt_iff_toInt_lt]
        have : (0 : Int32).toInt = 0 := by decide
        omega
      have x1 : x < nI (hi + 1) := by
        rw [Int32.lt_iff_toInt_lt, nI_toInt (by omega)]; omega
      obtain ⟨k, hk, ek⟩ := nat_of x0 x1 (by omega)
      rw [ek, nI_toInt (by omega)] at q1 q2
      exact ⟨k - lo, by rw [ek, show lo + (k - lo) = k by omega], by omega⟩
/-- what republic answers of the republic told at o -/
def RPV (s : SG) (o : Nat) (y : Int32) : Int32 := if inI y 0 5 = 0 then (if inI y 10 12 = 0 then -1 else s 65 (o + (y.toNatClampNeg - 4))) else s 65 (o + y.toNatClampNeg)
theorem rep_e {s : SG} {r o : Nat} {y : Int32} (h : REQ (fun e j => s (r + e) j) (fun j => s 65 (o + j))) : repIb s r y = RPV s o y := by
  obtain ⟨n, V, h1, ⟨h2, h3⟩, h4, h5, _⟩ := h
  have h2 : s r 0 = nI n := h2
  have h3 : s 65 (o + 0) = nI n := h3
  have h4 : ∀ i, i < 5 → s r (9 + i) = s 65 (o + (1 + i)) := fun i hi => (h4 i hi).1
  have h5 : ∀ k, k < 3 → s (r + 7) k = s 65 (o + (6 + k)) := fun k hk => (h5 k hk).1
  unfold repIb repIbW RPV
  by_cases c1 : inI y 0 5 = 0
  · rw [if_pos c1]
    have n0 : ¬ y = 0 := fun e => by rw [e] at c1; exact absurd c1 (by decide)
    have n1 : ¬ y = 1 := fun e => by rw [e] at c1; exact absurd c1 (by decide)
    have n2 : ¬ y = 2 := fun e => by rw [e] at c1; exact absurd c1 (by decide)
    have n3 : ¬ y = 3 := fun e => by rw [e] at c1; exact absurd c1 (by decide)
    have n4 : ¬ y = 4 := fun e => by rw [e] at c1; exact absurd c1 (by decide)
    have n5 : ¬ y = 5 := fun e => by rw [e] at c1; exact absurd c1 (by decide)
    by_cases c2 : inI y 10 12 = 0
    · rw [if_pos c2]
      have n10 : ¬ y = 10 := fun e => by rw [e] at c2; exact absurd c2 (by decide)
      have n11 : ¬ y = 11 := fun e => by rw [e] at c2; exact absurd c2 (by decide)
      have n12 : ¬ y = 12 := fun e => by rw [e] at c2; exact absurd c2 (by decide)
      rw [if_neg n0, if_neg n1, if_neg n2, if_neg n3, if_neg n4, if_neg n5, if_neg n10, if_neg n11, if_neg n12]
      repeat' split
      all_goals rfl
    · rw [if_neg c2]
      obtain ⟨i, ei, hi⟩ := between (lo := 10) (hi := 12) (by omega) c2 (by omega)
      rcases (by omega : i = 0 ∨ i = 1 ∨ i = 2) with rfl | rfl | rfl
      · subst ei
        rw [nI_clamp (by omega)]
        simp (decide := true) only [if_true, if_false]
        rw [show nI (10 + 0) - 10 = nI 0 from nI_subn (a := 10 + 0) (b := 10) (by omega), cl_nI (by omega) (by decide)]
        exact h5 0 (by omega)
      · subst ei
        rw [nI_clamp (by omega)]
        simp (decide := true) only [if_true, if_false]
        rw [show nI (10 + 1) - 10 = nI 1 from nI_subn (a := 10 + 1) (b := 10) (by omega), cl_nI (by omega) (by decide)]
        exact h5 1 (by omega)
      · subst ei
        rw [nI_clamp (by omega)]
        simp (decide := true) only [if_true, if_false]
        rw [show nI (10 + 2) - 10 = nI 2 from nI_subn (a := 10 + 2) (b := 10) (by omega), cl_nI (by omega) (by decide)]
        exact h5 2 (by omega)
  · rw [if_neg c1]
    obtain ⟨a, ea, ha⟩ := inI_nI (b := 5) (by decide) c1
    rcases (by omega : a = 0 ∨ a = 1 ∨ a = 2 ∨ a = 3 ∨ a = 4 ∨ a = 5) with rfl | rfl | rfl | rfl | rfl | rfl
    · subst ea
      rw [nI_clamp (by omega)]
      simp (decide := true) only [if_true, if_false]
      exact h2.trans h3.symm
    · subst ea
      rw [nI_clamp (by omega)]
      simp (decide := true) only [if_true, if_false]
      exact h4 0 (by omega)
    · subst ea
      rw [nI_clamp (by omega)]
      simp (decide := true) only [if_true, if_false]
      exact h4 1 (by omega)
    · subst ea
      rw [nI_clamp (by omega)]
      simp (decide := true) only [if_true, if_false]
      exact h4 2 (by omega)
    · subst ea
      rw [nI_clamp (by omega)]
      simp (decide := true) only [if_true, if_false]
      exact h4 3 (by omega)
    · subst ea
      rw [nI_clamp (by omega)]
      simp (decide := true) only [if_true, if_false]
      exact h4 4 (by omega)
theorem republic_p {s : SG} {j : Nat} {x y : Int32} {p : Int32 × SG} (rr : RI s) (hj : j < 2) (hx : x = nI j) (hz : ¬ iofN s 0 x = 0) (e : Rrepublic s x y = some p) : p.1 = RPV s (610 + 118 * j) y := by
  obtain ⟨u, eu, u1, u65, u11⟩ := isRep_y rr hj hx hz
  unfold Rrepublic at e
  rw [eu] at e
  replace e : (if u.1 = 0 then some (-1, u.2) else if (inI y (0) (5)) = 0 then (if (inI y (10) (12)) = 0 then some (-1, u.2) else (Rof u.2 ((6 + y) - 10)).bind fun q2 => some (q2, u.2)) else (Rof u.2 y).bind fun q3 => some (q3, u.2)) = some p := e
  rw [if_neg (show ¬ u.1 = 0 by rw [u1]; decide)] at e
  unfold RPV
  by_cases c1 : inI y 0 5 = 0
  · rw [if_pos c1] at e ⊢
    by_cases c2 : inI y 10 12 = 0
    · rw [if_pos c2] at e ⊢; cases e; rfl
    · rw [if_neg c2] at e ⊢
      obtain ⟨i, ei, hi⟩ := between (lo := 10) (hi := 12) (by omega) c2 (by omega)
      have ix : (6 : Int32) + y - 10 = nI (6 + i) := by
        rw [ei]
        show nI 6 + nI (10 + i) - nI 10 = _
        rw [nI_add, nI_subn (by omega)]; congr 1; omega
      rw [rof_v u11 ix (by omega), u65] at e
      cases e
      show s 65 (610 + 118 * j + (6 + i)) = _
      rw [ei, nI_clamp (by omega)]; congr 1; omega
  · rw [if_neg c1] at e ⊢
    obtain ⟨a, ea, ha⟩ := inI_nI (b := 5) (by decide) c1
    rw [rof_v u11 ea (by omega), u65] at e
    cases e
    show s 65 (610 + 118 * j + a) = _
    rw [ea, nI_clamp (by omega)]
/-- a republic that is told -/
theorem rep_q {s : SG} {j n : Nat} (hn : SIMn s) (hj : j < 2) (en : s 65 0 = nI n) (hn2 : n ≤ 2) (hjn : j < n) : REQ (fun e i => s (6 + 8 * j + e) i) (fun i => s 65 (610 + 118 * j + i)) := by
  have w : REQ (fun e i => s (1 + (CPK 0 j + e)) i) (fun i => s 65 (610 + 118 * j + i)) := hn.2.2.2 0 j n (by omega) hj en hn2 hjn
  have g : ∀ e, 1 + (CPK 0 j + e) = 6 + 8 * j + e := fun e => by
    show 1 + (5 + 8 * j + e) = _
    omega
  simp only [g] at w
  exact w
theorem rp_j {j : Nat} (h : SH K) (hj : j < 2) : RP K (6 + 8 * j) := by
  rcases (by omega : j = 0 ∨ j = 1) with rfl | rfl
  · exact RP6 h
  · exact RP14 h
theorem CE_republic {K : List KD} {s : SG} {x1 x2 : Int32} (hP : wLoc SIM1) (h : INVP SIM1 K s) : ∃ v s1 s2, xN sc (d + 11) 84 [.inr (.inr (.inl (some 0))), .inl x1, .inl x2] (wl K s) = some (some (.inl v), wl K s1) ∧ xN sc (d + 11) 193 [.inr (.inr (.inl (some 64))), .inl x1, .inl x2] (wl K s1) = some (some (.inl v), wl K s2) ∧ INVP SIM1 K s2 := by
  have hK := INVP_SH h
  have hn := SIM_n.1 (INVP_P h)
  have rr := INVP_RI h
  have q2 := r_republic (sc := sc) (d := d + 6) (s := s) (x1 := x1) (x2 := x2) hK
  obtain ⟨p, e2, qi⟩ : ok (Rrepublic s x1 x2) (fun p => QI s p.2) := republic_ok rr
  rw [e2] at q2
  obtain ⟨n, en, hn2⟩ := rr.1.1 0 (by omega)
  have I := INVP_q hP h (s1 := s) (fun _ _ => rfl) qi
  rcases rep_sel (x := x1) hn en hn2 with ⟨z, e⟩ | ⟨j, hj, hjn, ex, z, e⟩
  · have e3 : Rrepublic s x1 x2 = some (-1, s) := by
      unfold Rrepublic
      rw [isRep_n z]; rfl
    rw [e3] at e2; cases e2
    exact ⟨-1, s, s, c_repI_a (sc := sc) (d := d + 8) (s := s) (x := x1) (y := x2) hK e, q2, h⟩
  · have ep := republic_p rr hj ex z e2
    have re := rep_e (y := x2) (rep_q hn hj en hn2 hjn)
    have cc := c_repI_b (sc := sc) (d := d + 8) (s := s) (x := x1) (y := x2) (rp_j hK hj) hK e
    exact ⟨p.1, s, p.2, by rw [cc, ep, ← re], q2, I⟩
/-- what minister answers of the republic of n ministers told at o -/
def MNV (s : SG) (o n : Nat) (y z : Int32) : Int32 := if inI y 0 (nI n - 1) = 0 then -1 else if inI z 0 5 = 0 then (if inI z 10 21 = 0 then -1 else s 65 (o + (10 + 18 * y.toNatClampNeg + (z.toNatClampNeg - 4)))) else s 65 (o + (10 + 18 * y.toNatClampNeg + z.toNatClampNeg))
theorem has_e : ∀ V, V < 64 → ∀ m, m < 6 → hasI (nI V) (nI m) = if V.testBit m then 1 else 0 := by decide +kernel
theorem mni_e {s : SG} {r o : Nat} {y z : Int32} (h : REQ (fun e j => s (r + e) j) (fun j => s 65 (o + j))) : ∃ n, n ≤ 6 ∧ s 65 (o + 0) = nI n ∧ mniIb s r y z = MNV s o n y z := by
  obtain ⟨n, V, h1, ⟨h2, h3⟩, _, _, ⟨h6, _⟩, ⟨h8, h9⟩, h10, h11⟩ := h
  have h2 : s r 0 = nI n := h2
  have h6 : ∀ m c, m < n → c < 4 → s (r + (1 + c)) m = s 65 (o + (10 + 18 * m + c)) := h6
  have h8 : s r 8 = nI V := h8
  have h9 : ∀ m, m < 6 → s 65 (o + (14 + 18 * m)) = if V.testBit m then 1 else 0 := h9
  have h10 : ∀ m, m < 6 → s (r + 6) m = s 65 (o + (15 + 18 * m)) := fun m hm => (h10 m hm).1
  have h11 : ∀ m i, m < 6 → i < 12 → s (r + 5) (12 * m + i) = s 65 (o + (16 + 18 * m + i)) := fun m i hm hi => (h11 m i hm hi).1
  refine ⟨n, h1.1, h3, ?_⟩
  unfold mniIb MNV
  by_cases c0 : inI y 0 (nI n - 1) = 0
  · have : minI s r y = 0 := by
      unfold minI
      rw [h2]
      rcases (iz_m (by omega)).1 c0 with g | g
      · rw [if_pos g]
      · rw [if_pos g]; split <;> rfl
    rw [if_pos this, if_pos c0]
  · have : ¬ minI s r y = 0 := by
      unfold minI
      rw [h2, if_neg (fun g => c0 ((iz_m (by omega)).2 (Or.inl g))), if_neg (fun g => c0 ((iz_m (by omega)).2 (Or.inr g)))]; decide
    rw [if_neg this, if_neg c0]
    obtain ⟨m, em, hm⟩ := inI_sub (by omega) c0
    have hm6 : m < 6 := by omega
    rw [em, nI_clamp (by omega)]
    unfold mniIbW
    by_cases c1 : inI z 0 5 = 0
    · rw [if_pos c1]
      have n0 : ¬ z = 0 := fun e => by rw [e] at c1; exact absurd c1 (by decide)
      have n1 : ¬ z = 1 := fun e => by rw [e] at c1; exact absurd c1 (by decide)
      have n2 : ¬ z = 2 := fun e => by rw [e] at c1; exact absurd c1 (by decide)
      have n3 : ¬ z = 3 := fun e => by rw [e] at c1; exact absurd c1 (by decide)
      have n4 : ¬ z = 4 := fun e => by rw [e] at c1; exact absurd c1 (by decide)
      have n5 : ¬ z = 5 := fun e => by rw [e] at c1; exact absurd c1 (by decide)
      rw [if_neg n0, if_neg n1, if_neg n2, if_neg n3, if_neg n4, if_neg n5]
      by_cases c2 : inI z 10 21 = 0
      · rw [if_pos c2]
        unfold inI at c2
        by_cases g1 : z < 10
        · rw [if_pos g1]
        · rw [if_neg g1] at c2 ⊢
          by_cases g2 : 21 < z
          · rw [if_pos (show 22 ≤ z from ?_)]
            rw [Int32.lt_iff_toInt_lt] at g2
            rw [Int32.le_iff_toInt_le]
            have e1 : (21 : Int32).toInt = 21 := by decide
            have e2 : (22 : Int32).toInt = 22 := by decide
            omega
          · rw [if_neg g2] at c2; exact absurd c2 (by decide)
      · rw [if_neg c2]
        obtain ⟨i, ei, hi⟩ := between (lo := 10) (hi := 21) (by omega) c2 (by omega)
        rw [ei, nI_clamp (by omega)]
        have g1 : ¬ nI (10 + i) < 10 := by
          rw [Int32.lt_iff_toInt_lt, nI_toInt (by omega)]
          have : (10 : Int32).toInt = 10 := by decide
          omega
        have g2 : ¬ 22 ≤ nI (10 + i) := by
          rw [Int32.le_iff_toInt_le, nI_toInt (by omega)]
          have : (22 : Int32).toInt = 22 := by decide
          omega
        rw [if_neg g1, if_neg g2]
        unfold wanI
        rw [show nI (10 + i) - 10 = nI i from nI_subl (a := 10) (c := i)]
        have ix : nI m * 4 * 3 + nI i = nI (12 * m + i) := by
          show nI m * nI 4 * nI 3 + nI i = _
          rw [nI_mulx, nI_mulx, nI_add]; congr 1; omega
        rw [ix, cl_nI (by omega) (by decide), h11 m i hm6 (by omega)]
        congr 1; omega
    · rw [if_neg c1]
      obtain ⟨b, eb, hb⟩ := inI_nI (b := 5) (by decide) c1
      rcases (by omega : b = 0 ∨ b = 1 ∨ b = 2 ∨ b = 3 ∨ b = 4 ∨ b = 5) with rfl | rfl | rfl | rfl | rfl | rfl
      · subst eb
        rw [nI_clamp (by omega)]
        simp (decide := true) only [if_true, if_false]
        rw [cl_nI hm6 (by decide)]
        exact h6 m 0 (by omega) (by omega)
      · subst eb
        rw [nI_clamp (by omega)]
        simp (decide := true) only [if_true, if_false]
        rw [cl_nI hm6 (by decide)]
        exact h6 m 1 (by omega) (by omega)
      · subst eb
        rw [nI_clamp (by omega)]
        simp (decide := true) only [if_true, if_false]
        rw [cl_nI hm6 (by decide)]
        exact h6 m 2 (by omega) (by omega)
      · subst eb
        rw [nI_clamp (by omega)]
        simp (decide := true) only [if_true, if_false]
        rw [cl_nI hm6 (by decide)]
        exact h6 m 3 (by omega) (by omega)
      · subst eb
        rw [nI_clamp (by omega)]
        simp (decide := true) only [if_true, if_false]
        rw [h8, has_e V h1.2 m hm6, show o + (10 + 18 * m + 4) = o + (14 + 18 * m) by omega, h9 m hm6]
        cases V.testBit m <;> rfl
      · subst eb
        rw [nI_clamp (by omega)]
        simp (decide := true) only [if_true, if_false]
        rw [cl_nI hm6 (by decide), h10 m hm6]
        congr 1; omega
theorem minister_p {s : SG} {j n : Nat} {x y z : Int32} {p : Int32 × SG} (rr : RI s) (hj : j < 2) (hx : x = nI j) (hz : ¬ iofN s 0 x = 0) (en : s 65 (610 + 118 * j + 0) = nI n) (hn : n ≤ 6) (e : Rminister s x y z = some p) : p.1 = MNV s (610 + 118 * j) n y z := by
  obtain ⟨u, eu, u1, u65, u11⟩ := isRep_y rr hj hx hz
  have mn : RisMinister u.2 y = some (inI y 0 (nI n - 1)) := by
    unfold RisMinister Rministers
    rw [rof_v u11 (show (0 : Int32) = nI 0 from rfl) (by omega), u65, en]; rfl
  unfold Rminister at e
  rw [eu] at e
  replace e : (if u.1 = 0 then some (-1, u.2) else (RisMinister u.2 y).bind fun q2 => if q2 = 0 then some (-1, u.2) else if (inI z (0) (5)) = 0 then (if (inI z (10) (21)) = 0 then some (-1, u.2) else (RofMinister u.2 y ((6 + z) - 10)).bind fun q3 => some (q3, u.2)) else (RofMinister u.2 y z).bind fun q4 => some (q4, u.2)) = some p := e
  rw [if_neg (show ¬ u.1 = 0 by rw [u1]; decide), mn] at e
  replace e : (if inI y 0 (nI n - 1) = 0 then some (-1, u.2) else if (inI z (0) (5)) = 0 then (if (inI z (10) (21)) = 0 then some (-1, u.2) else (RofMinister u.2 y ((6 + z) - 10)).bind fun q3 => some (q3, u.2)) else (RofMinister u.2 y z).bind fun q4 => some (q4, u.2)) = some p := e
  unfold MNV
  by_cases c0 : inI y 0 (nI n - 1) = 0
  · rw [if_pos c0] at e ⊢; cases e; rfl
  · rw [if_neg c0] at e ⊢
    obtain ⟨m, em, hm⟩ := inI_sub (by omega) c0
    have om : ∀ (v : Int32) (b : Nat), v = nI b → b < 18 → RofMinister u.2 y v = some (s 65 (610 + 118 * j + (10 + 18 * m + b))) := by
      intro v b hv hb
      unfold RofMinister
      have ix : (10 + (18 * y)) + v = nI (10 + 18 * m + b) := by
        rw [em, hv]
        show (nI 10 + nI 18 * nI m) + nI b = _
        rw [nI_mulx, nI_add, nI_add]
      rw [rof_v u11 ix (by omega), u65]; rfl
    by_cases c1 : inI z 0 5 = 0
    · rw [if_pos c1] at e ⊢
      by_cases c2 : inI z 10 21 = 0
      · rw [if_pos c2] at e ⊢; cases e; rfl
      · rw [if_neg c2] at e ⊢
        obtain ⟨i, ei, hi⟩ := between (lo := 10) (hi := 21) (by omega) c2 (by omega)
        have ix : (6 : Int32) + z - 10 = nI (6 + i) := by
          rw [ei]
          show nI 6 + nI (10 + i) - nI 10 = _
          rw [nI_add, nI_subn (by omega)]; congr 1; omega
        rw [om _ (6 + i) ix (by omega)] at e
        cases e
        show s 65 (610 + 118 * j + (10 + 18 * m + (6 + i))) = _
        rw [em, ei, nI_clamp (by omega), nI_clamp (by omega)]; congr 1; omega
    · rw [if_neg c1] at e ⊢
      obtain ⟨b, eb, hb⟩ := inI_nI (b := 5) (by decide) c1
      rw [om z b eb (by omega)] at e
      cases e
      show s 65 (610 + 118 * j + (10 + 18 * m + b)) = _
      rw [em, eb, nI_clamp (by omega), nI_clamp (by omega)]
theorem CE_minister {K : List KD} {s : SG} {x1 x2 x3 : Int32} (hP : wLoc SIM1) (h : INVP SIM1 K s) : ∃ v s1 s2, xN sc (d + 11) 85 [.inr (.inr (.inl (some 0))), .inl x1, .inl x2, .inl x3] (wl K s) = some (some (.inl v), wl K s1) ∧ xN sc (d + 11) 194 [.inr (.inr (.inl (some 64))), .inl x1, .inl x2, .inl x3] (wl K s1) = some (some (.inl v), wl K s2) ∧ INVP SIM1 K s2 := by
  have hK := INVP_SH h
  have hn := SIM_n.1 (INVP_P h)
  have rr := INVP_RI h
  have q2 := r_minister (sc := sc) (d := d + 6) (s := s) (x1 := x1) (x2 := x2) (x3 := x3) hK
  obtain ⟨p, e2, qi⟩ : ok (Rminister s x1 x2 x3) (fun p => QI s p.2) := minister_ok rr
  rw [e2] at q2
  obtain ⟨n, en, hn2⟩ := rr.1.1 0 (by omega)
  have I := INVP_q hP h (s1 := s) (fun _ _ => rfl) qi
  rcases rep_sel (x := x1) hn en hn2 with ⟨z, e⟩ | ⟨j, hj, hjn, ex, z, e⟩
  · have e3 : Rminister s x1 x2 x3 = some (-1, s) := by
      unfold Rminister
      rw [isRep_n z]; rfl
    rw [e3] at e2; cases e2
    exact ⟨-1, s, s, c_mniI_a (sc := sc) (d := d + 8) (s := s) (x := x1) (y := x2) (z := x3) hK e, q2, h⟩
  · obtain ⟨n2, g1, g2, re⟩ := mni_e (y := x2) (z := x3) (rep_q hn hj en hn2 hjn)
    have ep := minister_p rr hj ex z g2 g1 e2
    have cc := c_mniI_b (sc := sc) (d := d + 8) (s := s) (x := x1) (y := x2) (z := x3) (rp_j hK hj) hK e
    exact ⟨p.1, s, p.2, by rw [cc, ep, ← re], q2, I⟩
end XTZ
