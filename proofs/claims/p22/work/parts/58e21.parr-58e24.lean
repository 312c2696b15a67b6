section
section XTY
variable {sc : Nat × (Nat → Int32)} {d : Nat} {K : List KD} {r q t a B m : Nat} {w : EW}
/-! queries of what is told -/
theorem iz_m {n : Nat} {x : Int32} (hn : n ≤ 1000) : inI x 0 (nI n - 1) = 0 ↔ (x < 0 ∨ nI n ≤ x) := by
  have q : nI n - 1 < x ↔ nI n ≤ x := by
    by_cases z : n = 0
    · subst z
      rw [Int32.lt_iff_toInt_lt, Int32.le_iff_toInt_le]
      have e1 : (nI 0 - 1 : Int32).toInt = -1 := by decide
      have e2 : (nI 0 : Int32).toInt = 0 := by decide
      omega
    · rw [show nI n - 1 = nI (n - 1) from nI_subn (a := n) (b := 1) (by omega), Int32.lt_iff_toInt_lt, Int32.le_iff_toInt_le, nI_toInt (by omega), nI_toInt (by omega)]
      omega
  unfold inI
  by_cases c : x < 0
  · rw [if_pos c]; exact ⟨fun _ => Or.inl c, fun _ => rfl⟩
  · rw [if_neg c]
    by_cases c2 : nI n - 1 < x
    · rw [if_pos c2]; exact ⟨fun _ => Or.inr (q.1 c2), fun _ => rfl⟩
    · rw [if_neg c2]
      exact ⟨fun h => absurd h (by decide), fun h => h.elim (fun g => absurd g c) (fun g => absurd (q.2 g) c2)⟩
/-- which rows a query means -/
theorem row_sel {s : SG} {k n : Nat} {x : Int32} (h : SIMn s) (hk : k < 5) (en : s 65 (k + 1) = nI n) (hn : n ≤ 2) : (iofN s (k + 1) x = 0 ∧ rowO s (nI (k + 1)) x = none) ∨ ∃ j, j < 2 ∧ j < n ∧ x = nI j ∧ ¬ iofN s (k + 1) x = 0 ∧ rowO s (nI (k + 1)) x = some (22 + 2 * (k * 2 + j)) := by
  have e3 : cl 6 (s 3) (nI (k + 1)) = nI n := by rw [cl_nI (by omega) (by decide), h.2.2.1 (k + 1) (by omega), en]
  unfold iofN rowO
  rw [en, e3]
  by_cases c : inI x 0 (nI n - 1) = 0
  · refine Or.inl ⟨c, ?_⟩
    rcases (iz_m (by omega)).1 c with g | g
    · rw [if_pos g]
    · rw [if_pos g]; split <;> rfl
  · obtain ⟨j, ej, hj⟩ := inI_sub (by omega) c
    refine Or.inr ⟨j, by omega, hj, ej, c, ?_⟩
    rw [if_neg (fun g => c ((iz_m (by omega)).2 (Or.inl g))), if_neg (fun g => c ((iz_m (by omega)).2 (Or.inr g))), ej]
    exact rkp_k hk (by omega)
theorem rep_sel {s : SG} {n : Nat} {x : Int32} (h : SIMn s) (en : s 65 0 = nI n) (hn : n ≤ 2) : (iofN s 0 x = 0 ∧ repO s x = none) ∨ ∃ j, j < 2 ∧ j < n ∧ x = nI j ∧ ¬ iofN s 0 x = 0 ∧ repO s x = some (6 + 8 * j) := by
  have e3 : cl 6 (s 3) 0 = nI n := by rw [show cl 6 (s 3) 0 = s 3 0 from cl_nI (j := 0) (by decide) (by decide), h.2.2.1 0 (by omega), en]
  unfold iofN repO
  rw [en, e3]
  by_cases c : inI x 0 (nI n - 1) = 0
  · refine Or.inl ⟨c, ?_⟩
    rcases (iz_m (by omega)).1 c with g | g
    · rw [if_pos g]
    · rw [if_pos g]; split <;> rfl
  · obtain ⟨j, ej, hj⟩ := inI_sub (by omega) c
    refine Or.inr ⟨j, by omega, hj, ej, c, ?_⟩
    rw [if_neg (fun g => c ((iz_m (by omega)).2 (Or.inl g))), if_neg (fun g => c ((iz_m (by omega)).2 (Or.inr g))), ej]
    exact kep_k (by omega)
/-- the value that a query of rows has -/
def RV (s : SG) (o c n : Nat) (k v : Int32) : Int32 := if k = -1 then (if v = 0 then nI n else -2) else if inI k 0 (nI n - 1) = 0 then -2 else if inI v 0 (nI (c - 1)) = 0 then -2 else s 65 (o + (1 + c * k.toNatClampNeg + v.toNatClampNeg))
theorem rto_e {s : SG} {q o c N n : Nat} {k v : Int32} (hc : 1 ≤ c) (hc5 : c ≤ 5) (hN : N ≤ 40) (hn : n ≤ 40) (h : WEQ c N (fun e j => s (q + e) j) (fun j => s 65 (o + j))) (en : s 65 o = nI n) : n ≤ N ∧ rtoI s q k v (nI c) = RV s o c n k v := by
  obtain ⟨n2, h1, h2, h3, h4, _⟩ := h
  have h3 : s 65 o = nI n2 := h3
  have q0 : s q 0 = nI n := by
    have : s q 0 = nI n2 := h2
    rw [this, ← h3, en]
  have : n2 = n := nI_inj (by omega) (by omega) (h3.symm.trans en)
  subst this
  refine ⟨h1, ?_⟩
  unfold rtoI RV
  have vc : v < nI c ↔ ¬ nI (c - 1) < v := by
    rw [Int32.lt_iff_toInt_lt, Int32.lt_iff_toInt_lt, nI_toInt (by omega), nI_toInt (by omega)]; omega
  have iv : inI v 0 (nI (c - 1)) = 0 ↔ (v < 0 ∨ ¬ v < nI c) := by
    unfold inI
    by_cases g : v < 0
    · rw [if_pos g]; exact ⟨fun _ => Or.inl g, fun _ => rfl⟩
    · rw [if_neg g]
      by_cases g2 : nI (c - 1) < v
      · rw [if_pos g2]; exact ⟨fun _ => Or.inr (fun z => (vc.1 z) g2), fun _ => rfl⟩
      · rw [if_neg g2]
        exact ⟨fun z => absurd z (by decide), fun z => z.elim (fun z => absurd z g) (fun z => absurd (vc.2 g2) z)⟩
  have out : inI v 0 (nI (c - 1)) = 0 → (if k = -1 then (if v = 0 then nI n2 else -2) else if inI k 0 (nI n2 - 1) = 0 then -2 else if inI v 0 (nI (c - 1)) = 0 then -2 else s 65 (o + (1 + c * k.toNatClampNeg + v.toNatClampNeg))) = -2 := by
    intro z
    have v0 : ¬ v = 0 := by
      intro e
      rcases iv.1 z with g | g
      · rw [e] at g; exact absurd g (by decide)
      · rw [e] at g; exact g (nI_lt2 (a := 0) (by omega) (by omega))
    rw [if_neg v0, if_pos z]
    repeat' split
    all_goals rfl
  by_cases v0 : v < 0
  · rw [if_pos v0, out (iv.2 (Or.inl v0))]
  rw [if_neg v0]
  by_cases v1 : v < nI c
  · rw [if_pos v1]
    have iv0 : ¬ inI v 0 (nI (c - 1)) = 0 := fun z => (iv.1 z).elim v0 (fun g => g v1)
    by_cases ck : k = -1
    · rw [if_pos ck, if_pos ck, q0]
    · rw [if_neg ck, if_neg ck, q0, if_neg iv0]
      by_cases k0 : k < 0
      · rw [if_pos k0, if_pos ((iz_m (by omega)).2 (Or.inl k0))]
      · rw [if_neg k0]
        by_cases k1 : nI n2 ≤ k
        · rw [if_pos k1, if_pos ((iz_m (by omega)).2 (Or.inr k1))]
        · have ik : ¬ inI k 0 (nI n2 - 1) = 0 := fun z => ((iz_m (by omega)).1 z).elim k0 k1
          rw [if_neg k1, if_neg ik]
          obtain ⟨a, ea, ha⟩ := inI_sub (by omega) ik
          obtain ⟨b, hb, eb⟩ := nat_of v0 v1 (by omega)
          rw [ea, eb, nI_clamp (by omega), nI_clamp (by omega)]
          unfold parI
          rw [show (5 : Int32) = nI 5 from rfl, nI_mulx, nI_add, cl_nI (by omega) (by decide), Nat.mul_comm a 5]
          exact h4 a b ha hb
  · rw [if_neg v1, out (iv.2 (Or.inr v1))]
theorem order_p {s : SG} {n j : Nat} {x1 x2 x3 : Int32} (hx : x1 = nI j) (hj : j < 2) (hz : ¬ iofN s 1 x1 = 0) (en : s 65 (846 + 41 * j) = nI n) (hn : n ≤ 8) : Rorder s x1 x2 x3 = some (RV s (846 + 41 * j) 5 n x2 x3, up s 64 17 (nI (846 + 41 * j))) := by
  have e64 : up s 64 17 (nI (846 + 41 * j)) 64 17 = nI (846 + 41 * j) := up_a
  have e65 : up s 64 17 (nI (846 + 41 * j)) 65 = s 65 := up_n (by decide)
  have e1 : rdI (up s 64 17 (nI (846 + 41 * j))) 65 5768 (nI (846 + 41 * j)) = some (nI n) := by
    rw [rd_nI (e := 846 + 41 * j) rfl (by omega) (by decide), e65, en]
  have e2 : ∀ a b, a < n → b < 5 → RorderOf (up s 64 17 (nI (846 + 41 * j))) (nI a) (nI b) = some (s 65 (846 + 41 * j + (1 + 5 * a + b))) := by
    intro a b ha hb
    have i : ((nI (846 + 41 * j) + 1) + (5 * nI a)) + nI b = nI (846 + 41 * j + (1 + 5 * a + b)) := by
      show ((nI (846 + 41 * j) + nI 1) + (nI 5 * nI a)) + nI b = _
      rw [nI_mulx, nI_add, nI_add, nI_add]; congr 1; omega
    unfold RorderOf
    rw [e64, i, rd_nI (e := 846 + 41 * j + (1 + 5 * a + b)) rfl (by omega) (by decide), e65]; rfl
  unfold Rorder RareOrders
  rw [q_isOf (x := 1) (a := 1) rfl (by decide)]
  show ((if iofN s 1 x1 = 0 then some ((0 : Int32), s) else some (1, up s 64 17 (RplaceOf 1 x1))).bind _) = _
  rw [if_neg hz, hx, place1]
  rw [Option.bind_some, if_neg (show ¬ (1 : Int32) = 0 by decide)]
  show (if x2 = -1 then (if x3 = 0 then ((rdI (up s 64 17 (nI (846 + 41 * j))) 65 5768 (up s 64 17 (nI (846 + 41 * j)) 64 17)).bind fun g2 => some (g2, up s 64 17 (nI (846 + 41 * j)))) else some (-2, up s 64 17 (nI (846 + 41 * j)))) else (rdI (up s 64 17 (nI (846 + 41 * j))) 65 5768 (up s 64 17 (nI (846 + 41 * j)) 64 17)).bind fun g3 => if (inI x2 (0) (g3 - 1)) = 0 then some (-2, up s 64 17 (nI (846 + 41 * j))) else if (inI x3 (0) (4)) = 0 then some (-2, up s 64 17 (nI (846 + 41 * j))) else (RorderOf (up s 64 17 (nI (846 + 41 * j))) x2 x3).bind fun q4 => some (q4, up s 64 17 (nI (846 + 41 * j)))) = _
  rw [e64]
  rw [e1]
  unfold RV
  by_cases ck : x2 = -1
  · rw [if_pos ck, if_pos ck]
    by_cases cv : x3 = 0
    · rw [if_pos cv, if_pos cv]; rfl
    · rw [if_neg cv, if_neg cv]
  · rw [if_neg ck, if_neg ck]
    show (if inI x2 0 (nI n - 1) = 0 then _ else _) = _
    by_cases c1 : inI x2 0 (nI n - 1) = 0
    · rw [if_pos c1, if_pos c1]
    · rw [if_neg c1, if_neg c1]
      by_cases c2 : inI x3 0 4 = 0
      · rw [if_pos c2, if_pos (show inI x3 0 (nI (5 - 1)) = 0 from c2)]
      · rw [if_neg c2, if_neg (show ¬ inI x3 0 (nI (5 - 1)) = 0 from c2)]
        obtain ⟨a, ea, ha⟩ := inI_sub (by omega) c1
        obtain ⟨b, eb, hb⟩ := inI_nI (b := 4) (by decide) c2
        rw [ea, eb, nI_clamp (by omega), nI_clamp (by omega), e2 a b ha (by omega)]; rfl
theorem CE_order {K : List KD} {s : SG} {x1 x2 x3 : Int32} (hP : wLoc SIM1) (h : INVP SIM1 K s) : ∃ v s1 s2, xN sc (d + 11) 86 [.inr (.inr (.inl (some 0))), .inl x1, .inl x2, .inl x3] (wl K s) = some (some (.inl v), wl K s1) ∧ xN sc (d + 11) 211 [.inr (.inr (.inl (some 64))), .inl x1, .inl x2, .inl x3] (wl K s1) = some (some (.inl v), wl K s2) ∧ INVP SIM1 K s2 := by
  have hK := INVP_SH h
  have hn := SIM_n.1 (INVP_P h)
  have r := INVP_RI h
  have q2 := r_order (sc := sc) (d := d + 7) (s := s) (x1 := x1) (x2 := x2) (x3 := x3) hK
  obtain ⟨p, e2, qi⟩ : ok (Rorder s x1 x2 x3) (fun p => QI s p.2) := order_ok r
  rw [e2] at q2
  obtain ⟨n, en, hn2⟩ := r.1.1 1 (by omega)
  have I := INVP_q hP h (s1 := s) (fun _ _ => rfl) qi
  rcases row_sel (k := 0) (x := x1) hn (by omega) en hn2 with ⟨z, e⟩ | ⟨j, hj, hjn, ex, z, e⟩
  · have e3 : Rorder s x1 x2 x3 = some (-2, s) := by
      unfold Rorder RareOrders
      rw [q_isOf (x := 1) (a := 1) rfl (by decide)]
      show ((if iofN s 1 x1 = 0 then some ((0 : Int32), s) else some (1, up s 64 17 (RplaceOf 1 x1))).bind _) = _
      rw [if_pos z]; rfl
    rw [e3] at e2; cases e2
    exact ⟨-2, s, s, c_ordI_a (sc := sc) (d := d + 8) (s := s) (x := x1) (k := x2) (v := x3) hK e, q2, h⟩
  · have w := hn.2.2.2 1 j n (by omega) hj en hn2 hjn
    have w2 : WEQ 5 8 (fun e j2 => s (22 + 2 * (0 * 2 + j) + e) j2) (fun j2 => s 65 (846 + 41 * j + j2)) := by
      have g : ∀ e, 1 + (CPK 1 j + e) = 22 + 2 * (0 * 2 + j) + e := fun e => by
        show 1 + (21 + 2 * (0 * 2 + j) + e) = _
        omega
      have w : WEQ 5 8 (fun e j2 => s (1 + (CPK 1 j + e)) j2) (fun j2 => s 65 (846 + 41 * j + j2)) := w
      simp only [g] at w
      exact w
    have w3 := w2
    obtain ⟨n3, g1, _, g3, _⟩ := w3
    have g3 : s 65 (846 + 41 * j) = nI n3 := g3
    have rt := (rto_e (k := x2) (v := x3) (by omega) (by omega) (by omega) (show n3 ≤ 40 by omega) w2 g3).2
    have e3 := order_p (x2 := x2) (x3 := x3) ex hj z g3 g1
    rw [e3] at e2
    have ep : p.1 = RV s (846 + 41 * j) 5 n3 x2 x3 := by cases e2; rfl
    have cc := c_ordI_b (sc := sc) (d := d + 7) (s := s) (x := x1) (k := x2) (v := x3) (RW2 hK (0 * 2 + j) (by omega)) hK e
    refine ⟨p.1, s, p.2, ?_, q2, I⟩
    rw [cc, ep, ← rt]; rfl
theorem deed_p {s : SG} {n j : Nat} {x1 x2 x3 : Int32} (hx : x1 = nI j) (hj : j < 2) (hz : ¬ iofN s 2 x1 = 0) (en : s 65 (928 + 201 * j) = nI n) (hn : n ≤ 40) : Rdeed s x1 x2 x3 = some (RV s (928 + 201 * j) 5 n x2 x3, up s 64 29 (nI (928 + 201 * j))) := by
  have e64 : up s 64 29 (nI (928 + 201 * j)) 64 29 = nI (928 + 201 * j) := up_a
  have e65 : up s 64 29 (nI (928 + 201 * j)) 65 = s 65 := up_n (by decide)
  have e1 : Rdeeds (up s 64 29 (nI (928 + 201 * j))) = some (nI n) := by
    unfold Rdeeds
    rw [e64, rd_nI (e := 928 + 201 * j) rfl (by omega) (by decide), e65, en]; rfl
  have e2 : ∀ a b, a < n → b < 5 → RdeedOf (up s 64 29 (nI (928 + 201 * j))) (nI a) (nI b) = some (s 65 (928 + 201 * j + (1 + 5 * a + b))) := by
    intro a b ha hb
    have i : ((nI (928 + 201 * j) + 1) + (5 * nI a)) + nI b = nI (928 + 201 * j + (1 + 5 * a + b)) := by
      show ((nI (928 + 201 * j) + nI 1) + (nI 5 * nI a)) + nI b = _
      rw [nI_mulx, nI_add, nI_add, nI_add]; congr 1; omega
    unfold RdeedOf
    rw [e64, i, rd_nI (e := 928 + 201 * j + (1 + 5 * a + b)) rfl (by omega) (by decide), e65]; rfl
  unfold Rdeed
  rw [q_isOf (x := 2) (a := 2) rfl (by decide)]
  show (if iofN s 2 x1 = 0 then _ else _) = _
  rw [if_neg hz, hx, place2]
  rw [e1]
  unfold RV
  by_cases ck : x2 = -1
  · rw [if_pos ck, if_pos ck]
    by_cases cv : x3 = 0
    · rw [if_pos cv, if_pos cv]; rfl
    · rw [if_neg cv, if_neg cv]
  · rw [if_neg ck, if_neg ck]
    show (if inI x2 0 (nI n - 1) = 0 then _ else _) = _
    by_cases c1 : inI x2 0 (nI n - 1) = 0
    · rw [if_pos c1, if_pos c1]
    · rw [if_neg c1, if_neg c1]
      by_cases c2 : inI x3 0 4 = 0
      · rw [if_pos c2, if_pos (show inI x3 0 (nI (5 - 1)) = 0 from c2)]
      · rw [if_neg c2, if_neg (show ¬ inI x3 0 (nI (5 - 1)) = 0 from c2)]
        obtain ⟨a, ea, ha⟩ := inI_sub (by omega) c1
        obtain ⟨b, eb, hb⟩ := inI_nI (b := 4) (by decide) c2
        rw [ea, eb, nI_clamp (by omega), nI_clamp (by omega), e2 a b ha (by omega)]; rfl
theorem CE_deed {K : List KD} {s : SG} {x1 x2 x3 : Int32} (hP : wLoc SIM1) (h : INVP SIM1 K s) : ∃ v s1 s2, xN sc (d + 11) 87 [.inr (.inr (.inl (some 0))), .inl x1, .inl x2, .inl x3] (wl K s) = some (some (.inl v), wl K s1) ∧ xN sc (d + 11) 224 [.inr (.inr (.inl (some 64))), .inl x1, .inl x2, .inl x3] (wl K s1) = some (some (.inl v), wl K s2) ∧ INVP SIM1 K s2 := by
  have hK := INVP_SH h
  have hn := SIM_n.1 (INVP_P h)
  have r := INVP_RI h
  have q2 := r_deed (sc := sc) (d := d + 8) (s := s) (x1 := x1) (x2 := x2) (x3 := x3) hK
  obtain ⟨p, e2, qi⟩ : ok (Rdeed s x1 x2 x3) (fun p => QI s p.2) := deed_ok r
  rw [e2] at q2
  obtain ⟨n, en, hn2⟩ := r.1.1 2 (by omega)
  have I := INVP_q hP h (s1 := s) (fun _ _ => rfl) qi
  rcases row_sel (k := 1) (x := x1) hn (by omega) en hn2 with ⟨z, e⟩ | ⟨j, hj, hjn, ex, z, e⟩
  · have e3 : Rdeed s x1 x2 x3 = some (-2, s) := by
      unfold Rdeed
      rw [q_isOf (x := 2) (a := 2) rfl (by decide)]
      show (if iofN s 2 x1 = 0 then _ else _) = _
      rw [if_pos z]
    rw [e3] at e2; cases e2
    exact ⟨-2, s, s, c_deeI_a (sc := sc) (d := d + 8) (s := s) (x := x1) (k := x2) (v := x3) hK e, q2, h⟩
  · have w := hn.2.2.2 2 j n (by omega) hj en hn2 hjn
    have w2 : WEQ 5 40 (fun e j2 => s (22 + 2 * (1 * 2 + j) + e) j2) (fun j2 => s 65 (928 + 201 * j + j2)) := by
      have g : ∀ e, 1 + (CPK 2 j + e) = 22 + 2 * (1 * 2 + j) + e := fun e => by
        show 1 + (21 + 2 * (1 * 2 + j) + e) = _
        omega
      have w : WEQ 5 40 (fun e j2 => s (1 + (CPK 2 j + e)) j2) (fun j2 => s 65 (928 + 201 * j + j2)) := w
      simp only [g] at w
      exact w
    have w3 := w2
    obtain ⟨n3, g1, _, g3, _⟩ := w3
    have g3 : s 65 (928 + 201 * j) = nI n3 := g3
    have rt := (rto_e (k := x2) (v := x3) (by omega) (by omega) (by omega) (show n3 ≤ 40 by omega) w2 g3).2
    have e3 := deed_p (x2 := x2) (x3 := x3) ex hj z g3 g1
    rw [e3] at e2
    have ep : p.1 = RV s (928 + 201 * j) 5 n3 x2 x3 := by cases e2; rfl
    have cc := c_deeI_b (sc := sc) (d := d + 7) (s := s) (x := x1) (k := x2) (v := x3) (RW2 hK (1 * 2 + j) (by omega)) hK e
    refine ⟨p.1, s, p.2, ?_, q2, I⟩
    rw [cc, ep, ← rt]; rfl
theorem leak_p {s : SG} {n j : Nat} {x1 x2 x3 : Int32} (hx : x1 = nI j) (hj : j < 2) (hz : ¬ iofN s 3 x1 = 0) (en : s 65 (1330 + 17 * j) = nI n) (hn : n ≤ 8) : Rleak s x1 x2 x3 = some (RV s (1330 + 17 * j) 2 n x2 x3, up s 64 33 (nI (1330 + 17 * j))) := by
  have e64 : up s 64 33 (nI (1330 + 17 * j)) 64 33 = nI (1330 + 17 * j) := up_a
  have e65 : up s 64 33 (nI (1330 + 17 * j)) 65 = s 65 := up_n (by decide)
  have e1 : rdI (up s 64 33 (nI (1330 + 17 * j))) 65 5768 (nI (1330 + 17 * j)) = some (nI n) := by
    rw [rd_nI (e := 1330 + 17 * j) rfl (by omega) (by decide), e65, en]
  have e2 : ∀ a b, a < n → b < 2 → RleakOf (up s 64 33 (nI (1330 + 17 * j))) (nI a) (nI b) = some (s 65 (1330 + 17 * j + (1 + 2 * a + b))) := by
    intro a b ha hb
    have i : ((nI (1330 + 17 * j) + 1) + (2 * nI a)) + nI b = nI (1330 + 17 * j + (1 + 2 * a + b)) := by
      show ((nI (1330 + 17 * j) + nI 1) + (nI 2 * nI a)) + nI b = _
      rw [nI_mulx, nI_add, nI_add, nI_add]; congr 1; omega
    unfold RleakOf
    rw [e64, i, rd_nI (e := 1330 + 17 * j + (1 + 2 * a + b)) rfl (by omega) (by decide), e65]; rfl
  unfold Rleak
  rw [q_isOf (x := 3) (a := 3) rfl (by decide)]
  show (if iofN s 3 x1 = 0 then _ else _) = _
  rw [if_neg hz, hx, place3]
  rw [e1]
  unfold RV
  by_cases ck : x2 = -1
  · rw [if_pos ck, if_pos ck]
    by_cases cv : x3 = 0
    · rw [if_pos cv, if_pos cv]; rfl
    · rw [if_neg cv, if_neg cv]
  · rw [if_neg ck, if_neg ck]
    show (if inI x2 0 (nI n - 1) = 0 then _ else _) = _
    by_cases c1 : inI x2 0 (nI n - 1) = 0
    · rw [if_pos c1, if_pos c1]
    · rw [if_neg c1, if_neg c1]
      by_cases c2 : inI x3 0 1 = 0
      · rw [if_pos c2, if_pos (show inI x3 0 (nI (2 - 1)) = 0 from c2)]
      · rw [if_neg c2, if_neg (show ¬ inI x3 0 (nI (2 - 1)) = 0 from c2)]
        obtain ⟨a, ea, ha⟩ := inI_sub (by omega) c1
        obtain ⟨b, eb, hb⟩ := inI_nI (b := 1) (by decide) c2
        rw [ea, eb, nI_clamp (by omega), nI_clamp (by omega), e2 a b ha (by omega)]; rfl
theorem CE_leak {K : List KD} {s : SG} {x1 x2 x3 : Int32} (hP : wLoc SIM1) (h : INVP SIM1 K s) : ∃ v s1 s2, xN sc (d + 11) 88 [.inr (.inr (.inl (some 0))), .inl x1, .inl x2, .inl x3] (wl K s) = some (some (.inl v), wl K s1) ∧ xN sc (d + 11) 271 [.inr (.inr (.inl (some 64))), .inl x1, .inl x2, .inl x3] (wl K s1) = some (some (.inl v), wl K s2) ∧ INVP SIM1 K s2 := by
  have hK := INVP_SH h
  have hn := SIM_n.1 (INVP_P h)
  have r := INVP_RI h
  have q2 := r_leak (sc := sc) (d := d + 8) (s := s) (x1 := x1) (x2 := x2) (x3 := x3) hK
  obtain ⟨p, e2, qi⟩ : ok (Rleak s x1 x2 x3) (fun p => QI s p.2) := leak_ok r
  rw [e2] at q2
  obtain ⟨n, en, hn2⟩ := r.1.1 3 (by omega)
  have I := INVP_q hP h (s1 := s) (fun _ _ => rfl) qi
  rcases row_sel (k := 2) (x := x1) hn (by omega) en hn2 with ⟨z, e⟩ | ⟨j, hj, hjn, ex, z, e⟩
  · have e3 : Rleak s x1 x2 x3 = some (-2, s) := by
      unfold Rleak
      rw [q_isOf (x := 3) (a := 3) rfl (by decide)]
      show (if iofN s 3 x1 = 0 then _ else _) = _
      rw [if_pos z]
    rw [e3] at e2; cases e2
    exact ⟨-2, s, s, c_leaI_a (sc := sc) (d := d + 8) (s := s) (x := x1) (k := x2) (v := x3) hK e, q2, h⟩
  · have w := hn.2.2.2 3 j n (by omega) hj en hn2 hjn
    have w2 : WEQ 2 8 (fun e j2 => s (22 + 2 * (2 * 2 + j) + e) j2) (fun j2 => s 65 (1330 + 17 * j + j2)) := by
      have g : ∀ e, 1 + (CPK 3 j + e) = 22 + 2 * (2 * 2 + j) + e := fun e => by
        show 1 + (21 + 2 * (2 * 2 + j) + e) = _
        omega
      have w : WEQ 2 8 (fun e j2 => s (1 + (CPK 3 j + e)) j2) (fun j2 => s 65 (1330 + 17 * j + j2)) := w
      simp only [g] at w
      exact w
    have w3 := w2
    obtain ⟨n3, g1, _, g3, _⟩ := w3
    have g3 : s 65 (1330 + 17 * j) = nI n3 := g3
    have rt := (rto_e (k := x2) (v := x3) (by omega) (by omega) (by omega) (show n3 ≤ 40 by omega) w2 g3).2
    have e3 := leak_p (x2 := x2) (x3 := x3) ex hj z g3 g1
    rw [e3] at e2
    have ep : p.1 = RV s (1330 + 17 * j) 2 n3 x2 x3 := by cases e2; rfl
    have cc := c_leaI_b (sc := sc) (d := d + 7) (s := s) (x := x1) (k := x2) (v := x3) (RW2 hK (2 * 2 + j) (by omega)) hK e
    refine ⟨p.1, s, p.2, ?_, q2, I⟩
    rw [cc, ep, ← rt]; rfl
theorem was_p {s : SG} {n j : Nat} {x1 x2 x3 : Int32} (hx : x1 = nI j) (hj : j < 2) (hz : ¬ iofN s 4 x1 = 0) (en : s 65 (1364 + 33 * j) = nI n) (hn : n ≤ 8) : Rwas s x1 x2 x3 = some (RV s (1364 + 33 * j) 4 n x2 x3, up s 64 30 (nI (1364 + 33 * j))) := by
  have e64 : up s 64 30 (nI (1364 + 33 * j)) 64 30 = nI (1364 + 33 * j) := up_a
  have e65 : up s 64 30 (nI (1364 + 33 * j)) 65 = s 65 := up_n (by decide)
  have e1 : RsummerDays (up s 64 30 (nI (1364 + 33 * j))) = some (nI n) := by
    unfold RsummerDays
    rw [e64, rd_nI (e := 1364 + 33 * j) rfl (by omega) (by decide), e65, en]; rfl
  have e2 : ∀ a b, a < n → b < 4 → RdayOf (up s 64 30 (nI (1364 + 33 * j))) (nI a) (nI b) = some (s 65 (1364 + 33 * j + (1 + 4 * a + b))) := by
    intro a b ha hb
    have i : ((nI (1364 + 33 * j) + 1) + (4 * nI a)) + nI b = nI (1364 + 33 * j + (1 + 4 * a + b)) := by
      show ((nI (1364 + 33 * j) + nI 1) + (nI 4 * nI a)) + nI b = _
      rw [nI_mulx, nI_add, nI_add, nI_add]; congr 1; omega
    unfold RdayOf
    rw [e64, i, rd_nI (e := 1364 + 33 * j + (1 + 4 * a + b)) rfl (by omega) (by decide), e65]; rfl
  unfold Rwas RisSummer
  rw [q_isOf (x := 4) (a := 4) rfl (by decide)]
  show ((if iofN s 4 x1 = 0 then some ((0 : Int32), s) else some (1, up s 64 30 (RplaceOf 4 x1))).bind _) = _
  rw [if_neg hz, hx, place4]
  rw [Option.bind_some, if_neg (show ¬ (1 : Int32) = 0 by decide)]
  show (if x2 = -1 then (if x3 = 0 then ((RsummerDays (up s 64 30 (nI (1364 + 33 * j)))).bind fun q2 => some (q2, up s 64 30 (nI (1364 + 33 * j)))) else some (-2, up s 64 30 (nI (1364 + 33 * j)))) else (RsummerDays (up s 64 30 (nI (1364 + 33 * j)))).bind fun q3 => if (inI x2 (0) (q3 - 1)) = 0 then some (-2, up s 64 30 (nI (1364 + 33 * j))) else if (inI x3 (0) (3)) = 0 then some (-2, up s 64 30 (nI (1364 + 33 * j))) else (RdayOf (up s 64 30 (nI (1364 + 33 * j))) x2 x3).bind fun q4 => some (q4, up s 64 30 (nI (1364 + 33 * j)))) = _
  rw [e1]
  unfold RV
  by_cases ck : x2 = -1
  · rw [if_pos ck, if_pos ck]
    by_cases cv : x3 = 0
    · rw [if_pos cv, if_pos cv]; rfl
    · rw [if_neg cv, if_neg cv]
  · rw [if_neg ck, if_neg ck]
    show (if inI x2 0 (nI n - 1) = 0 then _ else _) = _
    by_cases c1 : inI x2 0 (nI n - 1) = 0
    · rw [if_pos c1, if_pos c1]
    · rw [if_neg c1, if_neg c1]
      by_cases c2 : inI x3 0 3 = 0
      · rw [if_pos c2, if_pos (show inI x3 0 (nI (4 - 1)) = 0 from c2)]
      · rw [if_neg c2, if_neg (show ¬ inI x3 0 (nI (4 - 1)) = 0 from c2)]
        obtain ⟨a, ea, ha⟩ := inI_sub (by omega) c1
        obtain ⟨b, eb, hb⟩ := inI_nI (b := 3) (by decide) c2
        rw [ea, eb, nI_clamp (by omega), nI_clamp (by omega), e2 a b ha (by omega)]; rfl
theorem CE_was {K : List KD} {s : SG} {x1 x2 x3 : Int32} (hP : wLoc SIM1) (h : INVP SIM1 K s) : ∃ v s1 s2, xN sc (d + 11) 89 [.inr (.inr (.inl (some 0))), .inl x1, .inl x2, .inl x3] (wl K s) = some (some (.inl v), wl K s1) ∧ xN sc (d + 11) 256 [.inr (.inr (.inl (some 64))), .inl x1, .inl x2, .inl x3] (wl K s1) = some (some (.inl v), wl K s2) ∧ INVP SIM1 K s2 := by
  have hK := INVP_SH h
  have hn := SIM_n.1 (INVP_P h)
  have r := INVP_RI h
  have q2 := r_was (sc := sc) (d := d + 7) (s := s) (x1 := x1) (x2 := x2) (x3 := x3) hK
  obtain ⟨p, e2, qi⟩ : ok (Rwas s x1 x2 x3) (fun p => QI s p.2) := was_ok r
  rw [e2] at q2
  obtain ⟨n, en, hn2⟩ := r.1.1 4 (by omega)
  have I := INVP_q hP h (s1 := s) (fun _ _ => rfl) qi
  rcases row_sel (k := 3) (x := x1) hn (by omega) en hn2 with ⟨z, e⟩ | ⟨j, hj, hjn, ex, z, e⟩
  · have e3 : Rwas s x1 x2 x3 = some (-2, s) := by
      unfold Rwas RisSummer
      rw [q_isOf (x := 4) (a := 4) rfl (by decide)]
      show ((if iofN s 4 x1 = 0 then some ((0 : Int32), s) else some (1, up s 64 30 (RplaceOf 4 x1))).bind _) = _
      rw [if_pos z]; rfl
    rw [e3] at e2; cases e2
    exact ⟨-2, s, s, c_wasI_a (sc := sc) (d := d + 8) (s := s) (x := x1) (k := x2) (v := x3) hK e, q2, h⟩
  · have w := hn.2.2.2 4 j n (by omega) hj en hn2 hjn
    have w2 : WEQ 4 8 (fun e j2 => s (22 + 2 * (3 * 2 + j) + e) j2) (fun j2 => s 65 (1364 + 33 * j + j2)) := by
      have g : ∀ e, 1 + (CPK 4 j + e) = 22 + 2 * (3 * 2 + j) + e := fun e => by
        show 1 + (21 + 2 * (3 * 2 + j) + e) = _
        omega
      have w : WEQ 4 8 (fun e j2 => s (1 + (CPK 4 j + e)) j2) (fun j2 => s 65 (1364 + 33 * j + j2)) := w
      simp only [g] at w
      exact w
    have w3 := w2
    obtain ⟨n3, g1, _, g3, _⟩ := w3
    have g3 : s 65 (1364 + 33 * j) = nI n3 := g3
    have rt := (rto_e (k := x2) (v := x3) (by omega) (by omega) (by omega) (show n3 ≤ 40 by omega) w2 g3).2
    have e3 := was_p (x2 := x2) (x3 := x3) ex hj z g3 g1
    rw [e3] at e2
    have ep : p.1 = RV s (1364 + 33 * j) 4 n3 x2 x3 := by cases e2; rfl
    have cc := c_wasI_b (sc := sc) (d := d + 7) (s := s) (x := x1) (k := x2) (v := x3) (RW2 hK (3 * 2 + j) (by omega)) hK e
    refine ⟨p.1, s, p.2, ?_, q2, I⟩
    rw [cc, ep, ← rt]; rfl
end XTY
end
section
section XTZ
variable {sc : Nat × (Nat → Int32)} {d : Nat} {K : List KD} {r q t a B m : Nat} {w : EW}
/-! queries of a told republic -/
theorem isRep_n {s : SG} {x : Int32} (hz : iofN s 0 x = 0) : RisRepublic s x = some (0, s) := by
  unfold RisRepublic
  rw [q_isOf (x := 0) (a := 0) rfl (by decide)]
  show (if iofN s 0 x = 0 then _ else _) = _
  rw [if_pos hz]
theorem isRep_y {s : SG} {x : Int32} {j : Nat} (rr : RI s) (hj : j < 2) (hx : x = nI j) (hz : ¬ iofN s 0 x = 0) : ok (RisRepublic s x) (fun p => p.1 = 1 ∧ p.2 65 = s 65 ∧ p.2 64 11 = nI (610 + 118 * j)) := by
  unfold RisRepublic
  rw [q_isOf (x := 0) (a := 0) rfl (by decide)]
  show ok (if iofN s 0 x = 0 then _ else _) _
  rw [if_neg hz, hx, place0]
  refine ok_b (begins_ok (s := up s 64 11 (nI (610 + 118 * j))) (RI_65 (up_n (by decide)) rr) ⟨j, hj, up_a⟩) (fun u hu => ok_s ⟨rfl, ?_, ?_⟩)
  · show u 65 = _
    rw [hu.1.1, up_n (by decide)]
  · show u 64 11 = _
    rw [hu.2.2.2, up_a]
theorem rof_v {s : SG} {x : Int32} {b i : Nat} (e : s 64 11 = nI b) (hx : x = nI i) (hb : b + i < 5768) : Rof s x = some (s 65 (b + i)) := by
  unfold Rof
  rw [e, hx, nI_add, rd_nI (e := b + i) rfl hb (by decide)]; rfl
theorem between {x : Int32} {lo hi : Nat} (hh : hi ≤ 1000) (h : ¬ inI x (nI lo) (nI hi) = 0) (hl : lo ≤ hi) : ∃ i, x = nI (lo + i) ∧ lo + i ≤ hi := by
  unfold inI at h
  by_cases c1 : x < nI lo
  · rw [if_pos c1] at h; exact absurd rfl h
  · by_cases c2 : nI hi < x
    · rw [if_neg c1, if_pos c2] at h; exact absurd rfl h
    · have q1 := Int32.not_lt.mp c1
      have q2 := Int32.not_lt.mp c2
      rw [Int32.le_iff_toInt_le, nI_toInt (by omega)] at q1 q2
      have x0 : ¬ x < 0 := by
        rw [Int32.lt_iff_toInt_lt]
        have : (0 : Int32).toInt = 0 := by decide
        omega
      have x1 : x < nI (hi + 1) := by
        rw [Int32.lt_iff_toInt_lt, nI_toInt (by omega)]; omega
      obtain ⟨k, hk, ek⟩ := nat_of x0 x1 (by omega)
      rw [ek, nI_toInt (by omega)] at q1 q2
      exact ⟨k - lo, by rw [ek, show lo + (k - lo) = k by omega], by omega⟩
/-- what republic answers of the republic told at o -/
def RPV (s : SG) (o : Nat) (y : Int32) : Int32 := if inI y 0 5 = 0 then (if inI y 10 12 = 0 then -1 else s 65 (o + (y.toNatClampNeg - 4))) else s 65 (o + y.toNatClampNeg)
theorem rep_e {s : SG} {r o : Nat} {y : Int32} (h : REQ (fun e j => s (r + e) j) (fun j => s 65 (o + j))) : repIb s r y = RPV s o y := by
  obtain ⟨n, V, h1, ⟨h2, h3⟩, h4, h5, _⟩ := h
  have h2 : s r 0 = nI n := h2
  have h3 : s 65 (o + 0) = nI n := h3
  have h4 : ∀ i, i < 5 → s r (9 + i) = s 65 (o + (1 + i)) := fun i hi => (h4 i hi).1
  have h5 : ∀ k, k < 3 → s (r + 7) k = s 65 (o + (6 + k)) := fun k hk => (h5 k hk).1
  unfold repIb repIbW RPV
  by_cases c1 : inI y 0 5 = 0
  · rw [if_pos c1]
    have n0 : ¬ y = 0 := fun e => by rw [e] at c1; exact absurd c1 (by decide)
    have n1 : ¬ y = 1 := fun e => by rw [e] at c1; exact absurd c1 (by decide)
    have n2 : ¬ y = 2 := fun e => by rw [e] at c1; exact absurd c1 (by decide)
    have n3 : ¬ y = 3 := fun e => by rw [e] at c1; exact absurd c1 (by decide)
    have n4 : ¬ y = 4 := fun e => by rw [e] at c1; exact absurd c1 (by decide)
    have n5 : ¬ y = 5 := fun e => by rw [e] at c1; exact absurd c1 (by decide)
    by_cases c2 : inI y 10 12 = 0
    · rw [if_pos c2]
      have n10 : ¬ y = 10 := fun e => by rw [e] at c2; exact absurd c2 (by decide)
      have n11 : ¬ y = 11 := fun e => by rw [e] at c2; exact absurd c2 (by decide)
      have n12 : ¬ y = 12 := fun e => by rw [e] at c2; exact absurd c2 (by decide)
      rw [if_neg n0, if_neg n1, if_neg n2, if_neg n3, if_neg n4, if_neg n5, if_neg n10, if_neg n11, if_neg n12]
      repeat' split
      all_goals rfl
    · rw [if_neg c2]
      obtain ⟨i, ei, hi⟩ := between (lo := 10) (hi := 12) (by omega) c2 (by omega)
      rcases (by omega : i = 0 ∨ i = 1 ∨ i = 2) with rfl | rfl | rfl
      · subst ei
        rw [nI_clamp (by omega)]
        simp (decide := true) only [if_true, if_false]
        rw [show nI (10 + 0) - 10 = nI 0 from nI_subn (a := 10 + 0) (b := 10) (by omega), cl_nI (by omega) (by decide)]
        exact h5 0 (by omega)
      · subst ei
        rw [nI_clamp (by omega)]
        simp (decide := true) only [if_true, if_false]
        rw [show nI (10 + 1) - 10 = nI 1 from nI_subn (a := 10 + 1) (b := 10) (by omega), cl_nI (by omega) (by decide)]
        exact h5 1 (by omega)
      · subst ei
        rw [nI_clamp (by omega)]
        simp (decide := true) only [if_true, if_false]
        rw [show nI (10 + 2) - 10 = nI 2 from nI_subn (a := 10 + 2) (b := 10) (by omega), cl_nI (by omega) (by decide)]
        exact h5 2 (by omega)
  · rw [if_neg c1]
    obtain ⟨a, ea, ha⟩ := inI_nI (b := 5) (by decide) c1
    rcases (by omega : a = 0 ∨ a = 1 ∨ a = 2 ∨ a = 3 ∨ a = 4 ∨ a = 5) with rfl | rfl | rfl | rfl | rfl | rfl
    · subst ea
      rw [nI_clamp (by omega)]
      simp (decide := true) only [if_true, if_false]
      exact h2.trans h3.symm
    · subst ea
      rw [nI_clamp (by omega)]
      simp (decide := true) only [if_true, if_false]
      exact h4 0 (by omega)
    · subst ea
      rw [nI_clamp (by omega)]
      simp (decide := true) only [if_true, if_false]
      exact h4 1 (by omega)
    · subst ea
      rw [nI_clamp (by omega)]
      simp (decide := true) only [if_true, if_false]
      exact h4 2 (by omega)
    · subst ea
      rw [nI_clamp (by omega)]
      simp (decide := true) only [if_true, if_false]
      exact h4 3 (by omega)
    · subst ea
      rw [nI_clamp (by omega)]
      simp (decide := true) only [if_true, if_false]
      exact h4 4 (by omega)
theorem republic_p {s : SG} {j : Nat} {x y : Int32} {p : Int32 × SG} (rr : RI s) (hj : j < 2) (hx : x = nI j) (hz : ¬ iofN s 0 x = 0) (e : Rrepublic s x y = some p) : p.1 = RPV s (610 + 118 * j) y := by
  obtain ⟨u, eu, u1, u65, u11⟩ := isRep_y rr hj hx hz
  unfold Rrepublic at e
  rw [eu] at e
  replace e : (if u.1 = 0 then some (-1, u.2) else if (inI y (0) (5)) = 0 then (if (inI y (10) (12)) = 0 then some (-1, u.2) else (Rof u.2 ((6 + y) - 10)).bind fun q2 => some (q2, u.2)) else (Rof u.2 y).bind fun q3 => some (q3, u.2)) = some p := e
  rw [if_neg (show ¬ u.1 = 0 by rw [u1]; decide)] at e
  unfold RPV
  by_cases c1 : inI y 0 5 = 0
  · rw [if_pos c1] at e ⊢
    by_cases c2 : inI y 10 12 = 0
    · rw [if_pos c2] at e ⊢; cases e; rfl
    · rw [if_neg c2] at e ⊢
      obtain ⟨i, ei, hi⟩ := between (lo := 10) (hi := 12) (by omega) c2 (by omega)
      have ix : (6 : Int32) + y - 10 = nI (6 + i) := by
        rw [ei]
        show nI 6 + nI (10 + i) - nI 10 = _
        rw [nI_add, nI_subn (by omega)]; congr 1; omega
      rw [rof_v u11 ix (by omega), u65] at e
      cases e
      show s 65 (610 + 118 * j + (6 + i)) = _
      rw [ei, nI_clamp (by omega)]; congr 1; omega
  · rw [if_neg c1] at e ⊢
    obtain ⟨a, ea, ha⟩ := inI_nI (b := 5) (by decide) c1
    rw [rof_v u11 ea (by omega), u65] at e
    cases e
    show s 65 (610 + 118 * j + a) = _
    rw [ea, nI_clamp (by omega)]
/-- a republic that is told -/
theorem rep_q {s : SG} {j n : Nat} (hn : SIMn s) (hj : j < 2) (en : s 65 0 = nI n) (hn2 : n ≤ 2) (hjn : j < n) : REQ (fun e i => s (6 + 8 * j + e) i) (fun i => s 65 (610 + 118 * j + i)) := by
  have w : REQ (fun e i => s (1 + (CPK 0 j + e)) i) (fun i => s 65 (610 + 118 * j + i)) := hn.2.2.2 0 j n (by omega) hj en hn2 hjn
  have g : ∀ e, 1 + (CPK 0 j + e) = 6 + 8 * j + e := fun e => by
    show 1 + (5 + 8 * j + e) = _
    omega
  simp only [g] at w
  exact w
theorem rp_j {j : Nat} (h : SH K) (hj : j < 2) : RP K (6 + 8 * j) := by
  rcases (by omega : j = 0 ∨ j = 1) with rfl | rfl
  · exact RP6 h
  · exact RP14 h
theorem CE_republic {K : List KD} {s : SG} {x1 x2 : Int32} (hP : wLoc SIM1) (h : INVP SIM1 K s) : ∃ v s1 s2, xN sc (d + 11) 84 [.inr (.inr (.inl (some 0))), .inl x1, .inl x2] (wl K s) = some (some (.inl v), wl K s1) ∧ xN sc (d + 11) 193 [.inr (.inr (.inl (some 64))), .inl x1, .inl x2] (wl K s1) = some (some (.inl v), wl K s2) ∧ INVP SIM1 K s2 := by
  have hK := INVP_SH h
  have hn := SIM_n.1 (INVP_P h)
  have rr := INVP_RI h
  have q2 := r_republic (sc := sc) (d := d + 6) (s := s) (x1 := x1) (x2 := x2) hK
  obtain ⟨p, e2, qi⟩ : ok (Rrepublic s x1 x2) (fun p => QI s p.2) := republic_ok rr
  rw [e2] at q2
  obtain ⟨n, en, hn2⟩ := rr.1.1 0 (by omega)
  have I := INVP_q hP h (s1 := s) (fun _ _ => rfl) qi
  rcases rep_sel (x := x1) hn en hn2 with ⟨z, e⟩ | ⟨j, hj, hjn, ex, z, e⟩
  · have e3 : Rrepublic s x1 x2 = some (-1, s) := by
      unfold Rrepublic
      rw [isRep_n z]; rfl
    rw [e3] at e2; cases e2
    exact ⟨-1, s, s, c_repI_a (sc := sc) (d := d + 8) (s := s) (x := x1) (y := x2) hK e, q2, h⟩
  · have ep := republic_p rr hj ex z e2
    have re := rep_e (y := x2) (rep_q hn hj en hn2 hjn)
    have cc := c_repI_b (sc := sc) (d := d + 8) (s := s) (x := x1) (y := x2) (rp_j hK hj) hK e
    exact ⟨p.1, s, p.2, by rw [cc, ep, ← re], q2, I⟩
/-- what minister answers of the republic of n ministers told at o -/
def MNV (s : SG) (o n : Nat) (y z : Int32) : Int32 := if inI y 0 (nI n - 1) = 0 then -1 else if inI z 0 5 = 0 then (if inI z 10 21 = 0 then -1 else s 65 (o + (10 + 18 * y.toNatClampNeg + (z.toNatClampNeg - 4)))) else s 65 (o + (10 + 18 * y.toNatClampNeg + z.toNatClampNeg))
theorem has_e : ∀ V, V < 64 → ∀ m, m < 6 → hasI (nI V) (nI m) = if V.testBit m then 1 else 0 := by decide +kernel
theorem mni_e {s : SG} {r o : Nat} {y z : Int32} (h : REQ (fun e j => s (r + e) j) (fun j => s 65 (o + j))) : ∃ n, n ≤ 6 ∧ s 65 (o + 0) = nI n ∧ mniIb s r y z = MNV s o n y z := by
  obtain ⟨n, V, h1, ⟨h2, h3⟩, _, _, ⟨h6, _⟩, ⟨h8, h9⟩, h10, h11⟩ := h
  have h2 : s r 0 = nI n := h2
  have h6 : ∀ m c, m < n → c < 4 → s (r + (1 + c)) m = s 65 (o + (10 + 18 * m + c)) := h6
  have h8 : s r 8 = nI V := h8
  have h9 : ∀ m, m < 6 → s 65 (o + (14 + 18 * m)) = if V.testBit m then 1 else 0 := h9
  have h10 : ∀ m, m < 6 → s (r + 6) m = s 65 (o + (15 + 18 * m)) := fun m hm => (h10 m hm).1
  have h11 : ∀ m i, m < 6 → i < 12 → s (r + 5) (12 * m + i) = s 65 (o + (16 + 18 * m + i)) := fun m i hm hi => (h11 m i hm hi).1
  refine ⟨n, h1.1, h3, ?_⟩
  unfold mniIb MNV
  by_cases c0 : inI y 0 (nI n - 1) = 0
  · have : minI s r y = 0 := by
      unfold minI
      rw [h2]
      rcases (iz_m (by omega)).1 c0 with g | g
      · rw [if_pos g]
      · rw [if_pos g]; split <;> rfl
    rw [if_pos this, if_pos c0]
  · have : ¬ minI s r y = 0 := by
      unfold minI
      rw [h2, if_neg (fun g => c0 ((iz_m (by omega)).2 (Or.inl g))), if_neg (fun g => c0 ((iz_m (by omega)).2 (Or.inr g)))]; decide
    rw [if_neg this, if_neg c0]
    obtain ⟨m, em, hm⟩ := inI_sub (by omega) c0
    have hm6 : m < 6 := by omega
    rw [em, nI_clamp (by omega)]
    unfold mniIbW
    by_cases c1 : inI z 0 5 = 0
    · rw [if_pos c1]
      have n0 : ¬ z = 0 := fun e => by rw [e] at c1; exact absurd c1 (by decide)
      have n1 : ¬ z = 1 := fun e => by rw [e] at c1; exact absurd c1 (by decide)
      have n2 : ¬ z = 2 := fun e => by rw [e] at c1; exact absurd c1 (by decide)
      have n3 : ¬ z = 3 := fun e => by rw [e] at c1; exact absurd c1 (by decide)
      have n4 : ¬ z = 4 := fun e => by rw [e] at c1; exact absurd c1 (by decide)
      have n5 : ¬ z = 5 := fun e => by rw [e] at c1; exact absurd c1 (by decide)
      rw [if_neg n0, if_neg n1, if_neg n2, if_neg n3, if_neg n4, if_neg n5]
      by_cases c2 : inI z 10 21 = 0
      · rw [if_pos c2]
        unfold inI at c2
        by_cases g1 : z < 10
        · rw [if_pos g1]
        · rw [if_neg g1] at c2 ⊢
          by_cases g2 : 21 < z
          · rw [if_pos (show 22 ≤ z from ?_)]
            rw [Int32.lt_iff_toInt_lt] at g2
            rw [Int32.le_iff_toInt_le]
            have e1 : (21 : Int32).toInt = 21 := by decide
            have e2 : (22 : Int32).toInt = 22 := by decide
            omega
          · rw [if_neg g2] at c2; exact absurd c2 (by decide)
      · rw [if_neg c2]
        obtain ⟨i, ei, hi⟩ := between (lo := 10) (hi := 21) (by omega) c2 (by omega)
        rw [ei, nI_clamp (by omega)]
        have g1 : ¬ nI (10 + i) < 10 := by
          rw [Int32.lt_iff_toInt_lt, nI_toInt (by omega)]
          have : (10 : Int32).toInt = 10 := by decide
          omega
        have g2 : ¬ 22 ≤ nI (10 + i) := by
          rw [Int32.le_iff_toInt_le, nI_toInt (by omega)]
          have : (22 : Int32).toInt = 22 := by decide
          omega
        rw [if_neg g1, if_neg g2]
        unfold wanI
        rw [show nI (10 + i) - 10 = nI i from nI_subl (a := 10) (c := i)]
        have ix : nI m * 4 * 3 + nI i = nI (12 * m + i) := by
          show nI m * nI 4 * nI 3 + nI i = _
          rw [nI_mulx, nI_mulx, nI_add]; congr 1; omega
        rw [ix, cl_nI (by omega) (by decide), h11 m i hm6 (by omega)]
        congr 1; omega
    · rw [if_neg c1]
      obtain ⟨b, eb, hb⟩ := inI_nI (b := 5) (by decide) c1
      rcases (by omega : b = 0 ∨ b = 1 ∨ b = 2 ∨ b = 3 ∨ b = 4 ∨ b = 5) with rfl | rfl | rfl | rfl | rfl | rfl
      · subst eb
        rw [nI_clamp (by omega)]
        simp (decide := true) only [if_true, if_false]
        rw [cl_nI hm6 (by decide)]
        exact h6 m 0 (by omega) (by omega)
      · subst eb
        rw [nI_clamp (by omega)]
        simp (decide := true) only [if_true, if_false]
        rw [cl_nI hm6 (by decide)]
        exact h6 m 1 (by omega) (by omega)
      · subst eb
        rw [nI_clamp (by omega)]
        simp (decide := true) only [if_true, if_false]
        rw [cl_nI hm6 (by decide)]
        exact h6 m 2 (by omega) (by omega)
      · subst eb
        rw [nI_clamp (by omega)]
        simp (decide := true) only [if_true, if_false]
        rw [cl_nI hm6 (by decide)]
        exact h6 m 3 (by omega) (by omega)
      · subst eb
        rw [nI_clamp (by omega)]
        simp (decide := true) only [if_true, if_false]
        rw [h8, has_e V h1.2 m hm6, show o + (10 + 18 * m + 4) = o + (14 + 18 * m) by omega, h9 m hm6]
        cases V.testBit m <;> rfl
      · subst eb
        rw [nI_clamp (by omega)]
        simp (decide := true) only [if_true, if_false]
        rw [cl_nI hm6 (by decide), h10 m hm6]
        congr 1; omega
theorem minister_p {s : SG} {j n : Nat} {x y z : Int32} {p : Int32 × SG} (rr : RI s) (hj : j < 2) (hx : x = nI j) (hz : ¬ iofN s 0 x = 0) (en : s 65 (610 + 118 * j + 0) = nI n) (hn : n ≤ 6) (e : Rminister s x y z = some p) : p.1 = MNV s (610 + 118 * j) n y z := by
  obtain ⟨u, eu, u1, u65, u11⟩ := isRep_y rr hj hx hz
  have mn : RisMinister u.2 y = some (inI y 0 (nI n - 1)) := by
    unfold RisMinister Rministers
    rw [rof_v u11 (show (0 : Int32) = nI 0 from rfl) (by omega), u65, en]; rfl
  unfold Rminister at e
  rw [eu] at e
  replace e : (if u.1 = 0 then some (-1, u.2) else (RisMinister u.2 y).bind fun q2 => if q2 = 0 then some (-1, u.2) else if (inI z (0) (5)) = 0 then (if (inI z (10) (21)) = 0 then some (-1, u.2) else (RofMinister u.2 y ((6 + z) - 10)).bind fun q3 => some (q3, u.2)) else (RofMinister u.2 y z).bind fun q4 => some (q4, u.2)) = some p := e
  rw [if_neg (show ¬ u.1 = 0 by rw [u1]; decide), mn] at e
  replace e : (if inI y 0 (nI n - 1) = 0 then some (-1, u.2) else if (inI z (0) (5)) = 0 then (if (inI z (10) (21)) = 0 then some (-1, u.2) else (RofMinister u.2 y ((6 + z) - 10)).bind fun q3 => some (q3, u.2)) else (RofMinister u.2 y z).bind fun q4 => some (q4, u.2)) = some p := e
  unfold MNV
  by_cases c0 : inI y 0 (nI n - 1) = 0
  · rw [if_pos c0] at e ⊢; cases e; rfl
  · rw [if_neg c0] at e ⊢
    obtain ⟨m, em, hm⟩ := inI_sub (by omega) c0
    have om : ∀ (v : Int32) (b : Nat), v = nI b → b < 18 → RofMinister u.2 y v = some (s 65 (610 + 118 * j + (10 + 18 * m + b))) := by
      intro v b hv hb
      unfold RofMinister
      have ix : (10 + (18 * y)) + v = nI (10 + 18 * m + b) := by
        rw [em, hv]
        show (nI 10 + nI 18 * nI m) + nI b = _
        rw [nI_mulx, nI_add, nI_add]
      rw [rof_v u11 ix (by omega), u65]; rfl
    by_cases c1 : inI z 0 5 = 0
    · rw [if_pos c1] at e ⊢
      by_cases c2 : inI z 10 21 = 0
      · rw [if_pos c2] at e ⊢; cases e; rfl
      · rw [if_neg c2] at e ⊢
        obtain ⟨i, ei, hi⟩ := between (lo := 10) (hi := 21) (by omega) c2 (by omega)
        have ix : (6 : Int32) + z - 10 = nI (6 + i) := by
          rw [ei]
          show nI 6 + nI (10 + i) - nI 10 = _
          rw [nI_add, nI_subn (by omega)]; congr 1; omega
        rw [om _ (6 + i) ix (by omega)] at e
        cases e
        show s 65 (610 + 118 * j + (10 + 18 * m + (6 + i))) = _
        rw [em, ei, nI_clamp (by omega), nI_clamp (by omega)]; congr 1; omega
    · rw [if_neg c1] at e ⊢
      obtain ⟨b, eb, hb⟩ := inI_nI (b := 5) (by decide) c1
      rw [om z b eb (by omega)] at e
      cases e
      show s 65 (610 + 118 * j + (10 + 18 * m + b)) = _
      rw [em, eb, nI_clamp (by omega), nI_clamp (by omega)]
theorem CE_minister {K : List KD} {s : SG} {x1 x2 x3 : Int32} (hP : wLoc SIM1) (h : INVP SIM1 K s) : ∃ v s1 s2, xN sc (d + 11) 85 [.inr (.inr (.inl (some 0))), .inl x1, .inl x2, .inl x3] (wl K s) = some (some (.inl v), wl K s1) ∧ xN sc (d + 11) 194 [.inr (.inr (.inl (some 64))), .inl x1, .inl x2, .inl x3] (wl K s1) = some (some (.inl v), wl K s2) ∧ INVP SIM1 K s2 := by
  have hK := INVP_SH h
  have hn := SIM_n.1 (INVP_P h)
  have rr := INVP_RI h
  have q2 := r_minister (sc := sc) (d := d + 6) (s := s) (x1 := x1) (x2 := x2) (x3 := x3) hK
  obtain ⟨p, e2, qi⟩ : ok (Rminister s x1 x2 x3) (fun p => QI s p.2) := minister_ok rr
  rw [e2] at q2
  obtain ⟨n, en, hn2⟩ := rr.1.1 0 (by omega)
  have I := INVP_q hP h (s1 := s) (fun _ _ => rfl) qi
  rcases rep_sel (x := x1) hn en hn2 with ⟨z, e⟩ | ⟨j, hj, hjn, ex, z, e⟩
  · have e3 : Rminister s x1 x2 x3 = some (-1, s) := by
      unfold Rminister
      rw [isRep_n z]; rfl
    rw [e3] at e2; cases e2
    exact ⟨-1, s, s, c_mniI_a (sc := sc) (d := d + 8) (s := s) (x := x1) (y := x2) (z := x3) hK e, q2, h⟩
  · obtain ⟨n2, g1, g2, re⟩ := mni_e (y := x2) (z := x3) (rep_q hn hj en hn2 hjn)
    have ep := minister_p rr hj ex z g2 g1 e2
    have cc := c_mniI_b (sc := sc) (d := d + 8) (s := s) (x := x1) (y := x2) (z := x3) (rp_j hK hj) hK e
    exact ⟨p.1, s, p.2, by rw [cc, ep, ← re], q2, I⟩
end XTZ
end
section
section XUA
variable {sc : Nat × (Nat → Int32)} {d : Nat} {K : List KD} {r q t a B m : Nat} {w : EW}
/-! a republic at r on the class's side, at o on the reference's (state v): what is reckoned of it -/
def RQ (s : SG) (r : Nat) (v : SG) (o n V : Nat) : Prop := (v 64 11 = nI o ∧ o ≤ 728) ∧ (n ≤ 6 ∧ V < 64) ∧ (s r 0 = nI n ∧ v 65 (o + 0) = nI n) ∧ (∀ i, i < 5 → s r (9 + i) = v 65 (o + (1 + i))) ∧ (∀ k, k < 3 → s (r + 7) k = v 65 (o + (6 + k))) ∧ (∀ m c, m < n → c < 4 → s (r + (1 + c)) m = v 65 (o + (10 + 18 * m + c))) ∧ (s r 8 = nI V ∧ ∀ m, m < 6 → v 65 (o + (14 + 18 * m)) = if V.testBit m then 1 else 0) ∧ (∀ m, m < 6 → s (r + 6) m = v 65 (o + (15 + 18 * m))) ∧ ∀ m i, m < 6 → i < 12 → s (r + 5) (12 * m + i) = v 65 (o + (16 + 18 * m + i))
theorem RQ_of {s v : SG} {r o : Nat} (h : REQ (fun e j => s (r + e) j) (fun j => v 65 (o + j))) (h11 : v 64 11 = nI o) (ho : o ≤ 728) : ∃ n V, RQ s r v o n V := by
  obtain ⟨n, V, h1, h2, h4, h5, ⟨h6, _⟩, h8, h10, h11'⟩ := h
  exact ⟨n, V, ⟨h11, ho⟩, h1, h2, fun i hi => (h4 i hi).1, fun k hk => (h5 k hk).1, h6, h8, fun m hm => (h10 m hm).1, fun m i hm hi => (h11' m i hm hi).1⟩
/-- a told republic's numbers are small -/
def RB (v : SG) (o : Nat) : Prop := (∀ i, i < 5 → NB (v 65 (o + (1 + i))) 99) ∧ (∀ k, k < 3 → NB (v 65 (o + (6 + k))) 5) ∧ (∀ m c, m < 6 → c < 4 → NB (v 65 (o + (10 + 18 * m + c))) 27) ∧ ∀ m i, m < 6 → i < 12 → NB (v 65 (o + (16 + 18 * m + i))) 9
theorem RB_of {s v : SG} {o : Nat} (h : REQ (fun e j => s (r + e) j) (fun j => v 65 (o + j))) : RB v o := by
  obtain ⟨n, V, h1, h2, h4, h5, ⟨h6, h7⟩, h8, h10, h11⟩ := h
  exact ⟨fun i hi => (h4 i hi).2, fun k hk => (h5 k hk).2, h7, fun m i hm hi => (h11 m i hm hi).2⟩
theorem RB_v {v v2 : SG} {o : Nat} (h : RB v o) (e65 : v2 65 = v 65) : RB v2 o := by
  unfold RB
  rw [e65]; exact h
section RQS
variable {s v : SG} {o n V : Nat}
theorem rq_of {a : Nat} (h : RQ s r v o n V) : ofN v a = v 65 (o + a) := by
  have ho := h.1.2
  unfold ofN rh
  rw [h.1.1, nI_clamp (by omega)]
theorem rq_RH (h : RQ s r v o n V) : RH v := by
  have ho := h.1.2
  have e : rh v = o := by unfold rh; rw [h.1.1, nI_clamp (by omega)]
  exact ⟨by rw [e]; exact h.1.1, by rw [e]; exact ho⟩
theorem rq_n (h : RQ s r v o n V) : ofN v 0 = nI n ∧ msz v = n ∧ sz s r = n := by
  have hn := h.2.1.1
  have e : ofN v 0 = nI n := by rw [rq_of h]; exact h.2.2.1.2
  refine ⟨e, ?_, ?_⟩
  · unfold msz; rw [e, nI_clamp (by omega)]
  · unfold sz; rw [h.2.2.1.1, nI_clamp (by omega)]
theorem rq_MZ (h : RQ s r v o n V) : MZ v := by
  obtain ⟨e1, e2, _⟩ := rq_n h
  exact ⟨by rw [e2]; exact e1, by rw [e2]; exact h.2.1.1⟩
theorem abs_siz (x : Int32) : absI x = sizI x := by
  unfold absI sizI
  rw [Int32.zero_sub]
theorem rq_dis {m se : Nat} {day : Int32} (h : RQ s r v o n V) (hm : m < 6) (hse : se < 4) (e16 : v 64 16 = nI se) (e12 : v 64 12 = amtI day 0) (e13 : v 64 13 = amtI day 1) (e14 : v 64 14 = amtI day 2) : disI s r (nI m) (nI se) day 3 = ofoN v m := by
  have es : seN v = se := by unfold seN; rw [e16, nI_clamp (by omega)]
  have c : ∀ k, k < 3 → cl 72 (s (r + 5)) ((nI m * 4 + nI se) * 3 + nI k) = wnN v m se k := by
    intro k hk
    have ix : (nI m * 4 + nI se) * 3 + nI k = nI (12 * m + (3 * se + k)) := by
      show (nI m * nI 4 + nI se) * nI 3 + nI k = _
      rw [nI_mulx, nI_add, nI_mulx, nI_add]; congr 1; omega
    unfold wnN
    rw [ix, cl_nI (by omega) (by decide), h.2.2.2.2.2.2.2.2 m (3 * se + k) hm (by omega), rq_of h]
    congr 1; omega
  unfold ofoN
  rw [es, e12, e13, e14, ← c 0 (by omega), ← c 1 (by omega), ← c 2 (by omega)]
  show ((0 + absI (amtI day (nI 0) - cl 72 (s (r + 5)) ((nI m * 4 + nI se) * 3 + nI 0))) + absI (amtI day (nI 1) - cl 72 (s (r + 5)) ((nI m * 4 + nI se) * 3 + nI 1))) + absI (amtI day (nI 2) - cl 72 (s (r + 5)) ((nI m * 4 + nI se) * 3 + nI 2)) = _
  rw [abs_siz, abs_siz, abs_siz, Int32.zero_add]; rfl
theorem has_b {x : Int32} {b : Nat} (hb : b < 6) : hasI x (nI b) = 0 ↔ ¬ (x >>> (nI b &&& 31)) &&& 1 = 1 := by
  unfold hasI
  rw [if_neg (nI_pos (by omega)), if_neg (show ¬ (6 : Int32) ≤ nI b from nI_ge (b := 6) hb (by decide))]
  by_cases c : (x >>> (nI b &&& 31)) &&& 1 = 1
  · rw [if_pos c]; exact ⟨fun g => absurd g (by decide), fun g => absurd c g⟩
  · rw [if_neg c]; exact ⟨fun _ => c, fun _ => rfl⟩
theorem rq_pat {m b : Nat} (h : RQ s r v o n V) (hm : m < n) (hb : b < 6) (e15 : v 64 15 = nI b) : patI s r (nI m) (nI b) = yieN v m := by
  have hn := h.2.1.1
  have f1 : cl 6 (s (r + 2)) (nI m) = ofN v (10 + 18 * m + 1) := by
    rw [cl_nI (by omega) (by decide), rq_of h]
    exact h.2.2.2.2.2.1 m 1 hm (by omega)
  have f2 : cl 6 (s (r + 6)) (nI m) = ofN v (10 + 18 * m + 5) := by
    rw [cl_nI (by omega) (by decide), rq_of h, h.2.2.2.2.2.2.2.1 m (by omega)]
    congr 1; omega
  have f3 : s r 10 = ofN v 2 := by
    rw [rq_of h]; exact h.2.2.2.1 1 (by omega)
  unfold patI yieN
  rw [f1, f2, f3, e15]
  by_cases c : (ofN v (10 + 18 * m + 5) >>> (nI b &&& 31)) &&& 1 = 1
  · rw [if_pos c, if_neg (fun g => ((has_b hb).1 g) c)]
  · rw [if_neg c, if_pos ((has_b hb).2 c)]
theorem rq_agr {b se : Nat} {day : Int32} (h : RQ s r v o n V) (hb : b < 6) (hse : se < 4) (e15 : v 64 15 = nI b) (e16 : v 64 16 = nI se) (e12 : v 64 12 = amtI day 0) (e13 : v 64 13 = amtI day 1) (e14 : v 64 14 = amtI day 2) : agrT s r (nI b) (nI se) day = agmT v := by
  obtain ⟨_, e2, e3⟩ := rq_n h
  have hn := h.2.1.1
  have st : ∀ k, k ≤ n → agrI s r (nI b) (nI se) day k = agmN v k := by
    intro k
    induction k with
    | zero => intro _; rfl
    | succ k ih =>
      intro hk
      rw [agrI, agmN, ih (by omega), rq_pat h (by omega) hb e15, rq_dis h (by omega) hse e16 e12 e13 e14]
      unfold agsN
      rw [e15]
      by_cases c1 : nI k = nI b
      · rw [if_pos c1, if_pos c1, if_neg (show ¬ (1 : Int32) = 0 by decide)]
      · rw [if_neg c1, if_neg c1]
        by_cases c2 : yieN v k < ofoN v k
        · rw [if_pos c2, if_pos c2, if_pos rfl, or_0]
        · rw [if_neg c2, if_neg c2, if_neg (show ¬ (1 : Int32) = 0 by decide)]
  unfold agrT agmT
  rw [e2, e3, st n (Nat.le_refl n)]
theorem rq_vot {x : Int32} (h : RQ s r v o n V) : votT s r x = vomT v x := by
  obtain ⟨_, e2, e3⟩ := rq_n h
  have hn := h.2.1.1
  have st : ∀ k, k ≤ n → votI s r x k = vomN v x k := by
    intro k
    induction k with
    | zero => intro _; rfl
    | succ k ih =>
      intro hk
      have f : cl 6 (s (r + 1)) (nI k) = ofN v (10 + 18 * k + 0) := by
        rw [cl_nI (by omega) (by decide), rq_of h]
        exact h.2.2.2.2.2.1 k 0 (by omega) (by omega)
      rw [votI, vomN, ih (by omega), f]
      by_cases c : (x >>> (nI k &&& 31)) &&& 1 = 1
      · rw [if_pos c, if_neg (fun g => ((has_b (by omega)).1 g) c)]
      · rw [if_neg c, if_pos ((has_b (by omega)).2 c), Int32.add_zero]
  unfold votT vomT
  rw [e2, e3, st n (Nat.le_refl n)]
theorem vet_s : ∀ V, V < 64 → ∀ k, k < 6 → (nI (V % 2 ^ k) ||| (if V.testBit k then 1 <<< (nI k &&& 31) else (0 : Int32))) = nI (V % 2 ^ (k + 1)) := by decide +kernel
theorem vet_t : ∀ V, V < 64 → ∀ n, n ≤ 6 → (nI (V % 2 ^ n) &&& (((1 : Int32) <<< (nI n &&& 31)) - (1 : Int32))) = ((((1 : Int32) <<< (nI n &&& 31)) - (1 : Int32)) &&& nI V) := by decide +kernel
theorem rq_vet (h : RQ s r v o n V) : vetT v = nI (V % 2 ^ n) := by
  obtain ⟨_, e2, _⟩ := rq_n h
  have hn := h.2.1.1
  have st : ∀ k, k ≤ n → vetN v k = nI (V % 2 ^ k) := by
    intro k
    induction k with
    | zero => intro _; rw [Nat.pow_zero, Nat.mod_one]; rfl
    | succ k ih =>
      intro hk
      have f : ofN v (10 + 18 * k + 4) = if V.testBit k then 1 else 0 := by
        rw [rq_of h, ← h.2.2.2.2.2.2.1.2 k (by omega)]
        congr 1; omega
      rw [vetN, ih (by omega), f, ← vet_s V h.2.1.2 k (by omega)]
      cases V.testBit k <;> rfl
  unfold vetT
  rw [e2, st n (Nat.le_refl n)]
theorem rq_all (h : RQ s r v o n V) : allI s r = (1 <<< (nI n &&& 31)) - 1 := by
  unfold allI
  rw [h.2.2.1.1]
theorem rq_pas {x : Int32} (h : RQ s r v o n V) (e18 : v 64 18 = allI s r) : pasI s r (allI s r) x = pasN v x := by
  have hn := h.2.1.1
  have f9 : s r 9 = ofN v 1 := by rw [rq_of h]; exact h.2.2.2.1 0 (by omega)
  have fv : vetT v &&& allI s r = allI s r &&& s r 8 := by
    rw [rq_vet h, rq_all h, h.2.2.2.2.2.2.1.1]
    exact vet_t V h.2.1.2 n hn
  unfold pasI pasN
  rw [e18, rq_vot h, Int32.and_comm x (allI s r), f9, fv]
end RQS
/-! a motion -/
theorem begins_v {s : SG} {o : Nat} (h11 : s 64 11 = nI o) (ho : o ≤ 728) : ok (Rbegins s) (fun u => u 65 = s 65 ∧ u 64 11 = nI o ∧ u 64 18 = (1 <<< (s 65 (o + 0) &&& 31)) - 1 ∧ u 64 20 = s 65 (o + 3) ∧ u 64 21 = s 65 (o + 4) ∧ u 64 22 = s 65 (o + 5)) := by
  have e : rh s = o := by unfold rh; rw [h11, nI_clamp (by omega)]
  have hr : RH s := ⟨by rw [e]; exact h11, by rw [e]; exact ho⟩
  have f : ∀ (u : SG) (a : Nat), u 64 11 = s 64 11 → u 65 = s 65 → ofN u a = s 65 (o + a) := by
    intro u a h1 h2
    unfold ofN rh
    rw [h1, h2, h11, nI_clamp (by omega)]
  have hF := xF_ge
  unfold Rbegins
  refine ok_be (q_ministers hr) ?_
  refine ok_be (q_of (a := 3) (RH_of (by simp (decide := true) only [up_b]) hr) rfl (by decide)) ?_
  refine ok_be (q_of (a := 4) (RH_of (by simp (decide := true) only [up_b]) hr) rfl (by decide)) ?_
  refine ok_be (q_of (a := 5) (RH_of (by simp (decide := true) only [up_b]) hr) rfl (by decide)) ?_
  refine ok_w (begins71 3 0 xF _ (RH_of (by simp (decide := true) only [up_b]) hr) rfl (by omega)) ?_
  intro u hu
  obtain ⟨h1, h2⟩ := hu
  rw [f s 0 rfl rfl] at h2
  rw [f _ 3 (by simp (decide := true) only [up_b]) (by simp (decide := true) only [up_c]), f _ 4 (by simp (decide := true) only [up_b]) (by simp (decide := true) only [up_c]), f _ 5 (by simp (decide := true) only [up_b]) (by simp (decide := true) only [up_c])] at h2
  refine ⟨?_, ?_, ?_, ?_, ?_, ?_⟩
  · rw [h1.1]; simp (decide := true) only [up_c]
  · rw [h2]; simp (decide := true) only [up_b]; exact h11
  · rw [h2]; simp (decide := true) only [up_b, up_a]
  · rw [h2]; simp (decide := true) only [up_b, up_a]
  · rw [h2]; simp (decide := true) only [up_b, up_a]
  · rw [h2]; simp (decide := true) only [up_b, up_a]
theorem isRep_v {s : SG} {x : Int32} {j : Nat} (hj : j < 2) (hx : x = nI j) (hz : ¬ iofN s 0 x = 0) : ok (RisRepublic s x) (fun p => p.1 = 1 ∧ p.2 65 = s 65 ∧ p.2 64 11 = nI (610 + 118 * j) ∧ p.2 64 18 = (1 <<< (s 65 (610 + 118 * j + 0) &&& 31)) - 1 ∧ p.2 64 20 = s 65 (610 + 118 * j + 3) ∧ p.2 64 21 = s 65 (610 + 118 * j + 4) ∧ p.2 64 22 = s 65 (610 + 118 * j + 5)) := by
  unfold RisRepublic
  rw [q_isOf (x := 0) (a := 0) rfl (by decide)]
  show ok (if iofN s 0 x = 0 then _ else _) _
  rw [if_neg hz, hx, place0]
  have e65 : up s 64 11 (nI (610 + 118 * j)) 65 = s 65 := up_n (by decide)
  refine ok_b (begins_v (s := up s 64 11 (nI (610 + 118 * j))) (o := 610 + 118 * j) up_a (by omega)) (fun u hu => ok_s ⟨rfl, ?_, hu.2.1, ?_, ?_, ?_, ?_⟩)
  · show u 65 = _
    rw [hu.1, e65]
  · show u 64 18 = _
    rw [hu.2.2.1, e65]
  · show u 64 20 = _
    rw [hu.2.2.2.1, e65]
  · show u 64 21 = _
    rw [hu.2.2.2.2.1, e65]
  · show u 64 22 = _
    rw [hu.2.2.2.2.2, e65]
theorem iss_e {x : Int32} : issI x = 0 ↔ inI x 0 3 = 0 := by
  have q : 4 ≤ x ↔ 3 < x := by
    rw [Int32.le_iff_toInt_le, Int32.lt_iff_toInt_lt]
    have e1 : (4 : Int32).toInt = 4 := by decide
    have e2 : (3 : Int32).toInt = 3 := by decide
    omega
  unfold issI inI
  by_cases c : x < 0
  · rw [if_pos c, if_pos c]
  · rw [if_neg c, if_neg c]
    by_cases c2 : 4 ≤ x
    · rw [if_pos c2, if_pos (q.1 c2)]
    · rw [if_neg c2, if_neg (fun g => c2 (q.2 g))]
theorem isa_e {x : Int32} : isaI x = inI x 0 9 := by
  have q : 10 ≤ x ↔ 9 < x := by
    rw [Int32.le_iff_toInt_le, Int32.lt_iff_toInt_lt]
    have e1 : (10 : Int32).toInt = 10 := by decide
    have e2 : (9 : Int32).toInt = 9 := by decide
    omega
  unfold isaI inI
  by_cases c : x < 0
  · rw [if_pos c, if_pos c]
  · rw [if_neg c, if_neg c]
    by_cases c2 : 10 ≤ x
    · rw [if_pos c2, if_pos (q.1 c2)]
    · rw [if_neg c2, if_neg (fun g => c2 (q.2 g))]
/-- the day of three amounts -/
theorem day_e {a b c : Int32} : (dayI a b c = -1 ↔ RareAmounts a b c = 0) ∧ (¬ RareAmounts a b c = 0 → dayI a b c = (100 * a + 10 * b) + c) := by
  unfold dayI RareAmounts
  rw [isa_e, isa_e, isa_e]
  by_cases c1 : inI a 0 9 = 0
  · rw [if_pos c1, if_pos c1]; exact ⟨⟨fun _ => rfl, fun _ => rfl⟩, fun g => absurd rfl g⟩
  · rw [if_neg c1, if_neg c1]
    by_cases c2 : inI b 0 9 = 0
    · rw [if_pos c2, if_pos c2]; exact ⟨⟨fun _ => rfl, fun _ => rfl⟩, fun g => absurd rfl g⟩
    · rw [if_neg c2, if_neg c2]
      by_cases c3 : inI c 0 9 = 0
      · rw [if_pos c3, if_pos c3]; exact ⟨⟨fun _ => rfl, fun _ => rfl⟩, fun g => absurd rfl g⟩
      · rw [if_neg c3, if_neg c3]
        obtain ⟨i, ei, hi⟩ := inI_nI (b := 9) (by decide) c1
        obtain ⟨j, ej, hj⟩ := inI_nI (b := 9) (by decide) c2
        obtain ⟨k, ek, hk⟩ := inI_nI (b := 9) (by decide) c3
        have e1 : numI a b c = nI (100 * i + 10 * j + k) := by
          unfold numI
          rw [ei, ej, ek]
          show (nI i * nI 10 + nI j) * nI 10 + nI k = _
          rw [nI_mulx, nI_add, nI_mulx, nI_add]; congr 1; omega
        have e2 : (100 * a + 10 * b) + c = nI (100 * i + 10 * j + k) := by
          rw [ei, ej, ek]
          show (nI 100 * nI i + nI 10 * nI j) + nI k = _
          rw [nI_mulx, nI_mulx, nI_add, nI_add]
        rw [e1, e2]
        exact ⟨⟨fun g => absurd g (nI_n1 (by omega)), fun g => absurd g (by decide)⟩, fun _ => rfl⟩
/-- what the reference notes of a motion -/
theorem talks_e {u : SG} {x : Int32} : RtalksOf u x = up (up (up u 64 12 (amtI x 0)) 64 13 (amtI x 1)) 64 14 (amtI x 2) := rfl
/-- both look for a motion: none, or a republic told with a minister, a season, a day -/
theorem mot_v {s : SG} {x1 x2 x3 x4 x5 x6 : Int32} (hn : SIMn s) (rr : RI s) : (movF s x1 x2 x3 (dayI x4 x5 x6) = none ∧ pc (RisMotion s x1 x2 x3 x4 x5 x6) (fun p => p.1 = 0)) ∨ ∃ j m se, j < 2 ∧ m < 6 ∧ se < 4 ∧ x2 = nI m ∧ x3 = nI se ∧ movF s x1 x2 x3 (dayI x4 x5 x6) = some (6 + 8 * j) ∧ pc (RisMotion s x1 x2 x3 x4 x5 x6) (fun p => p.1 = 1 ∧ ∃ n V, m < n ∧ RQ s (6 + 8 * j) p.2 (610 + 118 * j) n V ∧ p.2 64 15 = x2 ∧ p.2 64 16 = x3 ∧ p.2 64 12 = amtI (dayI x4 x5 x6) 0 ∧ p.2 64 13 = amtI (dayI x4 x5 x6) 1 ∧ p.2 64 14 = amtI (dayI x4 x5 x6) 2 ∧ p.2 64 18 = allI s (6 + 8 * j) ∧ p.2 64 20 = s (6 + 8 * j) 11 ∧ p.2 64 21 = s (6 + 8 * j) 12 ∧ p.2 64 22 = s (6 + 8 * j) 13 ∧ RB p.2 (610 + 118 * j)) := by
  obtain ⟨n0, en, hn2⟩ := rr.1.1 0 (by omega)
  rcases rep_sel (x := x1) hn en hn2 with ⟨z, e⟩ | ⟨j, hj, hjn, ex, z, e⟩
  · refine Or.inl ⟨by unfold movF; rw [e], ?_⟩
    unfold RisMotion
    rw [isRep_n z]
    exact pc_s rfl
  · obtain ⟨u, eu, u1, u65, u11, u18, u20, u21, u22⟩ := isRep_v hj ex z
    have rq0 := rep_q hn hj en hn2 hjn
    rw [← u65] at rq0
    have rb0 := RB_of rq0
    obtain ⟨n, V, rq⟩ := RQ_of rq0 u11 (by omega)
    have nn6 := rq.2.1.1
    have mn : RisMinister u.2 x2 = some (inI x2 0 (nI n - 1)) := by
      unfold RisMinister Rministers
      rw [rof_v u11 (show (0 : Int32) = nI 0 from rfl) (by omega), rq.2.2.1.2]; rfl
    have mi : minI s (6 + 8 * j) x2 = 0 ↔ inI x2 0 (nI n - 1) = 0 := by
      rw [iz_m (by omega)]
      unfold minI
      rw [rq.2.2.1.1]
      by_cases c : x2 < 0
      · rw [if_pos c]; exact ⟨fun _ => Or.inl c, fun _ => rfl⟩
      · rw [if_neg c]
        by_cases c2 : nI n ≤ x2
        · rw [if_pos c2]; exact ⟨fun _ => Or.inr c2, fun _ => rfl⟩
        · rw [if_neg c2]; exact ⟨fun g => absurd g (by decide), fun g => g.elim (fun g => absurd g c) (fun g => absurd g c2)⟩
    have mf : movF s x1 x2 x3 (dayI x4 x5 x6) = movI s (6 + 8 * j) x2 x3 (dayI x4 x5 x6) := by unfold movF; rw [e]
    have em : RisMotion s x1 x2 x3 x4 x5 x6 = (if inI x2 0 (nI n - 1) = 0 then some (0, u.2) else if (inI x3 (0) (3)) = 0 then some (0, u.2) else if (RareAmounts x4 x5 x6) = 0 then some (0, u.2) else some (1, RtalksOf (up (up u.2 64 15 x2) 64 16 x3) (((100 * x4) + (10 * x5)) + x6))) := by
      unfold RisMotion
      rw [eu]
      show (if u.1 = 0 then some (0, u.2) else (RisMinister u.2 x2).bind fun q2 => if q2 = 0 then some (0, u.2) else if (inI x3 (0) (3)) = 0 then some (0, u.2) else if (RareAmounts x4 x5 x6) = 0 then some (0, u.2) else some (1, RtalksOf (up (up u.2 64 15 x2) 64 16 x3) (((100 * x4) + (10 * x5)) + x6))) = _
      rw [if_neg (show ¬ u.1 = 0 by rw [u1]; decide), mn]; rfl
    rw [mf, em]
    unfold movI
    by_cases c1 : inI x2 0 (nI n - 1) = 0
    · rw [if_pos (mi.2 c1), if_pos c1]; exact Or.inl ⟨rfl, pc_s rfl⟩
    · rw [if_neg (fun g => c1 (mi.1 g)), if_neg c1]
      by_cases c2 : inI x3 0 3 = 0
      · rw [if_pos (iss_e.2 c2), if_pos c2]; exact Or.inl ⟨rfl, pc_s rfl⟩
      · rw [if_neg (fun g => c2 (iss_e.1 g)), if_neg c2]
        by_cases c3 : RareAmounts x4 x5 x6 = 0
        · rw [if_pos (day_e.1.2 c3), if_pos c3]; exact Or.inl ⟨rfl, pc_s rfl⟩
        · rw [if_neg (fun g => c3 (day_e.1.1 g)), if_neg c3]
          obtain ⟨m, em2, hm⟩ := inI_sub (by omega) c1
          obtain ⟨se, es, hse⟩ := inI_nI (b := 3) (by decide) c2
          refine Or.inr ⟨j, m, se, hj, by omega, by omega, em2, es, rfl, pc_s ⟨rfl, n, V, hm, ?_, ?_, ?_, ?_, ?_, ?_, ?_, ?_, ?_, ?_, RB_v rb0 (by show RtalksOf (up (up u.2 64 15 x2) 64 16 x3) (((100 * x4) + (10 * x5)) + x6) 65 = u.2 65; rw [talks_e, up_n (by decide), up_n (by decide), up_n (by decide), up_n (by decide), up_n (by decide)])⟩⟩
          · obtain ⟨g1, g2, g3, g4, g5, g6, g7, g8, g9⟩ := rq
            have q65 : RtalksOf (up (up u.2 64 15 x2) 64 16 x3) (((100 * x4) + (10 * x5)) + x6) 65 = u.2 65 := by
              rw [talks_e, up_n (by decide), up_n (by decide), up_n (by decide), up_n (by decide), up_n (by decide)]
            unfold RQ
            dsimp only
            rw [q65]
            exact ⟨⟨by rw [talks_e, up_bn (by decide), up_bn (by decide), up_bn (by decide), up_bn (by decide), up_bn (by decide)]; exact g1.1, g1.2⟩, g2, g3, g4, g5, g6, g7, g8, g9⟩
          · show RtalksOf (up (up u.2 64 15 x2) 64 16 x3) (((100 * x4) + (10 * x5)) + x6) 64 15 = x2
            rw [talks_e, up_bn (by decide), up_bn (by decide), up_bn (by decide), up_bn (by decide), up_a]
          · show RtalksOf (up (up u.2 64 15 x2) 64 16 x3) (((100 * x4) + (10 * x5)) + x6) 64 16 = x3
            rw [talks_e, up_bn (by decide), up_bn (by decide), up_bn (by decide), up_a]
          · show RtalksOf (up (up u.2 64 15 x2) 64 16 x3) (((100 * x4) + (10 * x5)) + x6) 64 12 = _
            rw [talks_e, up_bn (by decide), up_bn (by decide), up_a, day_e.2 c3]
          · show RtalksOf (up (up u.2 64 15 x2) 64 16 x3) (((100 * x4) + (10 * x5)) + x6) 64 13 = _
            rw [talks_e, up_bn (by decide), up_a, day_e.2 c3]
          · show RtalksOf (up (up u.2 64 15 x2) 64 16 x3) (((100 * x4) + (10 * x5)) + x6) 64 14 = _
            rw [talks_e, up_a, day_e.2 c3]
          · show RtalksOf (up (up u.2 64 15 x2) 64 16 x3) (((100 * x4) + (10 * x5)) + x6) 64 18 = _
            rw [talks_e, up_bn (by decide), up_bn (by decide), up_bn (by decide), up_bn (by decide), up_bn (by decide), u18, rq_all rq, ← u65, rq.2.2.1.2]
          · show RtalksOf (up (up u.2 64 15 x2) 64 16 x3) (((100 * x4) + (10 * x5)) + x6) 64 20 = _
            rw [talks_e, up_bn (by decide), up_bn (by decide), up_bn (by decide), up_bn (by decide), up_bn (by decide), u20, ← u65]
            exact (rq.2.2.2.1 2 (by omega)).symm
          · show RtalksOf (up (up u.2 64 15 x2) 64 16 x3) (((100 * x4) + (10 * x5)) + x6) 64 21 = _
            rw [talks_e, up_bn (by decide), up_bn (by decide), up_bn (by decide), up_bn (by decide), up_bn (by decide), u21, ← u65]
            exact (rq.2.2.2.1 3 (by omega)).symm
          · show RtalksOf (up (up u.2 64 15 x2) 64 16 x3) (((100 * x4) + (10 * x5)) + x6) 64 22 = _
            rw [talks_e, up_bn (by decide), up_bn (by decide), up_bn (by decide), up_bn (by decide), up_bn (by decide), u22, ← u65]
            exact (rq.2.2.2.1 4 (by omega)).symm
theorem CE_off {s : SG} {x1 x2 x3 x4 x5 x6 : Int32} (hP : wLoc SIM1) (h : INVP SIM1 K s) : ∃ v s1 s2, xN sc (d + 11) 92 [.inr (.inr (.inl (some 0))), .inl x1, .inl x2, .inl x3, .inl x4, .inl x5, .inl x6] (wl K s) = some (some (.inl v), wl K s1) ∧ xN sc (d + 11) 207 [.inr (.inr (.inl (some 64))), .inl x1, .inl x2, .inl x3, .inl x4, .inl x5, .inl x6] (wl K s1) = some (some (.inl v), wl K s2) ∧ INVP SIM1 K s2 := by
  have hK := INVP_SH h
  have hn := SIM_n.1 (INVP_P h)
  have rr := INVP_RI h
  have q2 := r_off (sc := sc) (d := d + 5) (s := s) (x1 := x1) (x2 := x2) (x3 := x3) (x4 := x4) (x5 := x5) (x6 := x6) hK
  obtain ⟨p, e2, qi⟩ : ok (Roff s x1 x2 x3 x4 x5 x6) (fun p => QI s p.2) := off_ok rr
  rw [e2] at q2
  have I := INVP_q hP h (s1 := s) (fun _ _ => rfl) qi
  obtain ⟨w, ew, _⟩ := isMotion_ok (x := x1) (b := x2) (se := x3) (u := x4) (v := x5) (w := x6) rr
  unfold Roff at e2
  rw [ew] at e2
  replace e2 : (if w.1 = 0 then some (-1, w.2) else (RoffOf w.2 x2).bind fun q2 => some (q2, w.2)) = some p := e2
  rcases mot_v (x1 := x1) (x2 := x2) (x3 := x3) (x4 := x4) (x5 := x5) (x6 := x6) hn rr with ⟨c1, c2⟩ | ⟨j, m, se, hj, hm, hse, em, es, c1, c2⟩
  · rw [if_pos (c2 w ew)] at e2
    cases e2
    exact ⟨-1, s, w.2, c_offI_a (sc := sc) (d := d + 7) (s := s) (x := x1) (y := x2) (se := x3) (u := x4) (v := x5) (z := x6) hK (TB_TV (INVP_TB h)) c1, q2, I⟩
  · obtain ⟨w1, n, V, hmn, rq, e15, e16, e12, e13, e14, e18, _⟩ := c2 w ew
    rw [if_neg (by rw [w1]; decide), q_offOf (rq_RH rq) ⟨by unfold seN; rw [e16, es, nI_clamp (by omega)], by unfold seN; rw [e16, es, nI_clamp (by omega)]; exact hse⟩ em hm] at e2
    cases e2
    have cc := c_offI_b (sc := sc) (d := d + 7) (s := s) (x := x1) (y := x2) (se := x3) (u := x4) (v := x5) (z := x6) (rp_j hK hj) hK (TB_TV (INVP_TB h)) c1
    refine ⟨ofoN w.2 m, s, w.2, ?_, q2, I⟩
    rw [cc]
    unfold offIb
    rw [em, es, rq_dis rq hm hse (by rw [e16, es]) e12 e13 e14]
theorem CE_vote {s : SG} {x1 x2 x3 x4 x5 x6 x7 : Int32} (hP : wLoc SIM1) (h : INVP SIM1 K s) : ∃ v s1 s2, xN sc (d + 11) 93 [.inr (.inr (.inl (some 0))), .inl x1, .inl x2, .inl x3, .inl x4, .inl x5, .inl x6, .inl x7] (wl K s) = some (some (.inl v), wl K s1) ∧ xN sc (d + 11) 208 [.inr (.inr (.inl (some 64))), .inl x1, .inl x2, .inl x3, .inl x4, .inl x5, .inl x6, .inl x7] (wl K s1) = some (some (.inl v), wl K s2) ∧ INVP SIM1 K s2 := by
  have hK := INVP_SH h
  have hn := SIM_n.1 (INVP_P h)
  have rr := INVP_RI h
  have q2 := r_vote (sc := sc) (d := d + 4) (s := s) (x1 := x1) (x2 := x2) (x3 := x3) (x4 := x4) (x5 := x5) (x6 := x6) (x7 := x7) hK
  obtain ⟨p, e2, qi⟩ : ok (Rvote s x1 x2 x3 x4 x5 x6 x7) (fun p => QI s p.2) := vote_ok rr
  rw [e2] at q2
  have I := INVP_q hP h (s1 := s) (fun _ _ => rfl) qi
  obtain ⟨w, ew, _⟩ := isMotion_ok (x := x1) (b := x2) (se := x3) (u := x4) (v := x5) (w := x6) rr
  unfold Rvote at e2
  rw [ew] at e2
  replace e2 : (if w.1 = 0 then some (-1, w.2) else if x7 = 0 then ((Ragreeing w.2).bind fun q2 => some (q2, w.2)) else (Ragreeing w.2).bind fun q3 => (RisPassed w.2 q3).bind fun q4 => if q4 = 0 then some (0, w.2) else some (1, w.2)) = some p := e2
  rcases mot_v (x1 := x1) (x2 := x2) (x3 := x3) (x4 := x4) (x5 := x5) (x6 := x6) hn rr with ⟨c1, c2⟩ | ⟨j, m, se, hj, hm, hse, em, es, c1, c2⟩
  · rw [if_pos (c2 w ew)] at e2
    cases e2
    exact ⟨-1, s, w.2, c_votq_a (sc := sc) (d := d + 7) (s := s) (x := x1) (y := x2) (se := x3) (u := x4) (v := x5) (z := x6) (g := x7) hK (TB_TV (INVP_TB h)) c1, q2, I⟩
  · obtain ⟨w1, n, V, hmn, rq, e15, e16, e12, e13, e14, e18, _⟩ := c2 w ew
    have hRH := rq_RH rq
    have hSE : SE w.2 := ⟨by unfold seN; rw [e16, es, nI_clamp (by omega)], by unfold seN; rw [e16, es, nI_clamp (by omega)]; exact hse⟩
    have hMZ := rq_MZ rq
    have ag := rq_agr rq hm hse (by rw [e15, em]) (by rw [e16, es]) e12 e13 e14
    rw [if_neg (by rw [w1]; decide), q_agreeing hRH hSE hMZ] at e2
    replace e2 : (if x7 = 0 then some (agmT w.2, w.2) else (RisPassed w.2 (agmT w.2)).bind fun q4 => if q4 = 0 then some (0, w.2) else some (1, w.2)) = some p := e2
    have zr : SZ s (6 + 8 * j) := by
      obtain ⟨_, _, e3⟩ := rq_n rq
      exact ⟨by rw [e3]; exact rq.2.2.1.1, by rw [e3]; exact rq.2.1.1⟩
    have cc := c_votq_b (sc := sc) (d := d + 7) (s := s) (x := x1) (y := x2) (se := x3) (u := x4) (v := x5) (z := x6) (g := x7) (rp_j hK hj) hK (TB_TV (INVP_TB h)) c1 zr
    have ep : votqb s (6 + 8 * j) x2 x3 x4 x5 x6 x7 = p.1 ∧ p.2 = p.2 := by
      refine ⟨?_, rfl⟩
      unfold votqb
      rw [em, es, ag]
      by_cases g : x7 = 0
      · rw [if_pos g] at e2 ⊢
        cases e2; rfl
      · rw [if_neg g, q_isPassed hRH hMZ] at e2
        replace e2 : (if pasN w.2 (agmT w.2) = 0 then some (0, w.2) else some (1, w.2)) = some p := e2
        rw [if_neg g, rq_pas rq e18]
        by_cases g2 : pasN w.2 (agmT w.2) = 0
        · rw [if_pos g2] at e2 ⊢; cases e2; rfl
        · rw [if_neg g2] at e2 ⊢; cases e2; rfl
    exact ⟨p.1, s, p.2, by rw [cc, ep.1], q2, I⟩
end XUA
end
section
section XUB
variable {sc : Nat × (Nat → Int32)} {d : Nat} {K : List KD} {r q t a B m : Nat} {w : EW}
/-! bargains on both sides -/
section BG
variable {s v : SG} {o n V P : Nat} {y1 y2 y3 : Int32}
/-- the shares at P, on the class's side at q -/
def SHR (s : SG) (q : Nat) (v : SG) (P : Nat) : Prop := P ≤ 1436 ∧ ∀ m, m < 6 → s (q + 1) (5 * m) = v 65 (P + m)
theorem par_0 {m : Nat} (hm : m < 6) : parI s q (nI m) 0 = s (q + 1) (5 * m) := by
  have ix : nI m * 5 + 0 = nI (5 * m) := by
    show nI m * nI 5 + nI 0 = _
    rw [nI_mulx, nI_add]; congr 1; omega
  unfold parI
  rw [ix, cl_nI (by omega) (by decide)]
theorem bg_all (h : RQ s r v o n V) : Reverybody v = some (allI s r) := by
  unfold Reverybody
  rw [q_ministers (rq_RH h), (rq_n h).1, rq_all h]; rfl
theorem bg_eno {x : Int32} (h : RQ s r v o n V) : RisEnough v x = some (if votT s r x < s r 9 then 0 else 1) := by
  have f9 : s r 9 = ofN v 1 := by rw [rq_of h]; exact h.2.2.2.1 0 (by omega)
  unfold RisEnough
  rw [q_votesOf (rq_RH h) (rq_MZ h), ← rq_vot h]
  show ((Rof v 1).bind fun q2 => if votT s r x < q2 then some 0 else some 1) = _
  rw [q_of (x := 1) (a := 1) (rq_RH h) rfl (by decide), ← f9]
  show (if votT s r x < s r 9 then some 0 else some 1) = _
  split <;> rfl
theorem bg_84 {j : Nat} {y5 y6 : Int32} {Q : Int32 × SG → Prop} (h : RQ s r v o n V) (sh : SHR s q v P) : ∀ (i m z : Nat) (y8 : Int32), m + i = n → (∀ z, pc ((RisEnough v (nI j)).bind fun q2 => if q2 = 0 then (Rbargain_R z).1 v y1 y2 y3 (nI P) y5 y6 (nI j + 1) else if shaIL s q i m (nI j) y8 < 100 then (if y5 = 0 then (Rbargain_R z).1 v y1 y2 y3 (nI P) (y5 + 1) (nI j) (nI j + 1) else (Rbargain_R z).1 v y1 y2 y3 (nI P) (y5 + 1) y6 (nI j + 1)) else (Rbargain_R z).1 v y1 y2 y3 (nI P) y5 y6 (nI j + 1)) Q) → pc (Rbargain_84 (Rbargain_R z).1 (Rbargain_R z).2 v y1 y2 y3 (nI P) y5 y6 (nI j) y8 (nI m)) Q := by
  have hn := h.2.1.1
  have hP := sh.1
  intro i
  induction i with
  | zero =>
    intro m z y8 hm g
    unfold Rbargain_84
    rw [q_ministers (rq_RH h), (rq_n h).1]
    show pc (if nI n ≤ nI m then _ else _) Q
    rw [if_pos (nI_le2 (by omega) (by omega))]
    exact g z
  | succ i ih =>
    intro m z y8 hm g
    unfold Rbargain_84
    rw [q_ministers (rq_RH h), (rq_n h).1]
    show pc (if nI n ≤ nI m then _ else _) Q
    rw [if_neg (nI_ge (by omega) (by omega))]
    have go : ∀ y, (∀ z, pc ((RisEnough v (nI j)).bind fun q2 => if q2 = 0 then (Rbargain_R z).1 v y1 y2 y3 (nI P) y5 y6 (nI j + 1) else if shaIL s q i (m + 1) (nI j) y < 100 then (if y5 = 0 then (Rbargain_R z).1 v y1 y2 y3 (nI P) (y5 + 1) (nI j) (nI j + 1) else (Rbargain_R z).1 v y1 y2 y3 (nI P) (y5 + 1) y6 (nI j + 1)) else (Rbargain_R z).1 v y1 y2 y3 (nI P) y5 y6 (nI j + 1)) Q) → pc ((Rbargain_R z).2 v y1 y2 y3 (nI P) y5 y6 (nI j) y (nI m + 1)) Q := by
      intro y gy
      cases z with
      | zero => exact fun _ e => nomatch e
      | succ z =>
        show pc (Rbargain_84 (Rbargain_R z).1 (Rbargain_R z).2 v y1 y2 y3 (nI P) y5 y6 (nI j) y (nI m + 1)) Q
        rw [← nI_succ]
        exact ih (m + 1) z y (by omega) gy
    have e84 : shaIL s q (i + 1) m (nI j) y8 = if hasI (nI j) (nI m) = 0 then shaIL s q i (m + 1) (nI j) y8 else shaIL s q i (m + 1) (nI j) (y8 + parI s q (nI m) 0) := by rw [shaIL]
    rw [e84] at g
    by_cases c : (nI j >>> (nI m &&& 31)) &&& 1 = 1
    · rw [if_neg (fun k => ((has_b (by omega)).1 k) c)] at g
      rw [if_pos c]
      refine pc_rdv (e := P + m) (nI_add P m) (by omega) (by decide) ?_
      rw [← sh.2 m (by omega), ← par_0 (s := s) (q := q) (by omega)]
      exact go _ g
    · rw [if_pos ((has_b (by omega)).2 c)] at g
      rw [if_neg c, Int32.add_zero]
      exact go _ g
theorem bg_69 (h : RQ s r v o n V) (zr : SZ s r) (sh : SHR s q v P) : ∀ (i j c z : Nat) (y6 : Int32), j + i = al s r + 1 → c ≤ j → (c = 0 → y6 = -1) → pc (Rbargain_69 (Rbargain_R z).1 (Rbargain_R z).2 v y1 y2 y3 (nI P) (nI c) y6 (nI j)) (fun p => p.1 = if y3 = 10 then (if c = 0 then levIL s r q i j 0 0 else y6) else levIL s r q i j 1 (nI c)) := by
  have hal : al s r ≤ 63 := by
    unfold al
    have h6 := zr.2
    have : 2 ^ sz s r ≤ 2 ^ 6 := Nat.pow_le_pow_right (by decide) h6
    omega
  obtain ⟨_, _, e3⟩ := rq_n h
  intro i
  induction i with
  | zero =>
    intro j c z y6 hj hc h6
    unfold Rbargain_69
    rw [bg_all h]
    show pc (if allI s r < nI j then _ else _) _
    rw [if_pos (al_gt zr hj)]
    by_cases k : y3 = 10
    · rw [if_pos k]
      refine pc_s ?_
      rw [if_pos k]
      by_cases k2 : c = 0
      · rw [if_pos k2, levIL, if_pos rfl]; exact h6 k2
      · rw [if_neg k2]
    · rw [if_neg k]
      refine pc_s ?_
      rw [if_neg k, levIL, if_neg (by decide)]
  | succ i ih =>
    intro j c z y6 hj hc h6
    unfold Rbargain_69
    rw [bg_all h]
    show pc (if allI s r < nI j then _ else _) _
    rw [if_neg (al_le zr hj)]
    refine bg_84 (q := q) h sh n 0 z 0 (by omega) (fun z => ?_)
    rw [bg_eno h]
    have esh : shaIL s q n 0 (nI j) 0 = shaI s r q (nI j) := by unfold shaI; rw [e3]
    rw [esh]
    have e0 : levIL s r q (i + 1) j 0 0 = if votT s r (nI j) < s r 9 then levIL s r q i (j + 1) 0 0 else if 100 ≤ shaI s r q (nI j) then levIL s r q i (j + 1) 0 0 else nI j := by rw [levIL, if_pos (show (0 : Int32) = 0 from rfl)]
    have e1 : levIL s r q (i + 1) j 1 (nI c) = if votT s r (nI j) < s r 9 then levIL s r q i (j + 1) 1 (nI c) else if 100 ≤ shaI s r q (nI j) then levIL s r q i (j + 1) 1 (nI c) else levIL s r q i (j + 1) 1 (nI c + 1) := by rw [levIL, if_neg (show ¬ (1 : Int32) = 0 by decide)]
    rw [e0, e1]
    have go : ∀ (c2 : Nat) (y6 : Int32) (Q : Int32 × SG → Prop), c2 ≤ j + 1 → (c2 = 0 → y6 = -1) → (∀ p : Int32 × SG, (p.1 = if y3 = 10 then (if c2 = 0 then levIL s r q i (j + 1) 0 0 else y6) else levIL s r q i (j + 1) 1 (nI c2)) → Q p) → pc ((Rbargain_R z).1 v y1 y2 y3 (nI P) (nI c2) y6 (nI j + 1)) Q := by
      intro c2 y6 Q k1 k2 k3
      cases z with
      | zero => exact fun _ e => nomatch e
      | succ z =>
        show pc (Rbargain_69 (Rbargain_R z).1 (Rbargain_R z).2 v y1 y2 y3 (nI P) (nI c2) y6 (nI j + 1)) Q
        rw [← nI_succ]
        exact pc_w (ih (j + 1) c2 z y6 (by omega) k1 k2) k3
    by_cases k1 : votT s r (nI j) < s r 9
    · rw [if_pos k1, if_pos k1, if_pos k1]
      rw [Option.bind_some, if_pos rfl]
      exact go c y6 _ (by omega) h6 (fun p hp => hp)
    · rw [if_neg k1, if_neg k1, if_neg k1]
      rw [Option.bind_some, if_neg (show ¬ (1 : Int32) = 0 by decide)]
      by_cases k2 : 100 ≤ shaI s r q (nI j)
      · rw [if_neg (Int32.not_lt.mpr k2), if_pos k2, if_pos k2]
        exact go c y6 _ (by omega) h6 (fun p hp => hp)
      · rw [if_pos (Int32.not_le.mp k2), if_neg k2, if_neg k2, ← nI_succ]
        by_cases k3 : c = 0
        · rw [if_pos (show nI c = 0 by rw [k3]; rfl), if_pos k3]
          refine go (c + 1) (nI j) _ (by omega) (fun g => absurd g (by omega)) (fun p hp => ?_)
          rw [if_neg (show ¬ c + 1 = 0 by omega)] at hp
          exact hp
        · rw [if_neg (show ¬ nI c = 0 from fun g => k3 (nI_inj (b := 0) (by omega) (by decide) g)), if_neg k3]
          refine go (c + 1) y6 _ (by omega) (fun g => absurd g (by omega)) (fun p hp => ?_)
          rw [if_neg (show ¬ c + 1 = 0 by omega)] at hp
          exact hp
end BG
theorem inI_w {x : Int32} {hi : Nat} (hh : hi ≤ 1000) : inI x 0 (nI hi) = 0 ↔ (x < 0 ∨ nI (hi + 1) ≤ x) := by
  have q : nI hi < x ↔ nI (hi + 1) ≤ x := by
    rw [Int32.lt_iff_toInt_lt, Int32.le_iff_toInt_le, nI_toInt (by omega), nI_toInt (by omega)]; omega
  unfold inI
  by_cases c : x < 0
  · rw [if_pos c]; exact ⟨fun _ => Or.inl c, fun _ => rfl⟩
  · rw [if_neg c]
    by_cases c2 : nI hi < x
    · rw [if_pos c2]; exact ⟨fun _ => Or.inr (q.1 c2), fun _ => rfl⟩
    · rw [if_neg c2]
      exact ⟨fun g => absurd g (by decide), fun g => g.elim (fun g => absurd g c) (fun g => absurd (q.2 g) c2)⟩
theorem CE_bargain {s : SG} {x1 x2 x3 : Int32} (hP : wLoc SIM1) (h : INVP SIM1 K s) : ∃ v s1 s2, xN sc (d + 11) 118 [.inr (.inr (.inl (some 0))), .inl x1, .inl x2, .inl x3] (wl K s) = some (some (.inl v), wl K s1) ∧ xN sc (d + 11) 251 [.inr (.inr (.inl (some 64))), .inl x1, .inl x2, .inl x3] (wl K s1) = some (some (.inl v), wl K s2) ∧ INVP SIM1 K s2 := by
  have hK := INVP_SH h
  have hn := SIM_n.1 (INVP_P h)
  have rr := INVP_RI h
  have q2 := r_bargain (sc := sc) (d := d + 6) (s := s) (x1 := x1) (x2 := x2) (x3 := x3) hK
  obtain ⟨p, e2, qi⟩ : ok (Rbargain s x1 x2 x3) (fun p => QI s p.2) := bargain_ok rr
  rw [e2] at q2
  have I := INVP_q hP h (s1 := s) (fun _ _ => rfl) qi
  obtain ⟨n0, en0, hn0⟩ := rr.1.1 0 (by omega)
  obtain ⟨n5, en5, hn5⟩ := rr.1.1 5 (by omega)
  have RB : Rbargain s x1 x2 x3 = (if iofN s 5 x2 = 0 then some (-2, s) else (RisRepublic s x1).bind fun p2 => if p2.1 = 0 then some (-2, p2.2) else if (inI x3 (0) (5)) = 0 then (if (inI x3 (10) (11)) = 0 then some (-2, p2.2) else Rbargain_69 (Rbargain_R xF).1 (Rbargain_R xF).2 p2.2 x1 x2 x3 (RplaceOf (5) x2) (0) (-1) (0)) else (rdI p2.2 65 5768 ((RplaceOf (5) x2) + x3)).bind fun g3 => some (g3, p2.2)) := by
    unfold Rbargain
    rw [q_isOf (x := 5) (a := 5) rfl (by decide)]; rfl
  rcases rep_sel (x := x1) hn en0 hn0 with ⟨z0, e0⟩ | ⟨j, hj, hjn, ex, z0, e0⟩
  · have ep : p.1 = -2 := by
      rw [RB] at e2
      by_cases c : iofN s 5 x2 = 0
      · rw [if_pos c] at e2; cases e2; rfl
      · rw [if_neg c, isRep_n z0] at e2
        rw [Option.bind_some, if_pos rfl] at e2; cases e2; rfl
    exact ⟨p.1, s, p.2, by rw [ep]; exact c_bgnI_a (sc := sc) (d := d + 8) (s := s) (x := x1) (y := x2) (v := x3) hK e0, q2, I⟩
  · rcases row_sel (k := 4) (x := x2) hn (by omega) en5 hn5 with ⟨z5, e5⟩ | ⟨j5, hj5, hjn5, ex5, z5, e5⟩
    · have ep : p.1 = -2 := by
        rw [RB, if_pos z5] at e2; cases e2; rfl
      exact ⟨p.1, s, p.2, by rw [ep]; exact c_bgnI_b (sc := sc) (d := d + 8) (s := s) (x := x1) (y := x2) (v := x3) (rp_j hK hj) hK e0 e5, q2, I⟩
    · obtain ⟨u, eu, u1, u65, u11, u18, u20, u21, u22⟩ := isRep_v hj ex z0
      have rq0 := rep_q hn hj en0 hn0 hjn
      rw [← u65] at rq0
      obtain ⟨n, V, rq⟩ := RQ_of rq0 u11 (by omega)
      have zr : SZ s (6 + 8 * j) := by
        obtain ⟨_, _, e3⟩ := rq_n rq
        exact ⟨by rw [e3]; exact rq.2.2.1.1, by rw [e3]; exact rq.2.1.1⟩
      have sh : SHR s (22 + 2 * (4 * 2 + j5)) u.2 (1430 + 6 * j5) := by
        have w : BEQ (fun e i => s (1 + (CPK 5 j5 + e)) i) (fun i => s 65 (1430 + 6 * j5 + i)) := hn.2.2.2 5 j5 n5 (by omega) hj5 en5 hn5 hjn5
        refine ⟨by omega, fun m hm => ?_⟩
        have this : s (1 + (CPK 5 j5 + 1)) (5 * m) = s 65 (1430 + 6 * j5 + m) := w m hm
        rw [u65, ← this]
        show s (22 + 2 * (4 * 2 + j5) + 1) (5 * m) = s (1 + (21 + 2 * (4 * 2 + j5) + 1)) (5 * m)
        congr 1; omega
      have cc := c_bgnI_c (sc := sc) (d := d + 6) (s := s) (x := x1) (y := x2) (v := x3) (rp_j hK hj) (RW2 hK (4 * 2 + j5) (by omega)) hK e0 e5 zr
      have e2' := e2
      rw [RB, if_neg z5, eu] at e2'
      replace e2' : (if u.1 = 0 then some (-2, u.2) else if (inI x3 (0) (5)) = 0 then (if (inI x3 (10) (11)) = 0 then some (-2, u.2) else Rbargain_69 (Rbargain_R xF).1 (Rbargain_R xF).2 u.2 x1 x2 x3 (RplaceOf (5) x2) (0) (-1) (0)) else (rdI u.2 65 5768 ((RplaceOf (5) x2) + x3)).bind fun g3 => some (g3, u.2)) = some p := e2'
      rw [if_neg (show ¬ u.1 = 0 by rw [u1]; decide), ex5, place5] at e2'
      refine ⟨p.1, s, p.2, ?_, q2, I⟩
      rw [cc]
      have fin : bgnIc s (6 + 8 * j) (22 + 2 * (4 * 2 + j5)) x3 = p.1 := by
        unfold bgnIc
        by_cases c1 : inI x3 0 5 = 0
        · rw [if_pos c1] at e2'
          have W : (if x3 < 0 then bgnIcW s (6 + 8 * j) (22 + 2 * (4 * 2 + j5)) x3 else if 6 ≤ x3 then bgnIcW s (6 + 8 * j) (22 + 2 * (4 * 2 + j5)) x3 else parI s (22 + 2 * (4 * 2 + j5)) x3 0) = bgnIcW s (6 + 8 * j) (22 + 2 * (4 * 2 + j5)) x3 := by
            rcases (inI_w (hi := 5) (by omega)).1 c1 with g | g
            · rw [if_pos g]
            · rw [if_pos (show 6 ≤ x3 from g)]; split <;> rfl
          rw [W]
          by_cases c2 : inI x3 10 11 = 0
          · rw [if_pos c2] at e2'
            cases e2'
            have n10 : ¬ x3 = 10 := fun g => by rw [g] at c2; exact absurd c2 (by decide)
            have n11 : ¬ x3 = 11 := fun g => by rw [g] at c2; exact absurd c2 (by decide)
            unfold bgnIcW
            rw [if_neg n10, if_neg n11]
          · rw [if_neg c2] at e2'
            have L := bg_69 (y1 := x1) (y2 := nI j5) (y3 := x3) rq zr sh (al s (6 + 8 * j) + 1) 0 0 xF (-1) (by omega) (Nat.le_refl 0) (fun _ => rfl) p e2'
            obtain ⟨i, ei, hi⟩ := between (lo := 10) (hi := 11) (by omega) c2 (by omega)
            unfold bgnIcW levI
            rcases (by omega : i = 0 ∨ i = 1) with rfl | rfl
            · have e10 : x3 = 10 := ei
              rw [if_pos e10, if_pos rfl] at L
              rw [if_pos e10]; exact L.symm
            · have e11 : x3 = 11 := ei
              have n10 : ¬ x3 = 10 := by rw [e11]; decide
              rw [if_neg n10] at L
              rw [if_neg n10, if_pos e11]; exact L.symm
        · rw [if_neg c1] at e2'
          obtain ⟨b, eb, hb⟩ := inI_nI (b := 5) (by decide) c1
          rw [eb, if_neg (nI_pos (by omega)), if_neg (show ¬ (6 : Int32) ≤ nI b from nI_ge (b := 6) (by omega) (by decide)), par_0 (by omega), sh.2 b (by omega)]
          rw [eb, nI_add, rd_nI (e := 1430 + 6 * j5 + b) rfl (by omega) (by decide)] at e2'
          cases e2'; rfl
      rw [fin]
end XUB
end
