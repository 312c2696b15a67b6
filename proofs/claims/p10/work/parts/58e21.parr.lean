section XTY
variable {sc : Nat × (Nat → Int32)} {d : Nat} {K : List KD} {r q t a B m : Nat} {w : EW}
/-! queries of what is told -/
theorem iz_m {n : Nat} {x : Int32} (hn : n ≤ 1000) : inI x 0 (nI n - 1) = 0 ↔ (x < 0 ∨ nI n ≤ x) := by
  have q : nI n - 1 < x ↔ nI n ≤ x := by
    by_cases z : n = 0
    · subst z
      rw [Int32.lt_iff_toInt_lt, Int32.le_iff_toInt_le]
      have e1 : (nI 0 - 1 : Int32).toInt = -1 := by decide
      have e2 : (nI 0 : Int32).toInt = 0 := by decide
      omega
    · rw [show nI n - 1 = nI (n - 1) from nI_subn (a := n) (b := 1) (by omega), Int32.lt_iff_toInt_lt, Int32.le_iff_toInt_le, nI_toInt (by omega), nI_toInt (by omega)]
      omega
  unfold inI
  by_cases c : x < 0
  · rw [if_pos c]; exact ⟨fun _ => Or.inl c, fun _ => rfl⟩
  · rw [if_neg c]
    by_cases c2 : nI n - 1 < x
    · rw [if_pos c2]; exact ⟨fun _ => Or.inr (q.1 c2), fun _ => rfl⟩
    · rw [if_neg c2]
      exact ⟨fun h => absurd h (by decide), fun h => h.elim (fun g => absurd g c) (fun g => absurd (q.2 g) c2)⟩
/-- which rows a query means -/
theorem row_sel {s : SG} {k n : Nat} {x : Int32} (h : SIMn s) (hk : k < 5) (en : s 65 (k + 1) = nI n) (hn : n ≤ 2) : (iofN s (k + 1) x = 0 ∧ rowO s (nI (k + 1)) x = none) ∨ ∃ j, j < 2 ∧ j < n ∧ x = nI j ∧ ¬ iofN s (k + 1) x = 0 ∧ rowO s (nI (k + 1)) x = some (22 + 2 * (k * 2 + j)) := by
  have e3 : cl 6 (s 3) (nI (k + 1)) = nI n := by rw [cl_nI (by omega) (by decide), h.2.2.1 (k + 1) (by omega), en]
  unfold iofN rowO
  rw [en, e3]
  by_cases c : inI x 0 (nI n - 1) = 0
  · refine Or.inl ⟨c, ?_⟩
    rcases (iz_m (by omega)).1 c with g | g
    · rw [if_pos g]
    · rw [if_pos g]; split <;> rfl
  · obtain ⟨j, ej, hj⟩ := inI_sub (by omega) c
    refine Or.inr ⟨j, by omega, hj, ej, c, ?_⟩
    rw [if_neg (fun g => c ((iz_m (by omega)).2 (Or.inl g))), if_neg (fun g => c ((iz_m (by omega)).2 (Or.inr g))), ej]
    exact rkp_k hk (by omega)
theorem rep_sel {s : SG} {n : Nat} {x : Int32} (h : SIMn s) (en : s 65 0 = nI n) (hn : n ≤ 2) : (iofN s 0 x = 0 ∧ repO s x = none) ∨ ∃ j, j < 2 ∧ j < n ∧ x = nI j ∧ ¬ iofN s 0 x = 0 ∧ repO s x = some (6 + 8 * j) := by
  have e3 : cl 6 (s 3) 0 = nI n := by rw [show cl 6 (s 3) 0 = s 3 0 from cl_nI (j := 0) (by decide) (by decide), h.2.2.1 0 (by omega), en]
  unfold iofN repO
  rw [en, e3]
  by_cases c : inI x 0 (nI n - 1) = 0
  · refine Or.inl ⟨c, ?_⟩
    rcases (iz_m (by omega)).1 c with g | g
    · rw [if_pos g]
    · rw [if_pos g]; split <;> rfl
  · obtain ⟨j, ej, hj⟩ := inI_sub (by omega) c
    refine Or.inr ⟨j, by omega, hj, ej, c, ?_⟩
    rw [if_neg (fun g => c ((iz_m (by omega)).2 (Or.inl g))), if_neg (fun g => c ((iz_m (by omega)).2 (Or.inr g))), ej]
    exact kep_k (by omega)
/-- the value that a query of rows has -/
def RV (s : SG) (o c n : Nat) (k v : Int32) : Int32 := if k = -1 then (if v = 0 then nI n else -2) else if inI k 0 (nI n - 1) = 0 then -2 else if inI v 0 (nI (c - 1)) = 0 then -2 else s 65 (o + (1 + c * k.toNatClampNeg + v.toNatClampNeg))
theorem rto_e {s : SG} {q o c N n : Nat} {k v : Int32} (hc : 1 ≤ c) (hc5 : c ≤ 5) (hN : N ≤ 40) (hn : n ≤ 40) (h : WEQ c N (fun e j => s (q + e) j) (fun j => s 65 (o + j))) (en : s 65 o = nI n) : n ≤ N ∧ rtoI s q k v (nI c) = RV s o c n k v := by
  obtain ⟨n2, h1, h2, h3, h4, _⟩ := h
  have h3 : s 65 o = nI n2 := h3
  have q0 : s q 0 = nI n := by
    have : s q 0 = nI n2 := h2
    rw [this, ← h3, en]
  have : n2 = n := nI_inj (by omega) (by omega) (h3.symm.trans en)
  subst this
  refine ⟨h1, ?_⟩
  unfold rtoI RV
  have vc : v < nI c ↔ ¬ nI (c - 1) < v := by
    rw [Int32.lt_iff_toInt_lt, Int32.lt_iff_toInt_lt, nI_toInt (by omega), nI_toInt (by omega)]; omega
  have iv : inI v 0 (nI (c - 1)) = 0 ↔ (v < 0 ∨ ¬ v < nI c) := by
    unfold inI
    by_cases g : v < 0
    · rw [if_pos g]; exact ⟨fun _ => Or.inl g, fun _ => rfl⟩
    · rw [if_neg g]
      by_cases g2 : nI (c - 1) < v
      · rw [if_pos g2]; exact ⟨fun _ => Or.inr (fun z => (vc.1 z) g2), fun _ => rfl⟩
      · rw [if_neg g2]
        exact ⟨fun z => absurd z (by decide), fun z => z.elim (fun z => absurd z g) (fun z => absurd (vc.2 g2) z)⟩
  have out : inI v 0 (nI (c - 1)) = 0 → (if k = -1 then (if v = 0 then nI n2 else -2) else if inI k 0 (nI n2 - 1) = 0 then -2 else if inI v 0 (nI (c - 1)) = 0 then -2 else s 65 (o + (1 + c * k.toNatClampNeg + v.toNatClampNeg))) = -2 := by
    intro z
    have v0 : ¬ v = 0 := by
      intro e
      rcases iv.1 z with g | g
      · rw [e] at g; exact absurd g (by decide)
      · rw [e] at g; exact g (nI_lt2 (a := 0) (by omega) (by omega))
    rw [if_neg v0, if_pos z]
    repeat' split
    all_goals rfl
  by_cases v0 : v < 0
  · rw [if_pos v0, out (iv.2 (Or.inl v0))]
  rw [if_neg v0]
  by_cases v1 : v < nI c
  · rw [if_pos v1]
    have iv0 : ¬ inI v 0 (nI (c - 1)) = 0 := fun z => (iv.1 z).elim v0 (fun g => g v1)
    by_cases ck : k = -1
    · rw [if_pos ck, if_pos ck, q0]
    · rw [if_neg ck, if_neg ck, q0, if_neg iv0]
      by_cases k0 : k < 0
      · rw [if_pos k0, if_pos ((iz_m (by omega)).2 (Or.inl k0))]
      · rw [if_neg k0]
        by_cases k1 : nI n2 ≤ k
        · rw [if_pos k1, if_pos ((iz_m (by omega)).2 (Or.inr k1))]
        · have ik : ¬ inI k 0 (nI n2 - 1) = 0 := fun z => ((iz_m (by omega)).1 z).elim k0 k1
          rw [if_neg k1, if_neg ik]
          obtain ⟨a, ea, ha⟩ := inI_sub (by omega) ik
          obtain ⟨b, hb, eb⟩ := nat_of v0 v1 (by omega)
          rw [ea, eb, nI_clamp (by omega), nI_clamp (by omega)]
          unfold parI
          rw [show (5 : Int32) = nI 5 from rfl, nI_mulx, nI_add, cl_nI (by omega) (by decide), Nat.mul_comm a 5]
          exact h4 a b ha hb
  · rw [if_neg v1, out (iv.2 (Or.inr v1))]
theorem order_p {s : SG} {n j : Nat} {x1 x2 x3 : Int32} (hx : x1 = nI j) (hj : j < 2) (hz : ¬ iofN s 1 x1 = 0) (en : s 65 (846 + 41 * j) = nI n) (hn : n ≤ 8) : Rorder s x1 x2 x3 = some (RV s (846 + 41 * j) 5 n x2 x3, up s 64 17 (nI (846 + 41 * j))) := by
  have e64 : up s 64 17 (nI (846 + 41 * j)) 64 17 = nI (846 + 41 * j) := up_a
  have e65 : up s 64 17 (nI (846 + 41 * j)) 65 = s 65 := up_n (by decide)
  have e1 : rdI (up s 64 17 (nI (846 + 41 * j))) 65 5768 (nI (846 + 41 * j)) = some (nI n) := by
    rw [rd_nI (e := 846 + 41 * j) rfl (by omega) (by decide), e65, en]
  have e2 : ∀ a b, a < n → b < 5 → RorderOf (up s 64 17 (nI (846 + 41 * j))) (nI a) (nI b) = some (s 65 (846 + 41 * j + (1 + 5 * a + b))) := by
    intro a b ha hb
    have i : ((nI (846 + 41 * j) + 1) + (5 * nI a)) + nI b = nI (846 + 41 * j + (1 + 5 * a + b)) := by
      show ((nI (846 + 41 * j) + nI 1) + (nI 5 * nI a)) + nI b = _
      rw [nI_mulx, nI_add, nI_add, nI_add]; congr 1; omega
    unfold RorderOf
    rw [e64, i, rd_nI (e := 846 + 41 * j + (1 + 5 * a + b)) rfl (by omega) (by decide), e65]; rfl
  unfold Rorder RareOrders
  rw [q_isOf (x := 1) (a := 1) rfl (by decide)]
  show ((if iofN s 1 x1 = 0 then some ((0 : Int32), s) else some (1, up s 64 17 (RplaceOf 1 x1))).bind _) = _
  rw [if_neg hz, hx, place1]
  rw [Option.bind_some, if_neg (show ¬ (1 : Int32) = 0 by decide)]
  show (if x2 = -1 then (if x3 = 0 then ((rdI (up s 64 17 (nI (846 + 41 * j))) 65 5768 (up s 64 17 (nI (846 + 41 * j)) 64 17)).bind fun g2 => some (g2, up s 64 17 (nI (846 + 41 * j)))) else some (-2, up s 64 17 (nI (846 + 41 * j)))) else (rdI (up s 64 17 (nI (846 + 41 * j))) 65 5768 (up s 64 17 (nI (846 + 41 * j)) 64 17)).bind fun g3 => if (inI x2 (0) (g3 - 1)) = 0 then some (-2, up s 64 17 (nI (846 + 41 * j))) else if (inI x3 (0) (4)) = 0 then some (-2, up s 64 17 (nI (846 + 41 * j))) else (RorderOf (up s 64 17 (nI (846 + 41 * j))) x2 x3).bind fun q4 => some (q4, up s 64 17 (nI (846 + 41 * j)))) = _
  rw [e64]
  rw [e1]
  unfold RV
  by_cases ck : x2 = -1
  · rw [if_pos ck, if_pos ck]
    by_cases cv : x3 = 0
    · rw [if_pos cv, if_pos cv]; rfl
    · rw [if_neg cv, if_neg cv]
  · rw [if_neg ck, if_neg ck]
    show (if inI x2 0 (nI n - 1) = 0 then _ else _) = _
    by_cases c1 : inI x2 0 (nI n - 1) = 0
    · rw [if_pos c1, if_pos c1]
    · rw [if_neg c1, if_neg c1]
      by_cases c2 : inI x3 0 4 = 0
      · rw [if_pos c2, if_pos (show inI x3 0 (nI (5 - 1)) = 0 from c2)]
      · rw [if_neg c2, if_neg (show ¬ inI x3 0 (nI (5 - 1)) = 0 from c2)]
        obtain ⟨a, ea, ha⟩ := inI_sub (by omega) c1
        obtain ⟨b, eb, hb⟩ := inI_nI (b := 4) (by decide) c2
        rw [ea, eb, nI_clamp (by omega), nI_clamp (by omega), e2 a b ha (by omega)]; rfl
theorem CE_order {K : List KD} {s : SG} {x1 x2 x3 : Int32} (hP : wLoc SIM1) (h : INVP SIM1 K s) : ∃ v s1 s2, xN sc (d + 11) 86 [.inr (.inr (.inl (some 0))), .inl x1, .inl x2, .inl x3] (wl K s) = some (some (.inl v), wl K s1) ∧ xN sc (d + 11) 211 [.inr (.inr (.inl (some 64))), .inl x1, .inl x2, .inl x3] (wl K s1) = some (some (.inl v), wl K s2) ∧ INVP SIM1 K s2 := by
  have hK := INVP_SH h
  have hn := SIM_n.1 (INVP_P h)
  have r := INVP_RI h
  have q2 := r_order (sc := sc) (d := d + 7) (s := s) (x1 := x1) (x2 := x2) (x3 := x3) hK
  obtain ⟨p, e2, qi⟩ : ok (Rorder s x1 x2 x3) (fun p => QI s p.2) := order_ok r
  rw [e2] at q2
  obtain ⟨n, en, hn2⟩ := r.1.1 1 (by omega)
  have I := INVP_q hP h (s1 := s) (fun _ _ => rfl) qi
  rcases row_sel (k := 0) (x := x1) hn (by omega) en hn2 with ⟨z, e⟩ | ⟨j, hj, hjn, ex, z, e⟩
  · have e3 : Rorder s x1 x2 x3 = some (-2, s) := by
      unfold Rorder RareOrders
      rw [q_isOf (x := 1) (a := 1) rfl (by decide)]
      show ((if iofN s 1 x1 = 0 then some ((0 : Int32), s) else some (1, up s 64 17 (RplaceOf 1 x1))).bind _) = _
      rw [if_pos z]; rfl
    rw [e3] at e2; cases e2
    exact ⟨-2, s, s, c_ordI_a (sc := sc) (d := d + 8) (s := s) (x := x1) (k := x2) (v := x3) hK e, q2, h⟩
  · have w := hn.2.2.2 1 j n (by omega) hj en hn2 hjn
    have w2 : WEQ 5 8 (fun e j2 => s (22 + 2 * (0 * 2 + j) + e) j2) (fun j2 => s 65 (846 + 41 * j + j2)) := by
      have g : ∀ e, 1 + (CPK 1 j + e) = 22 + 2 * (0 * 2 + j) + e := fun e => by
        show 1 + (21 + 2 * (0 * 2 + j) + e) = _
        omega
      have w : WEQ 5 8 (fun e j2 => s (1 + (CPK 1 j + e)) j2) (fun j2 => s 65 (846 + 41 * j + j2)) := w
      simp only [g] at w
      exact w
    have w3 := w2
    obtain ⟨n3, g1, _, g3, _⟩ := w3
    have g3 : s 65 (846 + 41 * j) = nI n3 := g3
    have rt := (rto_e (k := x2) (v := x3) (by omega) (by omega) (by omega) (show n3 ≤ 40 by omega) w2 g3).2
    have e3 := order_p (x2 := x2) (x3 := x3) ex hj z g3 g1
    rw [e3] at e2
    have ep : p.1 = RV s (846 + 41 * j) 5 n3 x2 x3 := by cases e2; rfl
    have cc := c_ordI_b (sc := sc) (d := d + 7) (s := s) (x := x1) (k := x2) (v := x3) (RW2 hK (0 * 2 + j) (by omega)) hK e
    refine ⟨p.1, s, p.2, ?_, q2, I⟩
    rw [cc, ep, ← rt]; rfl
theorem deed_p {s : SG} {n j : Nat} {x1 x2 x3 : Int32} (hx : x1 = nI j) (hj : j < 2) (hz : ¬ iofN s 2 x1 = 0) (en : s 65 (928 + 201 * j) = nI n) (hn : n ≤ 40) : Rdeed s x1 x2 x3 = some (RV s (928 + 201 * j) 5 n x2 x3, up s 64 29 (nI (928 + 201 * j))) := by
  have e64 : up s 64 29 (nI (928 + 201 * j)) 64 29 = nI (928 + 201 * j) := up_a
  have e65 : up s 64 29 (nI (928 + 201 * j)) 65 = s 65 := up_n (by decide)
  have e1 : Rdeeds (up s 64 29 (nI (928 + 201 * j))) = some (nI n) := by
    unfold Rdeeds
    rw [e64, rd_nI (e := 928 + 201 * j) rfl (by omega) (by decide), e65, en]; rfl
  have e2 : ∀ a b, a < n → b < 5 → RdeedOf (up s 64 29 (nI (928 + 201 * j))) (nI a) (nI b) = some (s 65 (928 + 201 * j + (1 + 5 * a + b))) := by
    intro a b ha hb
    have i : ((nI (928 + 201 * j) + 1) + (5 * nI a)) + nI b = nI (928 + 201 * j + (1 + 5 * a + b)) := by
      show ((nI (928 + 201 * j) + nI 1) + (nI 5 * nI a)) + nI b = _
      rw [nI_mulx, nI_add, nI_add, nI_add]; congr 1; omega
    unfold RdeedOf
    rw [e64, i, rd_nI (e := 928 + 201 * j + (1 + 5 * a + b)) rfl (by omega) (by decide), e65]; rfl
  unfold Rdeed
  rw [q_isOf (x := 2) (a := 2) rfl (by decide)]
  show (if iofN s 2 x1 = 0 then _ else _) = _
  rw [if_neg hz, hx, place2]
  rw [e1]
  unfold RV
  by_cases ck : x2 = -1
  · rw [if_pos ck, if_pos ck]
    by_cases cv : x3 = 0
    · rw [if_pos cv, if_pos cv]; rfl
    · rw [if_neg cv, if_neg cv]
  · rw [if_neg ck, if_neg ck]
    show (if inI x2 0 (nI n - 1) = 0 then _ else _) = _
    by_cases c1 : inI x2 0 (nI n - 1) = 0
    · rw [if_pos c1, if_pos c1]
    · rw [if_neg c1, if_neg c1]
      by_cases c2 : inI x3 0 4 = 0
      · rw [if_pos c2, if_pos (show inI x3 0 (nI (5 - 1)) = 0 from c2)]
      · rw [if_neg c2, if_neg (show ¬ inI x3 0 (nI (5 - 1)) = 0 from c2)]
        obtain ⟨a, ea, ha⟩ := inI_sub (by omega) c1
        obtain ⟨b, eb, hb⟩ := inI_nI (b := 4) (by decide) c2
        rw [ea, eb, nI_clamp (by omega), nI_clamp (by omega), e2 a b ha (by omega)]; rfl
theorem CE_deed {K : List KD} {s : SG} {x1 x2 x3 : Int32} (hP : wLoc SIM1) (h : INVP SIM1 K s) : ∃ v s1 s2, xN sc (d + 11) 87 [.inr (.inr (.inl (some 0))), .inl x1, .inl x2, .inl x3] (wl K s) = some (some (.inl v), wl K s1) ∧ xN sc (d + 11) 224 [.inr (.inr (.inl (some 64))), .inl x1, .inl x2, .inl x3] (wl K s1) = some (some (.inl v), wl K s2) ∧ INVP SIM1 K s2 := by
  have hK := INVP_SH h
  have hn := SIM_n.1 (INVP_P h)
  have r := INVP_RI h
  have q2 := r_deed (sc := sc) (d := d + 8) (s := s) (x1 := x1) (x2 := x2) (x3 := x3) hK
  obtain ⟨p, e2, qi⟩ : ok (Rdeed s x1 x2 x3) (fun p => QI s p.2) := deed_ok r
  rw [e2] at q2
  obtain ⟨n, en, hn2⟩ := r.1.1 2 (by omega)
  have I := INVP_q hP h (s1 := s) (fun _ _ => rfl) qi
  rcases row_sel (k := 1) (x := x1) hn (by omega) en hn2 with ⟨z, e⟩ | ⟨j, hj, hjn, ex, z, e⟩
  · have e3 : Rdeed s x1 x2 x3 = some (-2, s) := by
      unfold Rdeed
      rw [q_isOf (x := 2) (a := 2) rfl (by decide)]
      show (if iofN s 2 x1 = 0 then _ else _) = _
      rw [if_pos z]
    rw [e3] at e2; cases e2
    exact ⟨-2, s, s, c_deeI_a (sc := sc) (d := d + 8) (s := s) (x := x1) (k := x2) (v := x3) hK e, q2, h⟩
  · have w := hn.2.2.2 2 j n (by omega) hj en hn2 hjn
    have w2 : WEQ 5 40 (fun e j2 => s (22 + 2 * (1 * 2 + j) + e) j2) (fun j2 => s 65 (928 + 201 * j + j2)) := by
      have g : ∀ e, 1 + (CPK 2 j + e) = 22 + 2 * (1 * 2 + j) + e := fun e => by
        show 1 + (21 + 2 * (1 * 2 + j) + e) = _
        omega
      have w : WEQ 5 40 (fun e j2 => s (1 + (CPK 2 j + e)) j2) (fun j2 => s 65 (928 + 201 * j + j2)) := w
      simp only [g] at w
      exact w
    have w3 := w2
    obtain ⟨n3, g1, _, g3, _⟩ := w3
    have g3 : s 65 (928 + 201 * j) = nI n3 := g3
    have rt := (rto_e (k := x2) (v := x3) (by omega) (by omega) (by omega) (show n3 ≤ 40 by omega) w2 g3).2
    have e3 := deed_p (x2 := x2) (x3 := x3) ex hj z g3 g1
    rw [e3] at e2
    have ep : p.1 = RV s (928 + 201 * j) 5 n3 x2 x3 := by cases e2; rfl
    have cc := c_deeI_b (sc := sc) (d := d + 7) (s := s) (x := x1) (k := x2) (v := x3) (RW2 hK (1 * 2 + j) (by omega)) hK e
    refine ⟨p.1, s, p.2, ?_, q2, I⟩
    rw [cc, ep, ← rt]; rfl
theorem leak_p {s : SG} {n j : Nat} {x1 x2 x3 : Int32} (hx : x1 = nI j) (hj : j < 2) (hz : ¬ iofN s 3 x1 = 0) (en : s 65 (1330 + 17 * j) = nI n) (hn : n ≤ 8) : Rleak s x1 x2 x3 = some (RV s (1330 + 17 * j) 2 n x2 x3, up s 64 33 (nI (1330 + 17 * j))) := by
  have e64 : up s 64 33 (nI (1330 + 17 * j)) 64 33 = nI (1330 + 17 * j) := up_a
  have e65 : up s 64 33 (nI (1330 + 17 * j)) 65 = s 65 := up_n (by decide)
  have e1 : rdI (up s 64 33 (nI (1330 + 17 * j))) 65 5768 (nI (1330 + 17 * j)) = some (nI n) := by
    rw [rd_nI (e := 1330 + 17 * j) rfl (by omega) (by decide), e65, en]
  have e2 : ∀ a b, a < n → b < 2 → RleakOf (up s 64 33 (nI (1330 + 17 * j))) (nI a) (nI b) = some (s 65 (1330 + 17 * j + (1 + 2 * a + b))) := by
    intro a b ha hb
    have i : ((nI (1330 + 17 * j) + 1) + (2 * nI a)) + nI b = nI (1330 + 17 * j + (1 + 2 * a + b)) := by
      show ((nI (1330 + 17 * j) + nI 1) + (nI 2 * nI a)) + nI b = _
      rw [nI_mulx, nI_add, nI_add, nI_add]; congr 1; omega
    unfold RleakOf
    rw [e64, i, rd_nI (e := 1330 + 17 * j + (1 + 2 * a + b)) rfl (by omega) (by decide), e65]; rfl
  unfold Rleak
  rw [q_isOf (x := 3) (a := 3) rfl (by decide)]
  show (if iofN s 3 x1 = 0 then _ else _) = _
  rw [if_neg hz, hx, place3]
  rw [e1]
  unfold RV
  by_cases ck : x2 = -1
  · rw [if_pos ck, if_pos ck]
    by_cases cv : x3 = 0
    · rw [if_pos cv, if_pos cv]; rfl
    · rw [if_neg cv, if_neg cv]
  · rw [if_neg ck, if_neg ck]
    show (if inI x2 0 (nI n - 1) = 0 then _ else _) = _
    by_cases c1 : inI x2 0 (nI n - 1) = 0
    · rw [if_pos c1, if_pos c1]
    · rw [if_neg c1, if_neg c1]
      by_cases c2 : inI x3 0 1 = 0
      · rw [if_pos c2, if_pos (show inI x3 0 (nI (2 - 1)) = 0 from c2)]
      · rw [if_neg c2, if_neg (show ¬ inI x3 0 (nI (2 - 1)) = 0 from c2)]
        obtain ⟨a, ea, ha⟩ := inI_sub (by omega) c1
        obtain ⟨b, eb, hb⟩ := inI_nI (b := 1) (by decide) c2
        rw [ea, eb, nI_clamp (by omega), nI_clamp (by omega), e2 a b ha (by omega)]; rfl
theorem CE_leak {K : List KD} {s : SG} {x1 x2 x3 : Int32} (hP : wLoc SIM1) (h : INVP SIM1 K s) : ∃ v s1 s2, xN sc (d + 11) 88 [.inr (.inr (.inl (some 0))), .inl x1, .inl x2, .inl x3] (wl K s) = some (some (.inl v), wl K s1) ∧ xN sc (d + 11) 271 [.inr (.inr (.inl (some 64))), .inl x1, .inl x2, .inl x3] (wl K s1) = some (some (.inl v), wl K s2) ∧ INVP SIM1 K s2 := by
  have hK := INVP_SH h
  have hn := SIM_n.1 (INVP_P h)
  have r := INVP_RI h
  have q2 := r_leak (sc := sc) (d := d + 8) (s := s) (x1 := x1) (x2 := x2) (x3 := x3) hK
  obtain ⟨p, e2, qi⟩ : ok (Rleak s x1 x2 x3) (fun p => QI s p.2) := leak_ok r
  rw [e2] at q2
  obtain ⟨n, en, hn2⟩ := r.1.1 3 (by omega)
  have I := INVP_q hP h (s1 := s) (fun _ _ => rfl) qi
  rcases row_sel (k := 2) (x := x1) hn (by omega) en hn2 with ⟨z, e⟩ | ⟨j, hj, hjn, ex, z, e⟩
  · have e3 : Rleak s x1 x2 x3 = some (-2, s) := by
      unfold Rleak
      rw [q_isOf (x := 3) (a := 3) rfl (by decide)]
      show (if iofN s 3 x1 = 0 then _ else _) = _
      rw [if_pos z]
    rw [e3] at e2; cases e2
    exact ⟨-2, s, s, c_leaI_a (sc := sc) (d := d + 8) (s := s) (x := x1) (k := x2) (v := x3) hK e, q2, h⟩
  · have w := hn.2.2.2 3 j n (by omega) hj en hn2 hjn
    have w2 : WEQ 2 8 (fun e j2 => s (22 + 2 * (2 * 2 + j) + e) j2) (fun j2 => s 65 (1330 + 17 * j + j2)) := by
      have g : ∀ e, 1 + (CPK 3 j + e) = 22 + 2 * (2 * 2 + j) + e := fun e => by
        show 1 + (21 + 2 * (2 * 2 + j) + e) = _
        omega
      have w : WEQ 2 8 (fun e j2 => s (1 + (CPK 3 j + e)) j2) (fun j2 => s 65 (1330 + 17 * j + j2)) := w
      simp only [g] at w
      exact w
    have w3 := w2
    obtain ⟨n3, g1, _, g3, _⟩ := w3
    have g3 : s 65 (1330 + 17 * j) = nI n3 := g3
    have rt := (rto_e (k := x2) (v := x3) (by omega) (by omega) (by omega) (show n3 ≤ 40 by omega) w2 g3).2
    have e3 := leak_p (x2 := x2) (x3 := x3) ex hj z g3 g1
    rw [e3] at e2
    have ep : p.1 = RV s (1330 + 17 * j) 2 n3 x2 x3 := by cases e2; rfl
    have cc := c_leaI_b (sc := sc) (d := d + 7) (s := s) (x := x1) (k := x2) (v := x3) (RW2 hK (2 * 2 + j) (by omega)) hK e
    refine ⟨p.1, s, p.2, ?_, q2, I⟩
    rw [cc, ep, ← rt]; rfl
theorem was_p {s : SG} {n j : Nat} {x1 x2 x3 : Int32} (hx : x1 = nI j) (hj : j < 2) (hz : ¬ iofN s 4 x1 = 0) (en : s 65 (1364 + 33 * j) = nI n) (hn : n ≤ 8) : Rwas s x1 x2 x3 = some (RV s (1364 + 33 * j) 4 n x2 x3, up s 64 30 (nI (1364 + 33 * j))) := by
  have e64 : up s 64 30 (nI (1364 + 33 * j)) 64 30 = nI (1364 + 33 * j) := up_a
  have e65 : up s 64 30 (nI (1364 + 33 * j)) 65 = s 65 := up_n (by decide)
  have e1 : RsummerDays (up s 64 30 (nI (1364 + 33 * j))) = some (nI n) := by
    unfold RsummerDays
    rw [e64, rd_nI (e := 1364 + 33 * j) rfl (by omega) (by decide), e65, en]; rfl
  have e2 : ∀ a b, a < n → b < 4 → RdayOf (up s 64 30 (nI (1364 + 33 * j))) (nI a) (nI b) = some (s 65 (1364 + 33 * j + (1 + 4 * a + b))) := by
    intro a b ha hb
    have i : ((nI (1364 + 33 * j) + 1) + (4 * nI a)) + nI b = nI (1364 + 33 * j + (1 + 4 * a + b)) := by
      show ((nI (1364 + 33 * j) + nI 1) + (nI 4 * nI a)) + nI b = _
      rw [nI_mulx, nI_add, nI_add, nI_add]; congr 1; omega
    unfold RdayOf
    rw [e64, i, rd_nI (e := 1364 + 33 * j + (1 + 4 * a + b)) rfl (by omega) (by decide), e65]; rfl
  unfold Rwas RisSummer
  rw [q_isOf (x := 4) (a := 4) rfl (by decide)]
  show ((if iofN s 4 x1 = 0 then some ((0 : Int32), s) else some (1, up s 64 30 (RplaceOf 4 x1))).bind _) = _
  rw [if_neg hz, hx, place4]
  rw [Option.bind_some, if_neg (show ¬ (1 : Int32) = 0 by decide)]
  show (if x2 = -1 then (if x3 = 0 then ((RsummerDays (up s 64 30 (nI (1364 + 33 * j)))).bind fun q2 => some (q2, up s 64 30 (nI (1364 + 33 * j)))) else some (-2, up s 64 30 (nI (1364 + 33 * j)))) else (RsummerDays (up s 64 30 (nI (1364 + 33 * j)))).bind fun q3 => if (inI x2 (0) (q3 - 1)) = 0 then some (-2, up s 64 30 (nI (1364 + 33 * j))) else if (inI x3 (0) (3)) = 0 then some (-2, up s 64 30 (nI (1364 + 33 * j))) else (RdayOf (up s 64 30 (nI (1364 + 33 * j))) x2 x3).bind fun q4 => some (q4, up s 64 30 (nI (1364 + 33 * j)))) = _
  rw [e1]
  unfold RV
  by_cases ck : x2 = -1
  · rw [if_pos ck, if_pos ck]
    by_cases cv : x3 = 0
    · rw [if_pos cv, if_pos cv]; rfl
    · rw [if_neg cv, if_neg cv]
  · rw [if_neg ck, if_neg ck]
    show (if inI x2 0 (nI n - 1) = 0 then _ else _) = _
    by_cases c1 : inI x2 0 (nI n - 1) = 0
    · rw [if_pos c1, if_pos c1]
    · rw [if_neg c1, if_neg c1]
      by_cases c2 : inI x3 0 3 = 0
      · rw [if_pos c2, if_pos (show inI x3 0 (nI (4 - 1)) = 0 from c2)]
      · rw [if_neg c2, if_neg (show ¬ inI x3 0 (nI (4 - 1)) = 0 from c2)]
        obtain ⟨a, ea, ha⟩ := inI_sub (by omega) c1
        obtain ⟨b, eb, hb⟩ := inI_nI (b := 3) (by decide) c2
        rw [ea, eb, nI_clamp (by omega), nI_clamp (by omega), e2 a b ha (by omega)]; rfl
theorem CE_was {K : List KD} {s : SG} {x1 x2 x3 : Int32} (hP : wLoc SIM1) (h : INVP SIM1 K s) : ∃ v s1 s2, xN sc (d + 11) 89 [.inr (.inr (.inl (some 0))), .inl x1, .inl x2, .inl x3] (wl K s) = some (some (.inl v), wl K s1) ∧ xN sc (d + 11) 256 [.inr (.inr (.inl (some 64))), .inl x1, .inl x2, .inl x3] (wl K s1) = some (some (.inl v), wl K s2) ∧ INVP SIM1 K s2 := by
  have hK := INVP_SH h
  have hn := SIM_n.1 (INVP_P h)
  have r := INVP_RI h
  have q2 := r_was (sc := sc) (d := d + 7) (s := s) (x1 := x1) (x2 := x2) (x3 := x3) hK
  obtain ⟨p, e2, qi⟩ : ok (Rwas s x1 x2 x3) (fun p => QI s p.2) := was_ok r
  rw [e2] at q2
  obtain ⟨n, en, hn2⟩ := r.1.1 4 (by omega)
  have I := INVP_q hP h (s1 := s) (fun _ _ => rfl) qi
  rcases row_sel (k := 3) (x := x1) hn (by omega) en hn2 with ⟨z, e⟩ | ⟨j, hj, hjn, ex, z, e⟩
  · have e3 : Rwas s x1 x2 x3 = some (-2, s) := by
      unfold Rwas RisSummer
      rw [q_isOf (x := 4) (a := 4) rfl (by decide)]
      show ((if iofN s 4 x1 = 0 then some ((0 : Int32), s) else some (1, up s 64 30 (RplaceOf 4 x1))).bind _) = _
      rw [if_pos z]; rfl
    rw [e3] at e2; cases e2
    exact ⟨-2, s, s, c_wasI_a (sc := sc) (d := d + 8) (s := s) (x := x1) (k := x2) (v := x3) hK e, q2, h⟩
  · have w := hn.2.2.2 4 j n (by omega) hj en hn2 hjn
    have w2 : WEQ 4 8 (fun e j2 => s (22 + 2 * (3 * 2 + j) + e) j2) (fun j2 => s 65 (1364 + 33 * j + j2)) := by
      have g : ∀ e, 1 + (CPK 4 j + e) = 22 + 2 * (3 * 2 + j) + e := fun e => by
        show 1 + (21 + 2 * (3 * 2 + j) + e) = _
        omega
      have w : WEQ 4 8 (fun e j2 => s (1 + (CPK 4 j + e)) j2) (fun j2 => s 65 (1364 + 33 * j + j2)) := w
      simp only [g] at w
      exact w
    have w3 := w2
    obtain ⟨n3, g1, _, g3, _⟩ := w3
    have g3 : s 65 (1364 + 33 * j) = nI n3 := g3
    have rt := (rto_e (k := x2) (v := x3) (by omega) (by omega) (by omega) (show n3 ≤ 40 by omega) w2 g3).2
    have e3 := was_p (x2 := x2) (x3 := x3) ex hj z g3 g1
    rw [e3] at e2
    have ep : p.1 = RV s (1364 + 33 * j) 4 n3 x2 x3 := by cases e2; rfl
    have cc := c_wasI_b (sc := sc) (d := d + 7) (s := s) (x := x1) (k := x2) (v := x3) (RW2 hK (3 * 2 + j) (by omega)) hK e
    refine ⟨p.1, s, p.2, ?_, q2, I⟩
    rw [cc, ep, ← rt]; rfl
end XTY
