section XRD
variable {sc : Nat × (Nat → Int32)} {d : Nat} {K : List KD} {r q t a B m : Nat} {w : EW}
/-! the reference: a republic is looked at; motions, orders, years -/
theorem isOf_k {s : SG} {a : Nat} {k : Int32} (r : RI s) (ha : a < 6) (h : ¬ iofN s a k = 0) : ∃ j, k = nI j ∧ j < 2 := by
  obtain ⟨c, e, hc⟩ := r.1.1 a ha
  unfold iofN at h
  rw [e] at h
  obtain ⟨j, e2, hj⟩ := inI_sub (by omega) h
  exact ⟨j, e2, by omega⟩
theorem RH_of {s t : SG} (e : t 64 11 = s 64 11) (h : RH s) : RH t := by
  unfold RH rh at *
  rw [e]; exact h
theorem place0 {j : Nat} : RplaceOf 0 (nI j) = nI (610 + 118 * j) := by
  show (nI 610 + nI 118 * nI j) = _
  rw [nI_mulx, nI_add]
theorem place1 {j : Nat} : RplaceOf 1 (nI j) = nI (846 + 41 * j) := by
  show (nI 846 + nI 41 * nI j) = _
  rw [nI_mulx, nI_add]
theorem place2 {j : Nat} : RplaceOf 2 (nI j) = nI (928 + 201 * j) := by
  show (nI 928 + nI 201 * nI j) = _
  rw [nI_mulx, nI_add]
theorem place3 {j : Nat} : RplaceOf 3 (nI j) = nI (1330 + 17 * j) := by
  show (nI 1330 + nI 17 * nI j) = _
  rw [nI_mulx, nI_add]
theorem place4 {j : Nat} : RplaceOf 4 (nI j) = nI (1364 + 33 * j) := by
  show (nI 1364 + nI 33 * nI j) = _
  rw [nI_mulx, nI_add]
theorem place5 {j : Nat} : RplaceOf 5 (nI j) = nI (1430 + 6 * j) := by
  show (nI 1430 + nI 6 * nI j) = _
  rw [nI_mulx, nI_add]
theorem begins98 : ∀ (n j k : Nat) (t : SG), j + n = 6 → n ≤ k → ok (Rbegins_98 (Rbegins_R k).1 (Rbegins_R k).2 t (nI j)) (fun u => QI t u ∧ u 64 = t 64) := by
  intro n
  induction n with
  | zero =>
    intro j k t hj hk
    unfold Rbegins_98
    rw [if_pos (show (6 : Int32) ≤ nI j from k_ge (m := 6) hj)]
    exact ok_s ⟨QI_rfl, rfl⟩
  | succ n ih =>
    intro j k t hj hk
    obtain ⟨k, rfl⟩ : ∃ k', k = k' + 1 := ⟨k - 1, by omega⟩
    unfold Rbegins_98
    rw [if_neg (show ¬ (6 : Int32) ≤ nI j from k_lt (m := 6) hj (by decide))]
    refine ok_be (wr_nI (e := j) rfl (by omega) (by decide)) ?_
    show ok (Rbegins_98 (Rbegins_R k).1 (Rbegins_R k).2 (up t 69 j 0) (nI j + 1)) _
    rw [← nI_succ]
    exact ok_w (ih (j + 1) k _ (by omega) (by omega)) fun u hu => ⟨QI_tr (QI_up QI_rfl (by omega) (by omega)) hu.1, hu.2.trans (up_n (by omega))⟩
theorem begins71 : ∀ (n j k : Nat) (t : SG), RH t → j + n = 3 → n + 6 ≤ k → ok (Rbegins_71 (Rbegins_R k).1 (Rbegins_R k).2 t (nI j)) (fun u => QI t u ∧ u 64 = t 64) := by
  intro n
  induction n with
  | zero =>
    intro j k t hr hj hk
    unfold Rbegins_71
    rw [if_pos (show (3 : Int32) ≤ nI j from k_ge (m := 3) hj)]
    exact begins98 6 0 k t rfl (by omega)
  | succ n ih =>
    intro j k t hr hj hk
    obtain ⟨k, rfl⟩ : ∃ k', k = k' + 1 := ⟨k - 1, by omega⟩
    unfold Rbegins_71
    rw [if_neg (show ¬ (3 : Int32) ≤ nI j from k_lt (m := 3) hj (by decide))]
    refine ok_be (q_of (a := 6 + j) hr (by show nI 6 + nI j = _; rw [nI_add]) (by omega)) ?_
    refine ok_be (wr_nI (e := j) rfl (by omega) (by decide)) ?_
    show ok (Rbegins_71 (Rbegins_R k).1 (Rbegins_R k).2 (up t 68 j _) (nI j + 1)) _
    rw [← nI_succ]
    exact ok_w (ih (j + 1) k _ (RH_of (by rw [up_n (by omega)]) hr) (by omega) (by omega)) fun u hu => ⟨QI_tr (QI_up QI_rfl (by omega) (by omega)) hu.1, hu.2.trans (up_n (by omega))⟩
theorem begins_ok {s : SG} (r : RI s) (h : ∃ k, k < 2 ∧ s 64 11 = nI (610 + 118 * k)) : ok (Rbegins s) (fun t => QI s t ∧ QS t ∧ t 64 26 = 0 ∧ t 64 11 = s 64 11) := by
  have hF := xF_ge
  have hr : RH s := by
    obtain ⟨k, hk, e⟩ := h
    have : rh s = 610 + 118 * k := by unfold rh; rw [e, nI_clamp (by omega)]
    exact ⟨by rw [this]; exact e, by omega⟩
  have hm : ∃ a, ofN s 0 = nI a ∧ a ≤ 6 := by
    obtain ⟨k, hk, e⟩ := h
    have : rh s = 610 + 118 * k := by unfold rh; rw [e, nI_clamp (by omega)]
    unfold ofN; rw [this]
    exact (r.1.2.2 k hk).1.1
  unfold Rbegins
  refine ok_be (q_ministers hr) ?_
  refine ok_be (q_of (a := 3) (RH_of (by simp (decide := true) only [up_b]) hr) rfl (by decide)) ?_
  refine ok_be (q_of (a := 4) (RH_of (by simp (decide := true) only [up_b]) hr) rfl (by decide)) ?_
  refine ok_be (q_of (a := 5) (RH_of (by simp (decide := true) only [up_b]) hr) rfl (by decide)) ?_
  refine ok_w (begins71 3 0 xF _ (RH_of (by simp (decide := true) only [up_b]) hr) rfl (by omega)) ?_
  intro u hu
  obtain ⟨h1, h2⟩ := hu
  refine ⟨QI_tr ?_ h1, ⟨?_, ?_, ?_⟩, ?_, ?_⟩
  · refine ⟨?_, ?_, ?_⟩
    · simp (decide := true) only [up_c]
    · simp (decide := true) only [up_c]
    · intro c hc
      simp (disch := omega) only [up_n]
  · rw [h2]
    simp (decide := true) only [up_b]
    exact h
  · rw [h2]
    simp (decide := true) only [up_b, up_a]
    exact ⟨0, rfl, by omega⟩
  · rw [h2]
    simp (decide := true) only [up_b, up_a]
    obtain ⟨a, e, ha⟩ := hm
    rw [e]
    exact NB_all ha
  · rw [h2]
    simp (decide := true) only [up_b, up_a]
  · rw [h2]
    simp (decide := true) only [up_b]
theorem isRepublic_ok {s : SG} {x : Int32} (r : RI s) : ok (RisRepublic s x) (fun p => QI s p.2 ∧ (p.1 = 0 ∨ QS p.2 ∧ p.2 64 26 = 0)) := by
  unfold RisRepublic
  refine ok_be (q_isOf rfl (by decide)) ?_
  refine ok_i (fun _ => ok_s ⟨QI_rfl, Or.inl rfl⟩) (fun c => ?_)
  obtain ⟨j, e, hj⟩ := isOf_k r (by decide) c
  have q1 : QI s (up s 64 11 (RplaceOf 0 x)) := QI_up QI_rfl (by omega) (by omega)
  refine ok_b (begins_ok (QI_RI q1 r) ⟨j, hj, by rw [up_a, e, place0]⟩) (fun t ht => ?_)
  exact ok_s ⟨QI_tr q1 ht.1, Or.inr ⟨ht.2.1, ht.2.2.1⟩⟩
theorem republic_ok {s : SG} {x y : Int32} (r : RI s) : ok (Rrepublic s x y) (fun p => QI s p.2) := by
  unfold Rrepublic
  refine ok_b (isRepublic_ok r) (fun p hp => ?_)
  refine ok_i (fun _ => ok_s hp.1) (fun c => ?_)
  have hq : QS p.2 := (hp.2.resolve_left c).1
  refine ok_i (fun _ => ok_i (fun _ => ok_s hp.1) (fun c2 => ?_)) (fun c2 => ?_)
  · have e : ∃ a, 6 + y - 10 = nI a ∧ a < 5000 := by
      unfold inI at c2
      by_cases d1 : y < 10
      · rw [if_pos d1] at c2; exact absurd rfl c2
      · rw [if_neg d1] at c2
        by_cases d2 : 12 < y
        · rw [if_pos d2] at c2; exact absurd rfl c2
        · have y1 := Int32.le_iff_toInt_le.mp (Int32.not_lt.mp d1)
          have y2 := Int32.le_iff_toInt_le.mp (Int32.not_lt.mp d2)
          have z1 : (10 : Int32).toInt = 10 := by decide
          have z2 : (12 : Int32).toInt = 12 := by decide
          rw [z1] at y1
          rw [z2] at y2
          have e1 : y = nI y.toInt.toNat := by
            apply Int32.toInt_inj.mp
            rw [nI_toInt (by omega)]; omega
          have e2 : y.toInt.toNat = 10 ∨ y.toInt.toNat = 11 ∨ y.toInt.toNat = 12 := by omega
          rcases e2 with g | g | g <;> rw [g] at e1 <;> rw [e1]
          · exact ⟨6, by decide, by omega⟩
          · exact ⟨7, by decide, by omega⟩
          · exact ⟨8, by decide, by omega⟩
    obtain ⟨a, e, ha⟩ := e
    exact ok_be (q_of (QS_RH hq) e ha) (ok_s hp.1)
  · obtain ⟨a, e, ha⟩ := inI_nI (b := 5) (by decide) c2
    exact ok_be (q_of (QS_RH hq) e (by omega)) (ok_s hp.1)
theorem inI_lo {y : Int32} {a b : Nat} (hb : b < 2 ^ 31) (hab : a ≤ b) (h : ¬ inI y (nI a) (nI b) = 0) : ∃ c, y = nI (a + c) ∧ a + c ≤ b := by
  unfold inI at h
  by_cases d1 : y < nI a
  · rw [if_pos d1] at h; exact absurd rfl h
  · rw [if_neg d1] at h
    by_cases d2 : nI b < y
    · rw [if_pos d2] at h; exact absurd rfl h
    · have y1 := Int32.le_iff_toInt_le.mp (Int32.not_lt.mp d1)
      have y2 := Int32.le_iff_toInt_le.mp (Int32.not_lt.mp d2)
      rw [nI_toInt (by omega)] at y1
      rw [nI_toInt (by omega)] at y2
      refine ⟨y.toInt.toNat - a, ?_, by omega⟩
      apply Int32.toInt_inj.mp
      rw [nI_toInt (by omega)]; omega
theorem nI_subl {a c : Nat} : nI (a + c) - nI a = nI c := by
  rw [Nat.add_comm, ← nI_add, Int32.add_sub_cancel]
theorem mn_k {t : SG} {m : Int32} (r : RI t) (q : QS t) (h : ¬ mnN t m = 0) : ∃ j, m = nI j ∧ j < msz t ∧ j < 6 := by
  obtain ⟨e, h6⟩ := QS_MZ r q
  unfold mnN at h
  rw [e] at h
  obtain ⟨j, ej, hj⟩ := inI_sub (by omega) h
  exact ⟨j, ej, hj, by omega⟩
theorem minister_ok {s : SG} {x y z : Int32} (r : RI s) : ok (Rminister s x y z) (fun p => QI s p.2) := by
  unfold Rminister
  refine ok_b (isRepublic_ok r) (fun p hp => ?_)
  refine ok_i (fun _ => ok_s hp.1) (fun c => ?_)
  have hq : QS p.2 := (hp.2.resolve_left c).1
  have r2 := QI_RI hp.1 r
  refine ok_be (q_isMinister (QS_RH hq)) ?_
  refine ok_i (fun _ => ok_s hp.1) (fun c2 => ?_)
  obtain ⟨j, e, hj, hj6⟩ := mn_k r2 hq c2
  refine ok_i (fun _ => ok_i (fun _ => ok_s hp.1) (fun c3 => ?_)) (fun c3 => ?_)
  · obtain ⟨a, ea, ha⟩ := inI_lo (a := 10) (b := 21) (by decide) (by decide) c3
    refine ok_be (q_ofMinister (a := 6 + a) (QS_RH hq) e ?_ hj6 (by omega)) (ok_s hp.1)
    rw [ea]
    show nI 6 + nI (10 + a) - nI 10 = _
    rw [nI_add, show 6 + (10 + a) = 10 + (6 + a) by omega, nI_subl]
  · obtain ⟨a, ea, ha⟩ := inI_nI (b := 5) (by decide) c3
    exact ok_be (q_ofMinister (QS_RH hq) e ea hj6 (by omega)) (ok_s hp.1)
/-- fields that talking of a day, and a day, leave -/
def KJ (j : Nat) : Prop := j < 12 ∨ (15 ≤ j ∧ j < 20) ∨ 26 ≤ j
def KQ (t u : SG) : Prop := QI t u ∧ ∀ j, KJ j → u 64 j = t 64 j
theorem KQ_rfl {t : SG} : KQ t t := ⟨QI_rfl, fun _ _ => rfl⟩
theorem KQ_tr {s t u : SG} (h : KQ s t) (g : KQ t u) : KQ s u := ⟨QI_tr h.1 g.1, fun j hj => (g.2 j hj).trans (h.2 j hj)⟩
theorem KQ_up {s t : SG} {j : Nat} {x : Int32} (h : KQ s t) (hj : ¬ KJ j) : KQ s (up t 64 j x) := ⟨QI_up h.1 (by omega) (by omega), fun i hi => by
  have ne : i ≠ j := fun e => hj (by rw [← e]; exact hi)
  rw [up_bn ne]; exact h.2 i hi⟩
theorem KQ_QS {t u : SG} (h : KQ t u) (q : QS t) : QS u := by
  unfold QS at *
  rw [h.2 11 (by unfold KJ; omega), h.2 16 (by unfold KJ; omega), h.2 18 (by unfold KJ; omega)]
  exact q
theorem talks_KQ {t : SG} {x : Int32} : KQ t (RtalksOf t x) := by
  unfold RtalksOf
  exact KQ_up (KQ_up (KQ_up KQ_rfl (by unfold KJ; omega)) (by unfold KJ; omega)) (by unfold KJ; omega)
theorem goes_KQ {t : SG} : KQ t (Rgoes t) := by
  unfold Rgoes Rgoes_48
  split <;> repeat (first | exact KQ_rfl | refine KQ_up ?_ (by unfold KJ; omega))
theorem comm_KQ {t : SG} : KQ t (Rcommittee t) := by
  unfold Rcommittee Rcommittee_14
  split <;> exact KQ_up (KQ_tr talks_KQ goes_KQ) (by unfold KJ; omega)
/-- where a query's rows lie -/
def OK1 (t : SG) : Prop := ∃ k, k < 2 ∧ t 64 17 = nI (846 + 41 * k)
def OK2 (t : SG) : Prop := ∃ k, k < 2 ∧ t 64 29 = nI (928 + 201 * k)
theorem areOrders_ok {t : SG} {x : Int32} (r : RI t) : ok (RareOrders t x) (fun p => QI t p.2 ∧ (∀ j, j ≠ 17 → p.2 64 j = t 64 j) ∧ (p.1 = 0 ∨ OK1 p.2)) := by
  unfold RareOrders
  refine ok_be (q_isOf rfl (by decide)) ?_
  refine ok_i (fun _ => ok_s ⟨QI_rfl, fun _ _ => rfl, Or.inl rfl⟩) (fun c => ?_)
  obtain ⟨j, e, hj⟩ := isOf_k r (by decide) c
  refine ok_s ⟨QI_up QI_rfl (by omega) (by omega), fun i hi => by
    show up t 64 17 (RplaceOf 1 x) 64 i = _
    exact up_bn hi, Or.inr ⟨j, hj, ?_⟩⟩
  show up t 64 17 (RplaceOf 1 x) 64 17 = _
  rw [up_a, e, place1]
theorem orderOf_eq {t : SG} {x y : Int32} {k j a : Nat} (e : t 64 17 = nI (846 + 41 * k)) (hk : k < 2) (ex : x = nI j) (ey : y = nI a) (hj : j ≤ 40) (ha : a < 6) : RorderOf t x y = some (t 65 (846 + 41 * k + 1 + 5 * j + a)) := by
  unfold RorderOf
  have e2 : t 64 17 + 1 + 5 * x + y = nI (846 + 41 * k + 1 + 5 * j + a) := by
    rw [e, ex, ey]
    show nI _ + nI 1 + nI 5 * nI j + nI a = _
    rw [nI_mulx, nI_add, nI_add, nI_add]
  rw [rd_nI e2 (by omega) (by decide)]; rfl
theorem order_ok {s : SG} {x y z : Int32} (r : RI s) : ok (Rorder s x y z) (fun p => QI s p.2) := by
  unfold Rorder
  refine ok_b (areOrders_ok r) (fun p hp => ?_)
  refine ok_i (fun _ => ok_s hp.1) (fun c => ?_)
  obtain ⟨k, hk, e⟩ := hp.2.2.resolve_left c
  have r2 := QI_RI hp.1 r
  obtain ⟨n, en, hn⟩ := (r2.1.2.2 k hk).2.1
  have rd : rdI p.2 65 5768 (p.2 64 17) = some (nI n) := by rw [rd_nI e (by omega) (by decide), en]
  refine ok_i (fun _ => ok_i (fun _ => ok_be rd (ok_s hp.1)) (fun _ => ok_s hp.1)) (fun _ => ?_)
  refine ok_be rd ?_
  refine ok_i (fun _ => ok_s hp.1) (fun c2 => ?_)
  obtain ⟨j, ej, hj⟩ := inI_sub (by omega) c2
  refine ok_i (fun _ => ok_s hp.1) (fun c3 => ?_)
  obtain ⟨a, ea, ha⟩ := inI_nI (b := 4) (by decide) c3
  exact ok_be (orderOf_eq e hk ej ea (by omega) (by omega)) (ok_s hp.1)
theorem isBroken_ok {t : SG} {x y : Int32} {k j : Nat} (e : t 64 17 = nI (846 + 41 * k)) (hk : k < 2) (ex : x = nI j) (hj : j ≤ 40) : ok (RisBroken t x y) (fun _ => True) := by
  have o := fun (z : Int32) (a : Nat) (ez : z = nI a) (ha : a < 6) => orderOf_eq e hk ex ez hj ha
  unfold RisBroken RisBroken_21
  refine ok_be (o 1 1 rfl (by decide)) (ok_be (o 2 2 rfl (by decide)) (ok_be (o 0 0 rfl (by decide)) ?_))
  have t3 := o 3 3 rfl (by decide)
  have t4 := o 4 4 rfl (by decide)
  rw [t3, t4]
  simp only [bd2]
  repeat' (first | exact ok_s trivial | refine ok_i (fun _ => ?_) (fun _ => ?_))
theorem firstBroken_l {t : SG} {y : Int32} {k : Nat} (r : RI t) (e : t 64 17 = nI (846 + 41 * k)) (hk : k < 2) : ∀ (n j z : Nat), j + n = 8 → n ≤ z → ok (RfirstBroken_2 (RfirstBroken_R z) t y (nI j)) (fun _ => True) := by
  obtain ⟨m, em, hm⟩ := (r.1.2.2 k hk).2.1
  have rd : rdI t 65 5768 (t 64 17) = some (nI m) := by rw [rd_nI e (by omega) (by decide), em]
  intro n
  induction n with
  | zero =>
    intro j z hj hz
    unfold RfirstBroken_2
    refine ok_be rd (ok_i (fun _ => ok_s trivial) (fun c => ?_))
    exfalso; apply c
    rw [Int32.le_iff_toInt_le, nI_toInt (by omega), nI_toInt (by omega)]; omega
  | succ n ih =>
    intro j z hj hz
    obtain ⟨z, rfl⟩ : ∃ z', z = z' + 1 := ⟨z - 1, by omega⟩
    unfold RfirstBroken_2
    refine ok_be rd (ok_i (fun _ => ok_s trivial) (fun c => ?_))
    refine ok_b (isBroken_ok e hk rfl (by omega)) (fun q _ => ok_i (fun _ => ?_) (fun _ => ok_s trivial))
    show ok (RfirstBroken_2 (RfirstBroken_R z) t y (nI j + 1)) _
    rw [← nI_succ]
    exact ih (j + 1) z (by omega) (by omega)
theorem firstBroken_ok {t : SG} {y : Int32} (r : RI t) (h : OK1 t) : ok (RfirstBroken t y) (fun _ => True) := by
  obtain ⟨k, hk, e⟩ := h
  exact firstBroken_l r e hk 8 0 xF rfl (by have := xF_ge; omega)
theorem broken_ok {s : SG} {x y u v w z : Int32} (r : RI s) : ok (Rbroken s x y u v w z) (fun p => QI s p.2) := by
  unfold Rbroken
  refine ok_b (areOrders_ok r) (fun p hp => ?_)
  refine ok_i (fun _ => ok_s hp.1) (fun c => ?_)
  obtain ⟨k, hk, e⟩ := hp.2.2.resolve_left c
  refine ok_i (fun _ => ok_s hp.1) (fun c2 => ?_)
  refine ok_i (fun _ => ok_s hp.1) (fun c3 => ?_)
  refine ok_i (fun _ => ok_s hp.1) (fun c4 => ?_)
  have q : QI s (RtalksOf (up p.2 64 16 y) (100 * u + 10 * v + w)) := QI_tr (QI_up hp.1 (by omega) (by omega)) talks_KQ.1
  refine ok_b (firstBroken_ok (QI_RI q r) ⟨k, hk, ?_⟩) (fun _ _ => ok_s q)
  rw [talks_KQ.2 17 (by unfold KJ; omega), up_b (by decide)]; exact e
theorem isMotion_ok {s : SG} {x b se u v w : Int32} (r : RI s) : ok (RisMotion s x b se u v w) (fun p => QI s p.2 ∧ (p.1 = 0 ∨ QS p.2 ∧ ∃ m, m < 6 ∧ b = nI m ∧ m < msz p.2)) := by
  unfold RisMotion
  refine ok_b (isRepublic_ok r) (fun p hp => ?_)
  refine ok_i (fun _ => ok_s ⟨hp.1, Or.inl rfl⟩) (fun c => ?_)
  have hq : QS p.2 := (hp.2.resolve_left c).1
  have r2 := QI_RI hp.1 r
  refine ok_be (q_isMinister (QS_RH hq)) ?_
  refine ok_i (fun _ => ok_s ⟨hp.1, Or.inl rfl⟩) (fun c2 => ?_)
  obtain ⟨j, e, hj, hj6⟩ := mn_k r2 hq c2
  refine ok_i (fun _ => ok_s ⟨hp.1, Or.inl rfl⟩) (fun c3 => ?_)
  refine ok_i (fun _ => ok_s ⟨hp.1, Or.inl rfl⟩) (fun c4 => ?_)
  have q1 : QI p.2 (up (up p.2 64 15 b) 64 16 se) := QI_up (QI_up QI_rfl (by omega) (by omega)) (by omega) (by omega)
  have q2 : QS (up (up p.2 64 15 b) 64 16 se) := by
    refine ⟨?_, ?_, ?_⟩
    · simp (decide := true) only [up_b]; exact hq.1
    · rw [up_a]; exact inI_nI (b := 3) (by decide) c3
    · simp (decide := true) only [up_b]; exact hq.2.2
  refine ok_s ⟨QI_tr hp.1 (QI_tr q1 talks_KQ.1), Or.inr ⟨KQ_QS talks_KQ q2, j, hj6, e, ?_⟩⟩
  have e2 : msz (RtalksOf (up (up p.2 64 15 b) 64 16 se) (100 * u + 10 * v + w)) = msz p.2 := by
    unfold msz ofN rh
    rw [talks_KQ.1.1, talks_KQ.2 11 (by unfold KJ; omega), q1.1, up_b (by decide), up_b (by decide)]
  rw [e2]; exact hj
theorem off_ok {s : SG} {x b se u v w : Int32} (r : RI s) : ok (Roff s x b se u v w) (fun p => QI s p.2) := by
  unfold Roff
  refine ok_b (isMotion_ok r) (fun p hp => ?_)
  refine ok_i (fun _ => ok_s hp.1) (fun c => ?_)
  obtain ⟨hq, m, hm, e, _⟩ := hp.2.resolve_left c
  exact ok_be (q_offOf (QS_RH hq) (QS_SE hq) e hm) (ok_s hp.1)
theorem vote_ok {s : SG} {x b se u v w g : Int32} (r : RI s) : ok (Rvote s x b se u v w g) (fun p => QI s p.2) := by
  unfold Rvote
  refine ok_b (isMotion_ok r) (fun p hp => ?_)
  refine ok_i (fun _ => ok_s hp.1) (fun c => ?_)
  obtain ⟨hq, m, hm, e, _⟩ := hp.2.resolve_left c
  have z := QS_MZ (QI_RI hp.1 r) hq
  refine ok_i (fun _ => ok_be (q_agreeing (QS_RH hq) (QS_SE hq) z) (ok_s hp.1)) (fun _ => ok_be (q_agreeing (QS_RH hq) (QS_SE hq) z) (ok_be (q_isPassed (QS_RH hq) z) (ok_i (fun _ => ok_s hp.1) (fun _ => ok_s hp.1))))
end XRD
