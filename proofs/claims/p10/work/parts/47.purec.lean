section XRE
variable {sc : Nat × (Nat → Int32)} {d : Nat} {K : List KD} {r q t a B m : Nat} {w : EW}
/-! the reference: years -/
def MV (t u : SG) : Prop := QI t u ∧ (∀ i, KJ i → i ≠ 18 → i ≠ 19 → u 64 i = t 64 i) ∧ (NB (t 64 18) 63 → NB (u 64 18) 63)
theorem MV_rfl {t : SG} : MV t t := ⟨QI_rfl, fun _ _ _ _ => rfl, fun h => h⟩
theorem MV_tr {s t u : SG} (h : MV s t) (g : MV t u) : MV s u := ⟨QI_tr h.1 g.1, fun i a b c => (g.2.1 i a b c).trans (h.2.1 i a b c), fun q => g.2.2 (h.2.2 q)⟩
theorem MV_KQ {t u : SG} (h : KQ t u) : MV t u := ⟨h.1, fun i a _ _ => h.2 i a, fun q => by rw [h.2 18 (by unfold KJ; omega)]; exact q⟩
theorem MV_69 {t : SG} {j : Nat} {x : Int32} : MV t (up t 69 j x) := ⟨QI_up QI_rfl (by omega) (by omega), fun i _ _ _ => by rw [up_n (by omega)], fun q => by rw [up_n (by omega)]; exact q⟩
theorem MV_QS {t u : SG} (h : MV t u) (q : QS t) : QS u := by
  refine ⟨?_, ?_, h.2.2 q.2.2⟩
  · rw [h.2.1 11 (by unfold KJ; omega) (by omega) (by omega)]; exact q.1
  · rw [h.2.1 16 (by unfold KJ; omega) (by omega) (by omega)]; exact q.2.1
theorem MV_msz {t u : SG} (h : MV t u) : msz u = msz t := by
  unfold msz ofN rh
  rw [h.1.1, h.2.1 11 (by unfold KJ; omega) (by omega) (by omega)]
theorem MV_18 {t : SG} {x y : Int32} (hx : NB (t 64 18) 63 → NB x 63) : MV t (up (up t 64 18 x) 64 19 y) := ⟨QI_up (QI_up QI_rfl (by omega) (by omega)) (by omega) (by omega), fun i _ a b => by rw [up_bn b, up_bn a], fun q => by rw [up_b (by decide), up_a]; exact hx q⟩
theorem angers_l {y : Int32} {z0 : Nat} : ∀ (n j k : Nat) (t : SG), RI t → QS t → msz t = z0 → j + n = z0 → n ≤ k → ok (Rangers_2 (Rangers_R k) t y (nI j)) (MV t) := by
  intro n
  induction n with
  | zero =>
    intro j k t r q e hj hk
    have z := QS_MZ r q
    unfold Rangers_2
    refine ok_be (q_ministers (QS_RH q)) ?_
    rw [z.1, e, if_pos (k_ge hj)]
    exact ok_s MV_rfl
  | succ n ih =>
    intro j k t r q e hj hk
    obtain ⟨k, rfl⟩ : ∃ k', k = k' + 1 := ⟨k - 1, by omega⟩
    have z := QS_MZ r q
    have hj6 : j < 6 := by have := z.2; omega
    have next : ∀ u, MV t u → ok (Rangers_R (k + 1) u y (nI j + 1)) (MV t) := by
      intro u hu
      show ok (Rangers_2 (Rangers_R k) u y (nI j + 1)) _
      rw [← nI_succ]
      exact ok_w (ih (j + 1) k u (QI_RI hu.1 r) (MV_QS hu q) ((MV_msz hu).trans e) (by omega) (by omega)) fun v hv => MV_tr hu hv
    have fifty : ∀ v, ok (Rangers_50 (Rangers_R (k + 1)) t y (nI j) v (nI j)) (MV t) := by
      intro v
      have m1 : MV t (up t 69 j v) := MV_69
      have r1 := QI_RI m1.1 r
      have q1 := MV_QS m1 q
      have om := q_ofMinister (s := up t 69 j v) (x := nI j) (y := 2) (m := j) (a := 2) (QS_RH q1) rfl rfl hj6 (by decide)
      unfold Rangers_50
      refine ok_be (wr_nI (e := j) rfl hj6 (by decide)) (ok_be om (ok_i (fun _ => next _ m1) (fun _ => ?_)))
      refine ok_be (rd_nI (e := j) rfl hj6 (by decide)) (ok_be om (ok_i (fun _ => ?_) (fun _ => next _ m1)))
      exact next _ (MV_tr m1 (MV_18 fun h => NB_and h))
    unfold Rangers_2
    refine ok_be (q_ministers (QS_RH q)) ?_
    rw [z.1, e, if_neg (k_lt hj (by have := z.2; omega))]
    refine ok_i (fun _ => next t MV_rfl) (fun _ => ok_i (fun _ => fifty 0) (fun _ => ?_))
    exact ok_be (rd_nI (e := j) rfl hj6 (by decide)) (fifty _)
theorem moves_ok {t : SG} (r : RI t) (q : QS t) : ok (Rmoves t) (MV t) := by
  have z := QS_MZ r q
  unfold Rmoves
  refine ok_be (q_agreeing (QS_RH q) (QS_SE q) z) (ok_be (q_isPassed (QS_RH q) z) (ok_i (fun _ => ok_s (MV_KQ comm_KQ)) (fun _ => ?_)))
  have g : MV t (Rgoes t) := MV_KQ goes_KQ
  have z1 := MV_msz g
  refine ok_b (angers_l (msz t) 0 xF (Rgoes t) (QI_RI g.1 r) (MV_QS g q) z1 (by omega) (by have := xF_ge; have := z.2; omega)) (fun u hu => ok_s (MV_tr g hu))
theorem deedOf_eq {t : SG} {x y : Int32} {k j a : Nat} (e : t 64 29 = nI (928 + 201 * k)) (hk : k < 2) (ex : x = nI j) (ey : y = nI a) (hj : j ≤ 40) (ha : a < 6) : RdeedOf t x y = some (t 65 (928 + 201 * k + 1 + 5 * j + a)) := by
  unfold RdeedOf
  have e2 : t 64 29 + 1 + 5 * x + y = nI (928 + 201 * k + 1 + 5 * j + a) := by
    rw [e, ex, ey]
    show nI _ + nI 1 + nI 5 * nI j + nI a = _
    rw [nI_mulx, nI_add, nI_add, nI_add]
  rw [rd_nI e2 (by omega) (by decide)]; rfl
theorem deeds_eq {t : SG} {k : Nat} (e : t 64 29 = nI (928 + 201 * k)) (hk : k < 2) : Rdeeds t = some (t 65 (928 + 201 * k)) := by
  unfold Rdeeds
  rw [rd_nI e (by omega) (by decide)]; rfl
theorem deed_ok {s : SG} {x y z : Int32} (r : RI s) : ok (Rdeed s x y z) (fun p => QI s p.2) := by
  unfold Rdeed
  refine ok_be (q_isOf rfl (by decide)) ?_
  refine ok_i (fun _ => ok_s QI_rfl) (fun c => ?_)
  obtain ⟨k, ek, hk⟩ := isOf_k r (by decide) c
  have q1 : QI s (up s 64 29 (RplaceOf 2 x)) := QI_up QI_rfl (by omega) (by omega)
  have e : up s 64 29 (RplaceOf 2 x) 64 29 = nI (928 + 201 * k) := by rw [up_a, ek, place2]
  have r2 := QI_RI q1 r
  obtain ⟨n, en, hn⟩ := (r2.1.2.2 k hk).2.2.1.1
  have dd := deeds_eq e hk
  rw [en] at dd
  refine ok_i (fun _ => ok_i (fun _ => ok_be dd (ok_s q1)) (fun _ => ok_s q1)) (fun _ => ok_be dd ?_)
  refine ok_i (fun _ => ok_s q1) (fun c2 => ?_)
  obtain ⟨j, ej, hj⟩ := inI_sub (by omega) c2
  refine ok_i (fun _ => ok_s q1) (fun c3 => ?_)
  obtain ⟨a, ea, ha⟩ := inI_nI (b := 4) (by decide) c3
  exact ok_be (deedOf_eq e hk ej ea (by omega) (by omega)) (ok_s q1)
theorem isThere_ok {t : SG} {x : Int32} (r : RI t) (q : QS t) : ok (RisThere t x) (fun v => v = 0 ∨ v = 1) := by
  unfold RisThere
  refine ok_be (q_isMinister (QS_RH q)) (ok_i (fun _ => ok_s (Or.inl rfl)) (fun _ => ok_i (fun _ => ok_s (Or.inr rfl)) (fun _ => ok_s (Or.inl rfl))))
theorem can_ok {t : SG} {x : Int32} {k j : Nat} (r : RI t) (q : QS t) (h1 : OK1 t) (e : t 64 29 = nI (928 + 201 * k)) (hk : k < 2) (ex : x = nI j) (hj : j < 40) : ok (Rcan t x) (fun p => KQ t p.2 ∧ (t 65 (928 + 201 * k + 1 + 5 * j) = 4 → ¬ p.1 = 0 → ∃ m, m < 6 ∧ t 65 (928 + 201 * k + 1 + 5 * j + 1) = nI m)) := by
  have o := fun (z : Int32) (a : Nat) (ez : z = nI a) (ha : a < 6) => deedOf_eq e hk ex ez (by omega : j ≤ 40) ha
  unfold Rcan
  refine ok_be (o 1 1 rfl (by decide)) (ok_be (o 0 0 rfl (by decide)) ?_)
  rw [Nat.add_zero]
  generalize ha : t 65 (928 + 201 * k + 1 + 5 * j + 1) = a1
  generalize hb : t 65 (928 + 201 * k + 1 + 5 * j) = a0
  unfold Rcan_13
  refine ok_i (fun c0 => ?_) (fun _ => ok_i (fun c0 => ?_) (fun _ => ok_i (fun c0 => ?_) (fun _ => ok_i (fun c0 => ?_) (fun _ => ok_i (fun c0 => ?_) (fun c0 => ?_)))))
  · refine ok_be (o 2 2 rfl (by decide)) (ok_be (o 3 3 rfl (by decide)) (ok_be (o 4 4 rfl (by decide)) ?_))
    generalize 100 * t 65 (928 + 201 * k + 1 + 5 * j + 2) + 10 * t 65 (928 + 201 * k + 1 + 5 * j + 3) + t 65 (928 + 201 * k + 1 + 5 * j + 4) = day
    have kq : KQ t (RtalksOf t day) := talks_KQ
    have r2 := QI_RI kq.1 r
    have q2 := KQ_QS kq q
    have n4 : ∀ v : Int32, (a0 = 4 → ¬ v = 0 → ∃ m, m < 6 ∧ a1 = nI m) := by
      intro v h4
      rw [c0] at h4
      exact absurd h4 (by decide)
    have o1 : OK1 (RtalksOf t day) := by
      obtain ⟨i, hi, ei⟩ := h1
      exact ⟨i, hi, by rw [kq.2 17 (by unfold KJ; omega)]; exact ei⟩
    refine ok_b (isThere_ok r2 q2) (fun v _ => ok_i (fun _ => ok_s ⟨kq, n4 _⟩) (fun _ => ?_))
    refine ok_b (firstBroken_ok r2 o1) (fun v _ => ok_i (fun _ => ok_i (fun _ => ok_s ⟨kq, n4 _⟩) (fun _ => ok_s ⟨kq, n4 _⟩)) (fun _ => ok_s ⟨kq, n4 _⟩))
  · exact ok_s ⟨KQ_rfl, fun h4 => absurd (c0.symm.trans h4) (by decide)⟩
  · refine ok_be (o 2 2 rfl (by decide)) (ok_b (isThere_ok r q) (fun v hv => ?_))
    have e4 : xrt 4 v = true := by rcases hv with g | g <;> rw [g] <;> rfl
    rw [e4]
    exact ok_s ⟨KQ_rfl, fun h4 => absurd (c0.symm.trans h4) (by decide)⟩
  · refine ok_b (isThere_ok r q) (fun v hv => ?_)
    have e4 : xrt 4 v = true := by rcases hv with g | g <;> rw [g] <;> rfl
    rw [e4]
    exact ok_s ⟨KQ_rfl, fun h4 => absurd (c0.symm.trans h4) (by decide)⟩
  · refine ok_be (q_isMinister (QS_RH q)) (ok_i (fun _ => ok_s ⟨KQ_rfl, fun _ h => absurd rfl h⟩) (fun c => ?_))
    obtain ⟨m, em, _, hm⟩ := mn_k r q c
    refine ok_b (isThere_ok r q) (fun v _ => ok_i (fun _ => ok_s ⟨KQ_rfl, fun _ _ => ⟨m, hm, em⟩⟩) (fun _ => ok_s ⟨KQ_rfl, fun _ h => absurd rfl h⟩))
  · exact ok_s ⟨KQ_rfl, fun h4 => absurd h4 c0⟩
/-- what a deed leaves -/
def DV (t u : SG) : Prop := QI t u ∧ (∀ i, (i = 11 ∨ i = 17 ∨ i = 26 ∨ i = 29 ∨ i = 30 ∨ i = 33) → u 64 i = t 64 i) ∧ (QS t → QS u)
theorem DV_rfl {t : SG} : DV t t := ⟨QI_rfl, fun _ _ => rfl, fun h => h⟩
theorem DV_tr {s t u : SG} (h : DV s t) (g : DV t u) : DV s u := ⟨QI_tr h.1 g.1, fun i hi => (g.2.1 i hi).trans (h.2.1 i hi), fun q => g.2.2 (h.2.2 q)⟩
theorem DV_MV {t u : SG} (h : MV t u) : DV t u := ⟨h.1, fun i hi => h.2.1 i (by unfold KJ; omega) (by omega) (by omega), fun q => MV_QS h q⟩
theorem DV_up {t : SG} {j : Nat} {x : Int32} (hj : j < 11 ∨ (11 < j ∧ j < 16) ∨ (18 < j ∧ j < 26) ∨ j = 19) : DV t (up t 64 j x) := ⟨QI_up QI_rfl (by omega) (by omega), fun i hi => up_bn (by omega), fun q => by
  unfold QS at *
  rw [up_bn (by omega), up_bn (by omega), up_bn (by omega)]; exact q⟩
theorem does_ok {t : SG} {x : Int32} {k j : Nat} (r : RI t) (q : QS t) (e : t 64 29 = nI (928 + 201 * k)) (hk : k < 2) (ex : x = nI j) (hj : j < 40) (h4 : t 65 (928 + 201 * k + 1 + 5 * j) = 4 → ∃ m, m < 6 ∧ t 65 (928 + 201 * k + 1 + 5 * j + 1) = nI m) : ok (Rdoes t x) (DV t) := by
  have o := fun (z : Int32) (a : Nat) (ez : z = nI a) (ha : a < 6) => deedOf_eq e hk ex ez (by omega : j ≤ 40) ha
  have ry := (r.1.2.2 k hk).2.2.1.2 j hj
  unfold Rdoes
  refine ok_be (o 1 1 rfl (by decide)) (ok_be (o 0 0 rfl (by decide)) ?_)
  rw [Nat.add_zero]
  revert h4 ry
  generalize t 65 (928 + 201 * k + 1 + 5 * j + 1) = a1
  generalize t 65 (928 + 201 * k + 1 + 5 * j) = a0
  intro h4 ry
  unfold Rdoes_13
  refine ok_i (fun c0 => ?_) (fun _ => ok_i (fun c0 => ?_) (fun _ => ok_i (fun c0 => ?_) (fun _ => ok_i (fun c0 => ?_) (fun _ => ok_i (fun c0 => ?_) (fun c0 => ?_)))))
  · have d : DV t (up t 64 15 a1) := DV_up (by omega)
    exact ok_b (moves_ok (QI_RI d.1 r) (d.2.2 q)) (fun u hu => ok_s (DV_tr d (DV_MV hu)))
  · refine ok_s ⟨QI_up QI_rfl (by omega) (by omega), fun i hi => up_bn (by omega), fun q => ?_⟩
    refine ⟨?_, ?_, ?_⟩
    · rw [up_b (by decide)]; exact q.1
    · rw [up_a]; exact ry.1 c0
    · rw [up_b (by decide)]; exact q.2.2
  · obtain ⟨m, em, hm⟩ := ry.2 c0
    refine ok_be (o 2 2 rfl (by decide)) (ok_be (wr_nI em (by omega) (by decide)) (ok_s ?_))
    exact ⟨QI_up QI_rfl (by omega) (by omega), fun i hi => by rw [up_n (by omega)], fun q => by
      unfold QS at *
      rw [up_n (by omega)]; exact q⟩
  · refine ok_s ⟨QI_up QI_rfl (by omega) (by omega), fun i hi => up_bn (by omega), fun q => ?_⟩
    refine ⟨?_, ?_, ?_⟩
    · rw [up_b (by decide)]; exact q.1
    · rw [up_b (by decide)]; exact q.2.1
    · rw [up_a]; exact NB_and q.2.2
  · obtain ⟨m, hm, em⟩ := h4 c0
    refine ok_be (wr_nI em hm (by decide)) (ok_s ?_)
    refine ⟨QI_up (QI_up QI_rfl (by omega) (by omega)) (by omega) (by omega), fun i hi => by rw [up_n (by omega), up_bn (by omega)], fun q => ?_⟩
    refine ⟨?_, ?_, ?_⟩
    · rw [up_n (by omega), up_b (by decide)]; exact q.1
    · rw [up_n (by omega), up_b (by decide)]; exact q.2.1
    · rw [up_n (by omega), up_a, em]; exact NB_or q.2.2 (NB_bit hm)
  · exact ok_s (DV_MV (MV_KQ comm_KQ))
theorem runs_l {y : Int32} {k : Nat} (hk : k < 2) : ∀ (n d z : Nat) (t : SG), RI t → QS t → OK1 t → t 64 29 = nI (928 + 201 * k) → t 64 26 = nI d → d + n = 40 → n ≤ z → ok (Rruns_0 (Rruns_R z) t y) (fun u => QI t u ∧ QS u) := by
  intro n
  induction n with
  | zero =>
    intro d z t r q h1 e e2 hd hz
    obtain ⟨m, em, hm⟩ := (r.1.2.2 k hk).2.2.1.1
    unfold Rruns_0
    refine ok_i (fun _ => ok_s ⟨QI_rfl, q⟩) (fun _ => ok_be (deeds_eq e hk) ?_)
    rw [if_pos]
    · exact ok_s ⟨QI_rfl, q⟩
    · rw [em, e2, Int32.le_iff_toInt_le, nI_toInt (by omega), nI_toInt (by omega)]; omega
  | succ n ih =>
    intro d z t r q h1 e e2 hd hz
    obtain ⟨z, rfl⟩ : ∃ z', z = z' + 1 := ⟨z - 1, by omega⟩
    unfold Rruns_0
    refine ok_i (fun _ => ok_s ⟨QI_rfl, q⟩) (fun _ => ok_be (deeds_eq e hk) (ok_i (fun _ => ok_s ⟨QI_rfl, q⟩) (fun _ => ?_)))
    refine ok_b (can_ok r q h1 e hk e2 (by omega)) (fun p hp => ok_i (fun _ => ok_s ⟨hp.1.1, KQ_QS hp.1 q⟩) (fun c => ?_))
    have r2 := QI_RI hp.1.1 r
    have q2 := KQ_QS hp.1 q
    have e3 : p.2 64 29 = nI (928 + 201 * k) := by rw [hp.1.2 29 (by unfold KJ; omega)]; exact e
    have e4 : p.2 64 26 = nI d := by rw [hp.1.2 26 (by unfold KJ; omega)]; exact e2
    refine ok_b (does_ok r2 q2 e3 hk e4 (by omega) (fun g => ?_)) (fun u hu => ?_)
    · rw [hp.1.1.1] at g ⊢
      exact hp.2 g c
    · have r3 := QI_RI hu.1 r2
      have q3 := hu.2.2 q2
      have d1 : DV u (up u 64 26 (u 64 26 + 1)) ∨ True := Or.inr trivial
      have qi : QI u (up u 64 26 (u 64 26 + 1)) := QI_up QI_rfl (by omega) (by omega)
      have e5 : u 64 26 = nI d := by rw [hu.2.1 26 (by omega)]; exact e4
      show ok (Rruns_0 (Rruns_R z) (up u 64 26 (u 64 26 + 1)) y) _
      refine ok_w (ih (d + 1) z _ (QI_RI qi r3) ?_ ?_ ?_ ?_ (by omega) (by omega)) (fun v hv => ⟨QI_tr hp.1.1 (QI_tr hu.1 (QI_tr qi hv.1)), hv.2⟩)
      · unfold QS at *
        rw [up_b (by decide), up_b (by decide), up_b (by decide)]; exact q3
      · obtain ⟨i, hi, ei⟩ := h1
        refine ⟨i, hi, ?_⟩
        rw [up_b (by decide), hu.2.1 17 (by omega), hp.1.2 17 (by unfold KJ; omega)]; exact ei
      · rw [up_b (by decide), hu.2.1 29 (by omega)]; exact e3
      · rw [up_a, e5, nI_succ]
theorem areTold_ok {s : SG} {x y z : Int32} (r : RI s) : ok (RareTold s x y z) (fun p => QI s p.2 ∧ (p.1 = 0 ∨ QS p.2 ∧ OK1 p.2 ∧ p.2 64 26 = 0 ∧ ∃ k, k < 2 ∧ p.2 64 29 = nI (928 + 201 * k))) := by
  unfold RareTold
  refine ok_b (isRepublic_ok r) (fun p hp => ok_i (fun _ => ok_s ⟨hp.1, Or.inl rfl⟩) (fun c => ?_))
  obtain ⟨q, e26⟩ := hp.2.resolve_left c
  have r2 := QI_RI hp.1 r
  refine ok_b (areOrders_ok r2) (fun v hv => ok_i (fun _ => ok_s ⟨QI_tr hp.1 hv.1, Or.inl rfl⟩) (fun c2 => ?_))
  have o1 := hv.2.2.resolve_left c2
  have r3 := QI_RI hv.1 r2
  have q3 : QS v.2 := by
    unfold QS at *
    rw [hv.2.1 11 (by omega), hv.2.1 16 (by omega), hv.2.1 18 (by omega)]; exact q
  refine ok_be (q_isOf rfl (by decide)) (ok_i (fun _ => ok_s ⟨QI_tr hp.1 hv.1, Or.inl rfl⟩) (fun c3 => ?_))
  obtain ⟨k, ek, hk⟩ := isOf_k r3 (by decide) c3
  refine ok_s ⟨QI_tr hp.1 (QI_up hv.1 (by omega) (by omega)), Or.inr ⟨?_, ?_, ?_, k, hk, ?_⟩⟩
  · show QS (up v.2 64 29 (RplaceOf 2 z))
    unfold QS at *
    rw [up_b (by decide), up_b (by decide), up_b (by decide)]; exact q3
  · obtain ⟨i, hi, ei⟩ := o1
    exact ⟨i, hi, by show up v.2 64 29 (RplaceOf 2 z) 64 17 = _; rw [up_b (by decide)]; exact ei⟩
  · show up v.2 64 29 (RplaceOf 2 z) 64 26 = _
    rw [up_b (by decide), hv.2.1 26 (by omega)]; exact e26
  · show up v.2 64 29 (RplaceOf 2 z) 64 29 = _
    rw [up_a, ek, place2]
theorem stop_ok {s : SG} {x y z : Int32} (r : RI s) : ok (Rstop s x y z) (fun p => QI s p.2) := by
  unfold Rstop
  refine ok_b (areTold_ok r) (fun p hp => ok_i (fun _ => ok_s hp.1) (fun c => ?_))
  obtain ⟨q, o1, e26, k, hk, e⟩ := hp.2.resolve_left c
  refine ok_b (runs_l hk 40 0 xF p.2 (QI_RI hp.1 r) q o1 e e26 rfl (by have := xF_ge; omega)) (fun u hu => ok_s (QI_tr hp.1 hu.1))
theorem state_ok {s : SG} {x y z n w : Int32} (r : RI s) : ok (Rstate s x y z n w) (fun p => QI s p.2) := by
  unfold Rstate
  refine ok_b (areTold_ok r) (fun p hp => ok_i (fun _ => ok_s hp.1) (fun c => ?_))
  obtain ⟨q, o1, e26, k, hk, e⟩ := hp.2.resolve_left c
  have r2 := QI_RI hp.1 r
  refine ok_i (fun _ => ?_) (fun _ => ok_s hp.1)
  refine ok_b (runs_l hk 40 0 xF p.2 r2 q o1 e e26 rfl (by have := xF_ge; omega)) (fun u hu => ?_)
  have q2 := QI_tr hp.1 hu.1
  have r3 := QI_RI q2 r
  refine ok_i (fun _ => ?_) (fun _ => ok_s q2)
  refine ok_be (q_isMinister (QS_RH hu.2)) (ok_i (fun _ => ok_i (fun _ => ?_) (fun c3 => ?_)) (fun c3 => ?_))
  · unfold Rstate_84
    repeat' (first | exact ok_s q2 | refine ok_i (fun _ => ?_) (fun _ => ?_))
    exact ok_be (q_votesOf (QS_RH hu.2) (QS_MZ r3 hu.2)) (ok_be (q_of (a := 1) (QS_RH hu.2) rfl (by decide)) (ok_i (fun _ => ok_s q2) (fun _ => ok_s q2)))
  · obtain ⟨a, ea, ha⟩ := inI_lo (a := 10) (b := 12) (by decide) (by decide) c3
    refine ok_be (rd_nI (e := a) ?_ (by omega) (by decide)) (ok_s q2)
    rw [ea]
    exact nI_subl (a := 10)
  · obtain ⟨m, em, _, hm⟩ := mn_k r3 hu.2 c3
    exact ok_be (rd_nI em hm (by decide)) (ok_s q2)
end XRE
