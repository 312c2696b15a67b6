section XRI
variable {sc : Nat × (Nat → Int32)} {d : Nat} {K : List KD} {r q t a B m : Nat} {w : EW}
/-! the reference: seats, leaks -/
def MH2 (t u : SG) : Prop := QI t u ∧ u 64 = t 64
theorem MH2_rfl {t : SG} : MH2 t t := ⟨QI_rfl, rfl⟩
theorem MH2_tr {s t u : SG} (h : MH2 s t) (g : MH2 t u) : MH2 s u := ⟨QI_tr h.1 g.1, g.2.trans h.2⟩
theorem MH2_QS {t u : SG} (h : MH2 t u) (q : QS t) : QS u := by
  unfold QS at *
  rw [h.2]; exact q
theorem MH2_OKs {t u : SG} {k : Nat} (h : MH2 t u) (e : OKs t k) : OKs u k := by
  unfold OKs at *
  rw [h.2]; exact e
theorem MH2_msz {t u : SG} (h : MH2 t u) : msz u = msz t := by
  unfold msz ofN rh
  rw [h.1.1, h.2]
/-- a republic is looked at, whatever the season -/
def QR (t : SG) : Prop := ∃ k, k < 2 ∧ t 64 11 = nI (610 + 118 * k)
theorem QR_rh {t : SG} (h : QR t) : ∃ k, k < 2 ∧ rh t = 610 + 118 * k := by
  obtain ⟨k, hk, e⟩ := h
  exact ⟨k, hk, by unfold rh; rw [e, nI_clamp (by omega)]⟩
theorem QR_RH {t : SG} (h : QR t) : RH t := by
  obtain ⟨k, hk, e⟩ := h
  have : rh t = 610 + 118 * k := by unfold rh; rw [e, nI_clamp (by omega)]
  exact ⟨by rw [this]; exact e, by omega⟩
theorem QR_MZ {t : SG} (r : RI t) (h : QR t) : MZ t := by
  obtain ⟨k, hk, e⟩ := QR_rh h
  obtain ⟨a, ea, ha⟩ := (r.1.2.2 k hk).1.1
  have e1 : ofN t 0 = nI a := by unfold ofN; rw [e]; exact ea
  have e2 : msz t = a := by unfold msz; rw [e1, nI_clamp (by omega)]
  exact ⟨by rw [e2]; exact e1, by omega⟩
theorem mn_r {t : SG} {m : Int32} (r : RI t) (q : QR t) (h : ¬ mnN t m = 0) : ∃ j, m = nI j ∧ j < 6 := by
  obtain ⟨e, h6⟩ := QR_MZ r q
  unfold mnN at h
  rw [e] at h
  obtain ⟨j, ej, hj⟩ := inI_sub (by omega) h
  exact ⟨j, ej, by omega⟩
/-- who sits where, by a code -/
theorem code_n {c : Nat} (hc : c < 216) : (nI c / 36 = nI (c / 36)) ∧ (nI c / 6 - nI c / 6 / 6 * 6 = nI (c / 6 % 6)) ∧ (nI c - nI c / 6 * 6 = nI (c % 6)) := by
  refine ⟨nI_div (b := 36) (by omega) (by decide) (by decide), ?_, nI_mod (b := 6) (by omega) (by decide) (by decide)⟩
  have e : nI c / 6 = nI (c / 6) := nI_div (b := 6) (by omega) (by decide) (by decide)
  rw [e]
  exact nI_mod (b := 6) (by omega) (by decide) (by decide)
def ST (c : Nat) : Prop := c / 36 < 6 ∧ c / 6 % 6 < 6 ∧ c % 6 < 6
theorem ST_ok {c : Nat} (h : c < 216) : ST c := ⟨by omega, by omega, by omega⟩
theorem areSeats_ok {t : SG} {x : Int32} (q : QR t) : ok (RareSeats t x) (fun v => v = 0 ∨ v = 1) := by
  unfold RareSeats
  refine ok_be (q_isMinister (QR_RH q)) (ok_i (fun _ => ok_s (Or.inl rfl)) (fun _ => ok_be (q_isMinister (QR_RH q)) (ok_i (fun _ => ok_s (Or.inl rfl)) (fun _ => ok_be (q_isMinister (QR_RH q)) (ok_i (fun _ => ok_s (Or.inl rfl)) (fun _ => ?_))))))
  exact ok_i (fun _ => ok_s (Or.inl rfl)) (fun _ => ok_i (fun _ => ok_s (Or.inl rfl)) (fun _ => ok_i (fun _ => ok_s (Or.inl rfl)) (fun _ => ok_s (Or.inr rfl))))
theorem want_n {t : SG} {m a b : Nat} (r : RI t) (q : QR t) (hm : m < 6) (ha : a < 4) (hb : b < 3) : NB (ofN t (16 + 18 * m + 3 * a + b)) 9 := by
  obtain ⟨k, hk, e⟩ := QR_rh q
  have h := (r.1.2.2 k hk).1.2.2.2 m (3 * a + b) hm (by omega)
  unfold ofN
  rw [e, show 610 + 118 * k + (16 + 18 * m + 3 * a + b) = 610 + 118 * k + 16 + 18 * m + (3 * a + b) by omega]
  exact h
theorem proposal_ok {t : SG} {x y : Int32} {c a : Nat} (r : RI t) (q : QR t) (ex : x = nI c) (hc : c < 216) (ey : y = nI a) (ha : a < 4) : ok (Rproposal t x y) (fun v => ∃ p, v = nI p ∧ p < 1000) := by
  obtain ⟨e1, e2, e3⟩ := code_n hc
  subst ex
  have s := ST_ok hc
  obtain ⟨a1, w1, h1⟩ := want_n r q s.1 ha (by decide : 0 < 3)
  obtain ⟨a2, w2, h2⟩ := want_n r q s.2.1 ha (by decide : 1 < 3)
  obtain ⟨a3, w3, h3⟩ := want_n r q s.2.2 ha (by decide : 2 < 3)
  unfold Rproposal
  refine ok_be (q_wants (z := 0) (b := 0) (QR_RH q) e1 ey rfl s.1 ha (by decide)) (ok_be (q_wants (z := 1) (b := 1) (QR_RH q) e2 ey rfl s.2.1 ha (by decide)) (ok_be (q_wants (z := 2) (b := 2) (QR_RH q) e3 ey rfl s.2.2 ha (by decide)) (ok_s ?_)))
  rw [w1, w2, w3]
  refine ⟨100 * a1 + 10 * a2 + a3, ?_, by omega⟩
  show nI 100 * nI a1 + nI 10 * nI a2 + nI a3 = _
  rw [nI_mulx, nI_mulx, nI_add, nI_add]
theorem isSat_l {t : SG} {k c D : Nat} {f : Nat → Nat → Nat} (r : RI t) (q : QR t) (hk : k < 2) (e : OKs t k) (hc : c < 216) (hD : D ≤ 8) (eD : RsummerDays t = some (nI D)) (ef : ∀ j, j < 8 → f j 0 ≤ 3 ∧ (∀ a, a < 4 → f j a ≤ 9) ∧ ∀ (a : Nat) (x y : Int32), a < 4 → x = nI j → y = nI a → RdayOf t x y = some (nI (f j a))) : ∀ (n j z : Nat) (y : Int32), (y = 0 ∨ y = 1) → j + n = D → n ≤ z → ok (RisSat_8 (RisSat_R z) t (nI c) y (nI j)) (fun _ => True) := by
  intro n
  induction n with
  | zero =>
    intro j z y hy hj hz
    have e4 : xrt 4 y = true := by rcases hy with g | g <;> rw [g] <;> rfl
    unfold RisSat_8
    refine ok_be eD ?_
    rw [if_pos (nI_le2 (by omega) (by omega)), e4]
    exact ok_s trivial
  | succ n ih =>
    intro j z y hy hj hz
    obtain ⟨z, rfl⟩ : ∃ z', z = z' + 1 := ⟨z - 1, by omega⟩
    have e4 : xrt 4 y = true := by rcases hy with g | g <;> rw [g] <;> rfl
    have next : ∀ a : Int32, (a = 0 ∨ a = 1) → ok (RisSat_R (z + 1) t (nI c) a (nI j + 1)) (fun _ => True) := by
      intro a ha
      show ok (RisSat_8 (RisSat_R z) t (nI c) a (nI j + 1)) _
      rw [← nI_succ]
      exact ih (j + 1) z a ha (by omega) (by omega)
    have fj := ef j (by omega)
    unfold RisSat_8
    refine ok_be eD ?_
    rw [if_neg (nI_ge (a := j) (b := D) (by omega) (by omega))]
    refine ok_i (fun _ => ?_) (fun _ => ?_)
    · rw [e4]; exact ok_s trivial
    · refine ok_be (fj.2.2 0 (nI j) 0 (by decide) rfl rfl) (ok_b (proposal_ok r q rfl hc rfl (by have := fj.1; omega)) (fun v _ => ok_b (numberOf_ok e hk rfl (by omega)) (fun w _ => ok_i (fun _ => next _ (Or.inr rfl)) (fun _ => next _ (Or.inl rfl)))))
theorem isSat_ok {t : SG} {k c : Nat} (r : RI t) (q : QR t) (hk : k < 2) (e : OKs t k) (hc : c < 216) : ok (RisSat t (nI c)) (fun _ => True) := by
  obtain ⟨D, f, hD, eD, ef⟩ := summer_n r hk e
  unfold RisSat
  exact ok_b (areSeats_ok q) (fun v hv => isSat_l r q hk e hc hD eD ef D 0 xF v hv (by omega) (by have := xF_ge; omega))
theorem wrB_nI {s : SG} {k n e : Nat} {x v : Int32} (hx : x = nI e) (he : e < n) (hn : n < 2 ^ 31) : ∃ u, wrB s k n x v = some (up s k e u) := by
  refine ⟨vp_nar .boolean v, ?_⟩
  unfold wrB
  rw [hx, xvb_nI he hn, nI_clamp (by omega)]; rfl
theorem MH2_71 {t : SG} {j : Nat} {x : Int32} : MH2 t (up t 71 j x) := ⟨QI_up QI_rfl (by omega) (by omega), up_n (by omega)⟩
theorem unlike26 {a k : Nat} (ha : a < 4) (hk : k < 2) : ∀ (n j z : Nat) (t : SG) (y : Int32), RI t → QR t → OKs t k → j + n = 216 → n ≤ z → ok (Runlike_26 (Runlike_R z).1 (Runlike_R z).2 t (nI a) y (nI j)) (fun p => MH2 t p.2) := by
  intro n
  induction n with
  | zero =>
    intro j z t y r q e hj hz
    unfold Runlike_26
    rw [if_pos (show (216 : Int32) ≤ nI j from k_ge (m := 216) hj)]
    exact ok_s MH2_rfl
  | succ n ih =>
    intro j z t y r q e hj hz
    obtain ⟨z, rfl⟩ : ∃ z', z = z' + 1 := ⟨z - 1, by omega⟩
    have next : ∀ (u : SG) (b : Int32), MH2 t u → ok ((Runlike_R (z + 1)).2 u (nI a) b (nI j + 1)) (fun p => MH2 t p.2) := by
      intro u b hu
      show ok (Runlike_26 (Runlike_R z).1 (Runlike_R z).2 u (nI a) b (nI j + 1)) _
      rw [← nI_succ]
      have qu : QR u := by unfold QR at *; rw [hu.2]; exact q
      exact ok_w (ih (j + 1) z u b (QI_RI hu.1 r) qu (MH2_OKs hu e) (by omega) (by omega)) (fun p hp => MH2_tr hu hp)
    have e68 : ∀ (p : Nat) (v0 v1 : Int32), p < 1000 → ok (Runlike_68 (Runlike_R (z + 1)).1 (Runlike_R (z + 1)).2 t (nI a) y (nI j) (nI p) v0 v1) (fun p => MH2 t p.2) := by
      intro p v0 v1 hp
      unfold Runlike_68
      obtain ⟨u, eu⟩ := wrB_nI (s := t) (k := 71) (v := 1) (rfl : nI p = nI p) hp (by decide)
      exact ok_be eu (next _ _ MH2_71)
    unfold Runlike_26
    rw [if_neg (show ¬ (216 : Int32) ≤ nI j from k_lt (m := 216) hj (by decide))]
    refine ok_b (isSat_ok r q hk e (by omega)) (fun _ _ => ok_i (fun _ => next t _ MH2_rfl) (fun _ => ?_))
    refine ok_b (proposal_ok r q rfl (by omega) rfl ha) (fun v hv => ?_)
    obtain ⟨p, ep, hp⟩ := hv
    rw [ep]
    exact ok_be (rd_nI rfl hp (by decide)) (ok_i (fun _ => e68 p _ _ hp) (fun _ => e68 p _ _ hp))
theorem unlike2 {a k : Nat} (ha : a < 4) (hk : k < 2) : ∀ (n j z : Nat) (t : SG), RI t → QR t → OKs t k → j + n = 1000 → n + 216 ≤ z → ok (Runlike_2 (Runlike_R z).1 (Runlike_R z).2 t (nI a) (nI j)) (fun p => MH2 t p.2) := by
  intro n
  induction n with
  | zero =>
    intro j z t r q e hj hz
    unfold Runlike_2
    rw [if_pos (show (1000 : Int32) ≤ nI j from k_ge (m := 1000) hj)]
    exact unlike26 ha hk 216 0 z t 0 r q e rfl (by omega)
  | succ n ih =>
    intro j z t r q e hj hz
    obtain ⟨z, rfl⟩ : ∃ z', z = z' + 1 := ⟨z - 1, by omega⟩
    unfold Runlike_2
    rw [if_neg (show ¬ (1000 : Int32) ≤ nI j from k_lt (m := 1000) hj (by decide))]
    obtain ⟨u, eu⟩ := wrB_nI (s := t) (k := 71) (v := 0) (rfl : nI j = nI j) (by omega : j < 1000) (by decide)
    refine ok_be eu ?_
    show ok (Runlike_2 (Runlike_R z).1 (Runlike_R z).2 (up t 71 j u) (nI a) (nI j + 1)) _
    rw [← nI_succ]
    have m1 : MH2 t (up t 71 j u) := MH2_71
    have qu : QR (up t 71 j u) := by unfold QR at *; rw [m1.2]; exact q
    exact ok_w (ih (j + 1) z _ (QI_RI m1.1 r) qu (MH2_OKs m1 e) (by omega) (by omega)) (fun p hp => MH2_tr m1 hp)
theorem unlike_ok {t : SG} {a k : Nat} {x : Int32} (r : RI t) (q : QR t) (hk : k < 2) (e : OKs t k) (ex : x = nI a) (ha : a < 4) : ok (Runlike t x) (fun p => MH2 t p.2) := by
  subst ex
  unfold Runlike
  exact unlike2 ha hk 1000 0 xF t r q e rfl (by have := xF_ge; omega)
theorem seats109 {t : SG} {k : Nat} {y1 y2 y3 : Int32} (r : RI t) (q : QR t) (hk : k < 2) (e : OKs t k) : ∀ (n j z : Nat) (y : Int32), j + n = 216 → n ≤ z → ok (Rseats_109 (Rseats_R z).1 (Rseats_R z).2 t y1 y2 y3 y (nI j)) (fun p => QI t p.2) := by
  intro n
  induction n with
  | zero =>
    intro j z y hj hz
    unfold Rseats_109
    rw [if_pos (show (216 : Int32) ≤ nI j from k_ge (m := 216) hj)]
    exact ok_i (fun _ => ok_s QI_rfl) (fun _ => ok_s QI_rfl)
  | succ n ih =>
    intro j z y hj hz
    obtain ⟨z, rfl⟩ : ∃ z', z = z' + 1 := ⟨z - 1, by omega⟩
    have next : ∀ (b : Int32), ok ((Rseats_R (z + 1)).2 t y1 y2 y3 b (nI j + 1)) (fun p => QI t p.2) := by
      intro b
      show ok (Rseats_109 (Rseats_R z).1 (Rseats_R z).2 t y1 y2 y3 b (nI j + 1)) _
      rw [← nI_succ]
      exact ih (j + 1) z b (by omega) (by omega)
    unfold Rseats_109
    rw [if_neg (show ¬ (216 : Int32) ≤ nI j from k_lt (m := 216) hj (by decide))]
    exact ok_b (isSat_ok r q hk e (by omega)) (fun _ _ => ok_i (fun _ => next _) (fun _ => ok_i (fun _ => ok_s QI_rfl) (fun _ => next _)))
theorem seats36 {k : Nat} {y1 y2 y3 : Int32} (hk : k < 2) : ∀ (n j z b : Nat) (t : SG), RI t → QR t → OKs t k → b < 4 → j + n = 4 → n ≤ z → ok (Rseats_36 (Rseats_R z).1 (Rseats_R z).2 t y1 y2 y3 (nI b) (nI j)) (fun p => QI t p.2) := by
  intro n
  induction n with
  | zero =>
    intro j z b t r q e hb hj hz
    unfold Rseats_36
    rw [if_pos (show (4 : Int32) ≤ nI j from k_ge (m := 4) hj)]
    refine ok_b (unlike_ok r q hk e rfl hb) (fun p hp => ok_i (fun _ => ok_s hp.1) (fun _ => ok_i (fun _ => ok_s hp.1) (fun _ => ?_)))
    have qu : QR p.2 := by unfold QR at *; rw [hp.2]; exact q
    exact ok_b (unlike_ok (QI_RI hp.1 r) qu hk (MH2_OKs hp e) rfl hb) (fun w hw => ok_s (QI_tr hp.1 hw.1))
  | succ n ih =>
    intro j z b t r q e hb hj hz
    obtain ⟨z, rfl⟩ : ∃ z', z = z' + 1 := ⟨z - 1, by omega⟩
    unfold Rseats_36
    rw [if_neg (show ¬ (4 : Int32) ≤ nI j from k_lt (m := 4) hj (by decide))]
    refine ok_b (unlike_ok r q hk e rfl (by omega : j < 4)) (fun p hp => ?_)
    have qp : QR p.2 := by unfold QR at *; rw [hp.2]; exact q
    have rp := QI_RI hp.1 r
    have ep := MH2_OKs hp e
    refine ok_b (unlike_ok rp qp hk ep rfl hb) (fun w hw => ?_)
    have qw : QR w.2 := by unfold QR at *; rw [hw.2]; exact qp
    have next : ∀ b2, b2 < 4 → ok ((Rseats_R (z + 1)).1 w.2 y1 y2 y3 (nI b2) (nI j + 1)) (fun p => QI t p.2) := by
      intro b2 h2
      show ok (Rseats_36 (Rseats_R z).1 (Rseats_R z).2 w.2 y1 y2 y3 (nI b2) (nI j + 1)) _
      rw [← nI_succ]
      exact ok_w (ih (j + 1) z b2 w.2 (QI_RI hw.1 rp) qw (MH2_OKs hw ep) h2 (by omega) (by omega)) (fun v hv => QI_tr hp.1 (QI_tr hw.1 hv))
    exact ok_i (fun _ => next b hb) (fun _ => next j (by omega))
theorem seats_ok {s : SG} {x y z : Int32} (r : RI s) : ok (Rseats s x y z) (fun p => QI s p.2) := by
  have hF := xF_ge
  unfold Rseats
  refine ok_b (isRepublic_ok r) (fun p hp => ok_i (fun _ => ok_s hp.1) (fun c => ?_))
  have q : QS p.2 := (hp.2.resolve_left c).1
  have r2 := QI_RI hp.1 r
  refine ok_b (isSummer_ok r2) (fun w hw => ok_i (fun _ => ok_s (QI_tr hp.1 hw.1)) (fun c2 => ?_))
  obtain ⟨k, hk, e⟩ := hw.2.2.resolve_left c2
  have q1 := QI_tr hp.1 hw.1
  have r3 := QI_RI q1 r
  have q3 : QR w.2 := by
    unfold QR
    rw [hw.2.1 11 (by omega)]; exact q.1
  refine ok_i (fun _ => ok_i (fun _ => ?_) (fun _ => ?_)) (fun _ => ok_s q1)
  · exact ok_w (seats109 r3 q3 hk e 216 0 xF 0 rfl (by omega)) (fun v hv => QI_tr q1 hv)
  · exact ok_w (seats36 hk 3 1 xF 0 w.2 r3 q3 e (by decide) rfl (by omega)) (fun v hv => QI_tr q1 hv)
/-- what rainy leaves: all but the talk, the mover and the season -/
def RYq (t u : SG) : Prop := QI t u ∧ u 64 11 = t 64 11
theorem rainy_l {c : Nat} (hc : c < 216) : ∀ (n a z : Nat) (t : SG) (y : Int32), RI t → QR t → NB (t 64 18) 63 → t 64 16 = nI a → a + n = 4 → n ≤ z → ok (Rrainy_15 (Rrainy_R z) t (nI c) y) (fun p => RYq t p.2 ∧ p.2 64 18 = t 64 18) := by
  intro n
  induction n with
  | zero =>
    intro a z t y r q b e ha hz
    unfold Rrainy_15
    rw [e, if_pos (show (4 : Int32) ≤ nI a from k_ge (m := 4) ha)]
    exact ok_s ⟨⟨QI_rfl, rfl⟩, rfl⟩
  | succ n ih =>
    intro a z t y r q b e ha hz
    obtain ⟨z, rfl⟩ : ∃ z', z = z' + 1 := ⟨z - 1, by omega⟩
    unfold Rrainy_15
    rw [e, if_neg (show ¬ (4 : Int32) ≤ nI a from k_lt (m := 4) ha (by decide))]
    refine ok_b (proposal_ok r q rfl hc rfl (by omega)) (fun v _ => ?_)
    have kq : KQ t (RtalksOf t v) := talks_KQ
    have r2 := QI_RI kq.1 r
    have q2 : QS (RtalksOf t v) := by
      refine ⟨?_, ?_, ?_⟩
      · rw [kq.2 11 (by unfold KJ; omega)]; exact q
      · rw [kq.2 16 (by unfold KJ; omega), e]; exact ⟨a, rfl, by omega⟩
      · rw [kq.2 18 (by unfold KJ; omega)]; exact b
    have next : ∀ v0 v1 : Int32, ok (Rrainy_60 (Rrainy_R (z + 1)) (RtalksOf t v) (nI c) y v0 v1) (fun p => RYq t p.2 ∧ p.2 64 18 = t 64 18) := by
      intro v0 v1
      unfold Rrainy_60
      have qi : QI (RtalksOf t v) (up (RtalksOf t v) 64 16 (RtalksOf t v 64 16 + 1)) := QI_up QI_rfl (by omega) (by omega)
      show ok (Rrainy_15 (Rrainy_R z) (up (RtalksOf t v) 64 16 (RtalksOf t v 64 16 + 1)) (nI c) _) _
      refine ok_w (ih (a + 1) z _ _ (QI_RI qi r2) ?_ ?_ ?_ (by omega) (by omega)) (fun p hp => ⟨⟨QI_tr kq.1 (QI_tr qi hp.1.1), ?_⟩, ?_⟩)
      · unfold QR
        rw [up_b (by decide)]; exact q2.1
      · rw [up_b (by decide)]; exact q2.2.2
      · rw [up_a, kq.2 16 (by unfold KJ; omega), e, nI_succ]
      · rw [hp.1.2, up_b (by decide), kq.2 11 (by unfold KJ; omega)]
      · rw [hp.2, up_b (by decide), kq.2 18 (by unfold KJ; omega)]
    refine ok_i (fun _ => next _ _) (fun _ => ok_be (q_agreeing (QS_RH q2) (QS_SE q2) (QS_MZ r2 q2)) (ok_be (q_isPassed (QS_RH q2) (QS_MZ r2 q2)) (ok_i (fun _ => next _ _) (fun _ => next _ _))))
theorem reshuffle_l {y1 y2 : Int32} : ∀ (n j z : Nat) (t : SG) (a b : Int32), RI t → QR t → NB (t 64 18) 63 → j + n = 216 → n ≤ z → ok (Rreshuffle_18 (Rreshuffle_R z) t y1 y2 a b (nI j)) (fun p => QI t p.2) := by
  intro n
  induction n with
  | zero =>
    intro j z t a b r q e hj hz
    unfold Rreshuffle_18
    rw [if_pos (show (216 : Int32) ≤ nI j from k_ge (m := 216) hj)]
    exact ok_i (fun _ => ok_s QI_rfl) (fun _ => ok_s QI_rfl)
  | succ n ih =>
    intro j z t a b r q e hj hz
    obtain ⟨z, rfl⟩ : ∃ z', z = z' + 1 := ⟨z - 1, by omega⟩
    have next : ∀ (u : SG) (a b : Int32), RYq t u → u 64 18 = t 64 18 → ok (Rreshuffle_R (z + 1) u y1 y2 a b (nI j + 1)) (fun p => QI t p.2) := by
      intro u a b hu h18
      show ok (Rreshuffle_18 (Rreshuffle_R z) u y1 y2 a b (nI j + 1)) _
      rw [← nI_succ]
      have qu : QR u := by unfold QR at *; rw [hu.2]; exact q
      exact ok_w (ih (j + 1) z u a b (QI_RI hu.1 r) qu (by rw [h18]; exact e) (by omega) (by omega)) (fun p hp => QI_tr hu.1 hp)
    unfold Rreshuffle_18
    rw [if_neg (show ¬ (216 : Int32) ≤ nI j from k_lt (m := 216) hj (by decide))]
    refine ok_b (areSeats_ok q) (fun _ _ => ok_i (fun _ => next t _ _ ⟨QI_rfl, rfl⟩ rfl) (fun _ => ?_))
    have qi : QI t (up (up t 64 15 (nI j / 36)) 64 16 0) := QI_up (QI_up QI_rfl (by omega) (by omega)) (by omega) (by omega)
    have q2 : QR (up (up t 64 15 (nI j / 36)) 64 16 0) := by
      unfold QR
      rw [up_b (by decide), up_b (by decide)]; exact q
    unfold Rrainy
    refine ok_b (rainy_l (c := j) (by omega) 4 0 xF _ 0 (QI_RI qi r) q2 (by rw [up_b (by decide), up_b (by decide)]; exact e) (by rw [up_a]; rfl) rfl (by have := xF_ge; omega)) (fun p hp => ?_)
    have hu : RYq t p.2 := ⟨QI_tr qi hp.1.1, by rw [hp.1.2, up_b (by decide), up_b (by decide)]⟩
    have h18 : p.2 64 18 = t 64 18 := by rw [hp.2, up_b (by decide), up_b (by decide)]
    unfold Rreshuffle_59
    exact ok_i (fun _ => ok_i (fun _ => next _ _ _ hu h18) (fun _ => next _ _ _ hu h18)) (fun _ => ok_i (fun _ => next _ _ _ hu h18) (fun _ => next _ _ _ hu h18))
theorem reshuffle_ok {s : SG} {x y : Int32} (r : RI s) : ok (Rreshuffle s x y) (fun p => QI s p.2) := by
  unfold Rreshuffle
  refine ok_b (isRepublic_ok r) (fun p hp => ok_i (fun _ => ok_s hp.1) (fun c => ?_))
  have q : QS p.2 := (hp.2.resolve_left c).1
  exact ok_w (reshuffle_l 216 0 xF p.2 (-1) (-1) (QI_RI hp.1 r) q.1 q.2.2 rfl (by have := xF_ge; omega)) (fun v hv => QI_tr hp.1 hv)
/-! leaks -/
def OKl (t : SG) (k : Nat) : Prop := t 64 33 = nI (1330 + 17 * k)
theorem leakOf_eq {t : SG} {x y : Int32} {k j a : Nat} (e : OKl t k) (hk : k < 2) (ex : x = nI j) (ey : y = nI a) (hj : j < 8) (ha : a < 2) : RleakOf t x y = some (t 65 (1330 + 17 * k + 1 + 2 * j + a)) := by
  unfold RleakOf
  unfold OKl at e
  have e2 : t 64 33 + 1 + 2 * x + y = nI (1330 + 17 * k + 1 + 2 * j + a) := by
    rw [e, ex, ey]
    show nI _ + nI 1 + nI 2 * nI j + nI a = _
    rw [nI_mulx, nI_add, nI_add, nI_add]
  rw [rd_nI e2 (by omega) (by decide)]; rfl
theorem leak_ok {s : SG} {x y z : Int32} (r : RI s) : ok (Rleak s x y z) (fun p => QI s p.2) := by
  unfold Rleak
  refine ok_be (q_isOf rfl (by decide)) (ok_i (fun _ => ok_s QI_rfl) (fun c => ?_))
  obtain ⟨k, ek, hk⟩ := isOf_k r (by decide) c
  have q1 : QI s (up s 64 33 (RplaceOf 3 x)) := QI_up QI_rfl (by omega) (by omega)
  have r2 := QI_RI q1 r
  have e : OKl (up s 64 33 (RplaceOf 3 x)) k := by unfold OKl; rw [up_a, ek, place3]
  obtain ⟨n, en, hn⟩ := (r2.1.2.2 k hk).2.2.2.1
  have rd : rdI (up s 64 33 (RplaceOf 3 x)) 65 5768 (RplaceOf 3 x) = some (nI n) := by rw [rd_nI (e := 1330 + 17 * k) (by rw [ek, place3]) (by omega) (by decide), en]
  refine ok_i (fun _ => ok_i (fun _ => ok_be rd (ok_s q1)) (fun _ => ok_s q1)) (fun _ => ok_be rd (ok_i (fun _ => ok_s q1) (fun c2 => ?_)))
  obtain ⟨j, ej, hj⟩ := inI_sub (by omega) c2
  refine ok_i (fun _ => ok_s q1) (fun c3 => ?_)
  obtain ⟨a, ea, ha⟩ := inI_nI (b := 1) (by decide) c3
  exact ok_be (leakOf_eq e hk ej ea (by omega) (by omega)) (ok_s q1)
/-- all leaks tell of ministers that there are -/
def LK (t : SG) (k n : Nat) : Prop := ∀ j, j < n → ∃ m, m < 6 ∧ t 65 (1330 + 17 * k + 1 + 2 * j) = nI m
theorem isFit_l {t : SG} {k n0 : Nat} {y1 y2 : Int32} (r : RI t) (q : QS t) (hk : k < 2) (e : OKl t k) (en : t 65 (1330 + 17 * k) = nI n0) (hn : n0 ≤ 8) (lk : LK t k n0) : ∀ (n j z : Nat) (y : Int32), (y = 0 ∨ y = 1) → j + n = n0 → n ≤ z → ok (RisFit_10 (RisFit_R z) t y1 y2 y (nI j)) (fun p => p.2 = t) := by
  have rd : rdI t 65 5768 (t 64 33) = some (nI n0) := by unfold OKl at e; rw [rd_nI e (by omega) (by decide), en]
  intro n
  induction n with
  | zero =>
    intro j z y hy hj hz
    have e4 : xrt 4 y = true := by rcases hy with g | g <;> rw [g] <;> rfl
    unfold RisFit_10
    refine ok_be rd ?_
    rw [if_pos (nI_le2 (by omega) (by omega)), e4]
    exact ok_s rfl
  | succ n ih =>
    intro j z y hy hj hz
    obtain ⟨z, rfl⟩ : ∃ z', z = z' + 1 := ⟨z - 1, by omega⟩
    have e4 : xrt 4 y = true := by rcases hy with g | g <;> rw [g] <;> rfl
    have next : ∀ a : Int32, (a = 0 ∨ a = 1) → ok (RisFit_R (z + 1) t y1 y2 a (nI j + 1)) (fun p => p.2 = t) := by
      intro a ha
      show ok (RisFit_10 (RisFit_R z) t y1 y2 a (nI j + 1)) _
      rw [← nI_succ]
      exact ih (j + 1) z a ha (by omega) (by omega)
    have e61 : ∀ v0 v1 : Int32, ok (RisFit_61 (RisFit_R (z + 1)) t y1 y2 y (nI j) v0 v1) (fun p => p.2 = t) := by
      intro v0 v1
      unfold RisFit_61
      exact ok_i (fun _ => next _ (Or.inr rfl)) (fun _ => next _ (Or.inl rfl))
    obtain ⟨m, hm, em⟩ := lk j (by omega)
    unfold RisFit_10
    refine ok_be rd ?_
    rw [if_neg (nI_ge (a := j) (b := n0) (by omega) (by omega))]
    refine ok_i (fun _ => ?_) (fun _ => ok_i (fun _ => next _ (Or.inr rfl)) (fun _ => ?_))
    · rw [e4]; exact ok_s rfl
    · refine ok_be (leakOf_eq (y := 0) (a := 0) e hk rfl rfl (by omega) (by decide)) ?_
      rw [Nat.add_zero, em]
      exact ok_be (q_agrees (QS_RH q) (QS_SE q) rfl hm) (ok_be (leakOf_eq (y := 1) (a := 1) e hk rfl rfl (by omega) (by decide)) (ok_i (fun _ => e61 _ _) (fun _ => e61 _ _)))
theorem isFit_ok {t : SG} {k n0 : Nat} {x y : Int32} (r : RI t) (q : QS t) (hk : k < 2) (e : OKl t k) (en : t 65 (1330 + 17 * k) = nI n0) (hn : n0 ≤ 8) (lk : LK t k n0) : ok (RisFit t x y) (fun p => KQ t p.2) := by
  have kq : KQ t (RtalksOf t x) := talks_KQ
  unfold RisFit
  refine ok_w (isFit_l (n0 := n0) (QI_RI kq.1 r) (KQ_QS kq q) hk (by unfold OKl at *; rw [kq.2 33 (by unfold KJ; omega)]; exact e) (by rw [kq.1.1]; exact en) hn (by unfold LK at *; rw [kq.1.1]; exact lk) n0 0 xF 1 (Or.inr rfl) (by omega) (by have := xF_ge; omega)) (fun p hp => by rw [hp]; exact kq)
/-- a query of leaks goes on -/
def LQ (t : SG) (k n0 : Nat) : Prop := RI t ∧ QS t ∧ OKl t k ∧ t 65 (1330 + 17 * k) = nI n0 ∧ LK t k n0
theorem LQ_KQ {t u : SG} {k n0 : Nat} (h : KQ t u) (l : LQ t k n0) : LQ u k n0 := by
  obtain ⟨r, q, e, en, lk⟩ := l
  refine ⟨QI_RI h.1 r, KQ_QS h q, ?_, ?_, ?_⟩
  · unfold OKl at *; rw [h.2 33 (by unfold KJ; omega)]; exact e
  · rw [h.1.1]; exact en
  · unfold LK at *; rw [h.1.1]; exact lk
theorem fitting_l {k n0 : Nat} {y1 : Int32} (hk : k < 2) (hn : n0 ≤ 8) : ∀ (n j z c : Nat) (t : SG), LQ t k n0 → j + n = 1000 → n ≤ z → c ≤ j → ok (Rfitting_4 (Rfitting_R z) t y1 (nI c) (nI j)) (fun p => KQ t p.2 ∧ ∃ v, p.1 = nI v ∧ v ≤ 1000) := by
  intro n
  induction n with
  | zero =>
    intro j z c t l hj hz hc
    unfold Rfitting_4
    rw [if_pos (show (1000 : Int32) ≤ nI j from k_ge (m := 1000) hj)]
    exact ok_s ⟨KQ_rfl, c, rfl, by omega⟩
  | succ n ih =>
    intro j z c t l hj hz hc
    obtain ⟨z, rfl⟩ : ∃ z', z = z' + 1 := ⟨z - 1, by omega⟩
    have next : ∀ (u : SG) (c2 : Nat), KQ t u → c2 ≤ j + 1 → ok (Rfitting_R (z + 1) u y1 (nI c2) (nI j + 1)) (fun p => KQ t p.2 ∧ ∃ v, p.1 = nI v ∧ v ≤ 1000) := by
      intro u c2 hu h2
      show ok (Rfitting_4 (Rfitting_R z) u y1 (nI c2) (nI j + 1)) _
      rw [← nI_succ]
      exact ok_w (ih (j + 1) z c2 u (LQ_KQ hu l) (by omega) (by omega) h2) (fun p hp => ⟨KQ_tr hu hp.1, hp.2⟩)
    have l2 := l
    obtain ⟨r, q, e, en, lk⟩ := l2
    unfold Rfitting_4
    rw [if_neg (show ¬ (1000 : Int32) ≤ nI j from k_lt (m := 1000) hj (by decide))]
    refine ok_b (isFit_ok r q hk e en hn lk) (fun p hp => ok_i (fun _ => ?_) (fun _ => ?_))
    · have e0 : nI c + (0 : Int32) = nI c := by show nI c + nI 0 = _; rw [nI_add, Nat.add_zero]
      rw [e0]; exact next p.2 c hp (by omega)
    · have e1 : nI c + (1 : Int32) = nI (c + 1) := (nI_succ c).symm
      rw [e1]; exact next p.2 (c + 1) hp (by omega)
theorem rainyFit_l {k n0 : Nat} (hk : k < 2) (hn : n0 ≤ 8) : ∀ (n j z c : Nat) (t : SG), LQ t k n0 → j + n = 1000 → n ≤ z → c ≤ j → ok (RrainyFit_5 (RrainyFit_R z) t (nI c) (nI j)) (fun p => KQ t p.2 ∧ ∃ v, p.1 = nI v ∧ v ≤ 1000) := by
  intro n
  induction n with
  | zero =>
    intro j z c t l hj hz hc
    unfold RrainyFit_5
    rw [if_pos (show (1000 : Int32) ≤ nI j from k_ge (m := 1000) hj)]
    exact ok_s ⟨KQ_rfl, c, rfl, by omega⟩
  | succ n ih =>
    intro j z c t l hj hz hc
    obtain ⟨z, rfl⟩ : ∃ z', z = z' + 1 := ⟨z - 1, by omega⟩
    have next : ∀ (u : SG) (c2 : Nat), KQ t u → c2 ≤ j + 1 → ok (RrainyFit_R (z + 1) u (nI c2) (nI j + 1)) (fun p => KQ t p.2 ∧ ∃ v, p.1 = nI v ∧ v ≤ 1000) := by
      intro u c2 hu h2
      show ok (RrainyFit_5 (RrainyFit_R z) u (nI c2) (nI j + 1)) _
      rw [← nI_succ]
      exact ok_w (ih (j + 1) z c2 u (LQ_KQ hu l) (by omega) (by omega) h2) (fun p hp => ⟨KQ_tr hu hp.1, hp.2⟩)
    have l2 := l
    obtain ⟨r, q, e, en, lk⟩ := l2
    unfold RrainyFit_5
    rw [if_neg (show ¬ (1000 : Int32) ≤ nI j from k_lt (m := 1000) hj (by decide))]
    refine ok_b (isFit_ok r q hk e en hn lk) (fun p hp => ok_i (fun _ => ?_) (fun _ => ?_))
    · have e0 : nI c + (0 : Int32) = nI c := by show nI c + nI 0 = _; rw [nI_add, Nat.add_zero]
      rw [e0]; exact next p.2 c hp (by omega)
    · have e1 : nI c + (1 : Int32) = nI (c + 1) := (nI_succ c).symm
      rw [e1]; exact next p.2 (c + 1) hp (by omega)
theorem extreme_l {k n0 : Nat} {y1 y2 : Int32} (hk : k < 2) (hn : n0 ≤ 8) : ∀ (n j z : Nat) (t : SG) (y : Int32), LQ t k n0 → j + n = 1000 → n ≤ z → ok (Rextreme_5 (Rextreme_R z) t y1 y2 y (nI j)) (fun p => KQ t p.2) := by
  intro n
  induction n with
  | zero =>
    intro j z t y l hj hz
    unfold Rextreme_5
    rw [if_pos (show (1000 : Int32) ≤ nI j from k_ge (m := 1000) hj)]
    exact ok_s KQ_rfl
  | succ n ih =>
    intro j z t y l hj hz
    obtain ⟨z, rfl⟩ : ∃ z', z = z' + 1 := ⟨z - 1, by omega⟩
    have next : ∀ (u : SG) (b : Int32), KQ t u → ok (Rextreme_R (z + 1) u y1 y2 b (nI j + 1)) (fun p => KQ t p.2) := by
      intro u b hu
      show ok (Rextreme_5 (Rextreme_R z) u y1 y2 b (nI j + 1)) _
      rw [← nI_succ]
      exact ok_w (ih (j + 1) z u b (LQ_KQ hu l) (by omega) (by omega)) (fun p hp => KQ_tr hu hp)
    obtain ⟨r, q, e, en, lk⟩ := l
    unfold Rextreme_5
    rw [if_neg (show ¬ (1000 : Int32) ≤ nI j from k_lt (m := 1000) hj (by decide))]
    refine ok_b (isFit_ok r q hk e en hn lk) (fun p hp => ok_i (fun _ => next _ _ hp) (fun _ => ok_i (fun _ => next _ _ hp) (fun _ => ok_i (fun _ => ok_i (fun _ => next _ _ hp) (fun _ => next _ _ hp)) (fun _ => ok_i (fun _ => next _ _ hp) (fun _ => next _ _ hp)))))
theorem fits144 {k n0 : Nat} {y1 y2 y3 y4 y5 y6 : Int32} (hk : k < 2) (hn : n0 ≤ 8) : ∀ (n j z : Nat) (t : SG) (y : Int32), LQ t k n0 → j + n = n0 → n ≤ z → ok (Rfits_144 (Rfits_R z).1 (Rfits_R z).2 t y1 y2 y3 y4 y5 y6 y (nI j)) (fun p => QI t p.2) := by
  intro n
  induction n with
  | zero =>
    intro j z t y l hj hz
    obtain ⟨r, q, e, en, lk⟩ := l
    have rd : rdI t 65 5768 (t 64 33) = some (nI n0) := by unfold OKl at e; rw [rd_nI e (by omega) (by decide), en]
    unfold Rfits_144
    refine ok_be rd ?_
    rw [if_pos (nI_le2 (by omega) (by omega))]
    exact ok_s QI_rfl
  | succ n ih =>
    intro j z t y l hj hz
    obtain ⟨z, rfl⟩ : ∃ z', z = z' + 1 := ⟨z - 1, by omega⟩
    have l2 := l
    obtain ⟨r, q, e, en, lk⟩ := l2
    have rd : rdI t 65 5768 (t 64 33) = some (nI n0) := by unfold OKl at e; rw [rd_nI e (by omega) (by decide), en]
    unfold Rfits_144
    refine ok_be rd (ok_i (fun _ => ok_s QI_rfl) (fun _ => ok_i (fun _ => ?_) (fun _ => ok_s QI_rfl)))
    unfold Rfitting
    refine ok_b (fitting_l hk hn 1000 0 xF 0 t l rfl (by have := xF_ge; omega) (by omega)) (fun p hp => ?_)
    have next : ∀ (b : Int32), ok ((Rfits_R (z + 1)).2 p.2 y1 y2 y3 y4 y5 y6 b (nI j + 1)) (fun p => QI t p.2) := by
      intro b
      show ok (Rfits_144 (Rfits_R z).1 (Rfits_R z).2 p.2 y1 y2 y3 y4 y5 y6 b (nI j + 1)) _
      rw [← nI_succ]
      exact ok_w (ih (j + 1) z p.2 b (LQ_KQ hp.1 l) (by omega) (by omega)) (fun v hv => QI_tr hp.1.1 hv)
    exact ok_i (fun _ => next _) (fun _ => next _)
theorem fits38 {t : SG} {k n0 : Nat} {y1 y2 y3 y4 y5 : Int32} (r : RI t) (q : QS t) (hk : k < 2) (e : OKl t k) (en : t 65 (1330 + 17 * k) = nI n0) (hn : n0 ≤ 8) : ∀ (n j z : Nat), (∀ i, i < j → ∃ m, m < 6 ∧ t 65 (1330 + 17 * k + 1 + 2 * i) = nI m) → j + n = n0 → n + 8 ≤ z → ok (Rfits_38 (Rfits_R z).1 (Rfits_R z).2 t y1 y2 y3 y4 y5 (nI j)) (fun p => QI t p.2) := by
  have hF := xF_ge
  have rd : rdI t 65 5768 (t 64 33) = some (nI n0) := by unfold OKl at e; rw [rd_nI e (by omega) (by decide), en]
  intro n
  induction n with
  | zero =>
    intro j z lk hj hz
    have l : LQ t k n0 := ⟨r, q, e, en, fun i hi => lk i (by omega)⟩
    unfold Rfits_38
    refine ok_be rd ?_
    rw [if_pos (nI_le2 (by omega) (by omega))]
    unfold Rfitting
    refine ok_b (fitting_l hk hn 1000 0 xF 0 t l rfl (by omega) (by omega)) (fun p hp => ?_)
    obtain ⟨kq, v, ev, hv⟩ := hp
    have l2 := LQ_KQ kq l
    have e102 : ok (Rfits_102 (Rfits_R z).1 (Rfits_R z).2 p.2 y1 y2 y3 y4 y5 p.1) (fun p => QI t p.2) := by
      unfold Rfits_102
      refine ok_i (fun _ => ok_s kq.1) (fun c => ?_)
      unfold RrainyFit
      refine ok_b (rainyFit_l hk hn 900 100 xF 0 p.2 l2 rfl (by omega) (by omega)) (fun w hw => ?_)
      obtain ⟨kq2, b, eb, hb⟩ := hw
      have v0 : 0 < v := by
        rcases Nat.eq_zero_or_pos v with g | g
        · exfalso; apply c; rw [ev, g]; rfl
        · exact g
      have e128 : ∀ a : Int32, ok (Rfits_128 (Rfits_R z).1 (Rfits_R z).2 w.2 y1 y2 y3 y4 y5 p.1 a p.1 w.1) (fun p => QI t p.2) := by
        intro a
        unfold Rfits_128
        rw [ev, eb]
        exact ok_b (part_ok (by omega) v0 (by omega)) (fun _ _ => ok_s (QI_tr kq.1 kq2.1))
      exact ok_i (fun _ => e128 _) (fun _ => e128 _)
    refine ok_i (fun _ => ok_s kq.1) (fun _ => ok_i (fun _ => e102) (fun _ => ok_i (fun _ => e102) (fun _ => ok_i (fun _ => ?_) (fun _ => ok_i (fun _ => ok_i (fun _ => ok_s kq.1) (fun _ => ?_)) (fun _ => ?_)))))
    · exact ok_w (fits144 hk hn n0 0 z p.2 0 l2 (by omega) (by omega)) (fun v hv => QI_tr kq.1 hv)
    · unfold Rextreme
      exact ok_b (extreme_l hk hn 1000 0 xF p.2 (-1) l2 rfl (by omega)) (fun v hv => ok_s (QI_tr kq.1 hv.1))
    · unfold Rextreme
      exact ok_b (extreme_l hk hn 1000 0 xF p.2 (-1) l2 rfl (by omega)) (fun v hv => ok_s (QI_tr kq.1 hv.1))
  | succ n ih =>
    intro j z lk hj hz
    obtain ⟨z, rfl⟩ : ∃ z', z = z' + 1 := ⟨z - 1, by omega⟩
    unfold Rfits_38
    refine ok_be rd ?_
    rw [if_neg (nI_ge (a := j) (b := n0) (by omega) (by omega))]
    refine ok_be (leakOf_eq (y := 0) (a := 0) e hk rfl rfl (by omega) (by decide)) (ok_be (q_isMinister (QS_RH q)) (ok_i (fun _ => ok_s QI_rfl) (fun c => ?_)))
    obtain ⟨m, em, _, hm⟩ := mn_k r q c
    show ok (Rfits_38 (Rfits_R z).1 (Rfits_R z).2 t y1 y2 y3 y4 y5 (nI j + 1)) _
    rw [← nI_succ]
    refine ih (j + 1) z (fun i hi => ?_) (by omega) (by omega)
    by_cases ei : i = j
    · subst ei; exact ⟨m, hm, em⟩
    · exact lk i (by omega)
theorem fits_ok {s : SG} {x y z u v : Int32} (r : RI s) : ok (Rfits s x y z u v) (fun p => QI s p.2) := by
  unfold Rfits
  refine ok_b (isMotion_ok r) (fun p hp => ok_i (fun _ => ok_s hp.1) (fun c => ?_))
  obtain ⟨q, _⟩ := hp.2.resolve_left c
  have r2 := QI_RI hp.1 r
  refine ok_be (q_isOf rfl (by decide)) (ok_i (fun _ => ok_s hp.1) (fun c2 => ?_))
  obtain ⟨k, ek, hk⟩ := isOf_k r2 (by decide) c2
  have q1 : QI p.2 (up p.2 64 33 (RplaceOf 3 y)) := QI_up QI_rfl (by omega) (by omega)
  have r3 := QI_RI q1 r2
  obtain ⟨n, en, hn⟩ := (r3.1.2.2 k hk).2.2.2.1
  refine ok_w (fits38 r3 ?_ hk (by unfold OKl; rw [up_a, ek, place3]) en hn n 0 xF (fun i hi => absurd hi (by omega)) (by omega) (by have := xF_ge; omega)) (fun w hw => QI_tr hp.1 (QI_tr q1 hw))
  unfold QS at *
  rw [up_b (by decide), up_b (by decide), up_b (by decide)]; exact q
end XRI
