section XRF
variable {sc : Nat × (Nat → Int32)} {d : Nat} {K : List KD} {r q t a B m : Nat} {w : EW}
/-! the reference: what can be agreed; power; bribes, lobbies -/
theorem nI_le2 {a b : Nat} (h : a ≤ b) (hb : b < 2 ^ 31) : nI a ≤ nI b := by
  rw [Int32.le_iff_toInt_le, nI_toInt (by omega), nI_toInt hb]; omega
theorem nI_inj {a b : Nat} (ha : a < 2 ^ 31) (hb : b < 2 ^ 31) (h : nI a = nI b) : a = b := by
  have e := congrArg Int32.toInt h
  rw [nI_toInt ha, nI_toInt hb] at e
  omega
theorem isAgreed_ok {t : SG} {x y : Int32} (r : RI t) (q : QS t) (h : y = 0 ∨ OK1 t) : ok (RisAgreed t x y) (fun p => KQ t p.2) := by
  have k0 : KQ t (RtalksOf t x) := talks_KQ
  have r2 := QI_RI k0.1 r
  have q2 := KQ_QS k0 q
  have z2 := QS_MZ r2 q2
  have e25 : ok (RisAgreed_25 (RtalksOf t x) x y) (fun p => KQ t p.2) := by
    unfold RisAgreed_25
    exact ok_be (q_agreeing (QS_RH q2) (QS_SE q2) z2) (ok_be (q_isPassed (QS_RH q2) z2) (ok_i (fun _ => ok_s k0) (fun _ => ok_s k0)))
  unfold RisAgreed
  refine ok_i (fun _ => ok_s k0) (fun _ => ok_i (fun _ => e25) (fun c => ?_))
  obtain ⟨i, hi, ei⟩ := h.resolve_left c
  exact ok_b (firstBroken_ok r2 ⟨i, hi, by rw [k0.2 17 (by unfold KJ; omega)]; exact ei⟩) (fun _ _ => ok_i (fun _ => e25) (fun _ => ok_s k0))
theorem agreed_l {y1 y2 y3 y4 y5 : Int32} : ∀ (n j k : Nat) (t : SG) (y6 y7 : Int32), RI t → QS t → (y2 = -1 ∨ OK1 t) → j + n = 1000 → n ≤ k → ok (Ragreed_49 (Ragreed_R k) t y1 y2 y3 y4 y5 y6 y7 (nI j)) (fun p => QI t p.2) := by
  intro n
  induction n with
  | zero =>
    intro j k t y6 y7 r q h hj hk
    unfold Ragreed_49
    rw [if_pos (show (1000 : Int32) ≤ nI j from k_ge (m := 1000) hj)]
    exact ok_i (fun _ => ok_s QI_rfl) (fun _ => ok_s QI_rfl)
  | succ n ih =>
    intro j k t y6 y7 r q h hj hk
    obtain ⟨k, rfl⟩ : ∃ k', k = k' + 1 := ⟨k - 1, by omega⟩
    have next : ∀ (u : SG) (a b : Int32), KQ t u → ok (Ragreed_R (k + 1) u y1 y2 y3 y4 y5 a b (nI j + 1)) (fun p => QI t p.2) := by
      intro u a b hu
      show ok (Ragreed_49 (Ragreed_R k) u y1 y2 y3 y4 y5 a b (nI j + 1)) _
      rw [← nI_succ]
      refine ok_w (ih (j + 1) k u a b (QI_RI hu.1 r) (KQ_QS hu q) ?_ (by omega) (by omega)) (fun p hp => QI_tr hu.1 hp)
      rcases h with g | ⟨i, hi, ei⟩
      · exact Or.inl g
      · exact Or.inr ⟨i, hi, by rw [hu.2 17 (by unfold KJ; omega)]; exact ei⟩
    have e117 : ∀ (u : SG) (a b v0 v1 v2 : Int32), KQ t u → ok (Ragreed_117 (Ragreed_R (k + 1)) u y1 y2 y3 y4 y5 a b (nI j) v0 v1 v2) (fun p => QI t p.2) := by
      intro u a b v0 v1 v2 hu
      unfold Ragreed_117
      exact ok_i (fun _ => next u _ _ hu) (fun _ => next u _ _ hu)
    have e101 : ∀ (u : SG) (a b v0 v1 : Int32), KQ t u → ok (Ragreed_101 (Ragreed_R (k + 1)) u y1 y2 y3 y4 y5 a b (nI j) v0 v1) (fun p => QI t p.2) := by
      intro u a b v0 v1 hu
      unfold Ragreed_101
      exact ok_i (fun _ => e117 u _ _ _ _ _ hu) (fun _ => e117 u _ _ _ _ _ hu)
    have e70 : ∀ (v0 v1 : Int32), (v0 = 0 ∨ OK1 t) → ok (Ragreed_70 (Ragreed_R (k + 1)) t y1 y2 y3 y4 y5 y6 y7 (nI j) v0 v1) (fun p => QI t p.2) := by
      intro v0 v1 h0
      unfold Ragreed_70
      refine ok_b (isAgreed_ok r q h0) (fun p hp => ok_i (fun _ => next _ _ _ hp) (fun _ => ok_i (fun _ => next _ _ _ hp) (fun _ => ok_i (fun _ => e101 _ _ _ _ _ hp) (fun _ => e101 _ _ _ _ _ hp))))
    unfold Ragreed_49
    rw [if_neg (show ¬ (1000 : Int32) ≤ nI j from k_lt (m := 1000) hj (by decide))]
    exact ok_i (fun _ => e70 _ _ (Or.inl rfl)) (fun c => e70 _ _ (Or.inr (h.resolve_left c)))
theorem agreed_ok {s : SG} {x y z u v : Int32} (r : RI s) : ok (Ragreed s x y z u v) (fun p => QI s p.2) := by
  unfold Ragreed
  refine ok_b (isMotion_ok r) (fun p hp => ok_i (fun _ => ok_s hp.1) (fun c => ?_))
  obtain ⟨q, _⟩ := hp.2.resolve_left c
  have r2 := QI_RI hp.1 r
  refine ok_i (fun _ => ok_s hp.1) (fun _ => ok_i (fun c2 => ?_) (fun _ => ?_))
  · exact ok_w (agreed_l 1000 0 xF p.2 0 (-1) r2 q (Or.inl c2) rfl (by have := xF_ge; omega)) (fun w hw => QI_tr hp.1 hw)
  · refine ok_b (areOrders_ok r2) (fun w hw => ok_i (fun _ => ok_s (QI_tr hp.1 hw.1)) (fun c3 => ?_))
    have q3 : QS w.2 := by
      unfold QS at *
      rw [hw.2.1 11 (by omega), hw.2.1 16 (by omega), hw.2.1 18 (by omega)]; exact q
    exact ok_w (agreed_l 1000 0 xF w.2 0 (-1) (QI_RI hw.1 r2) q3 (Or.inr (hw.2.2.resolve_left c3)) rfl (by have := xF_ge; omega)) (fun a ha => QI_tr hp.1 (QI_tr hw.1 ha))
theorem every_eq {t : SG} (r : RI t) (q : QS t) : ∃ E, E ≤ 63 ∧ Reverybody t = some (nI E) := by
  have z := QS_MZ r q
  have all : ∀ m, m < 7 → (1 : Int32) <<< (nI m &&& 31) - 1 = nI (2 ^ m - 1) ∧ 2 ^ m - 1 ≤ 63 := by decide
  have h := all (msz t) (by have := z.2; omega)
  refine ⟨2 ^ msz t - 1, h.2, ?_⟩
  unfold Reverybody
  rw [q_ministers (QS_RH q), z.1]
  show some ((1 : Int32) <<< (nI (msz t) &&& 31) - 1) = _
  rw [h.1]
theorem isEnough_ok {t : SG} {x : Int32} (r : RI t) (q : QS t) : ok (RisEnough t x) (fun v => v = 0 ∨ v = 1) := by
  unfold RisEnough
  exact ok_be (q_votesOf (QS_RH q) (QS_MZ r q)) (ok_be (q_of (a := 1) (QS_RH q) rfl (by decide)) (ok_i (fun _ => ok_s (Or.inl rfl)) (fun _ => ok_s (Or.inr rfl))))
theorem key_l {t : SG} (r : RI t) (q : QS t) : ∀ (n j k : Nat) (y : Int32), j + n = msz t → n ≤ k → ok (Rkey_4 (Rkey_R k) t y (nI j)) (fun _ => True) := by
  have z := QS_MZ r q
  obtain ⟨E, hE, eE⟩ := every_eq r q
  intro n
  induction n with
  | zero =>
    intro j k y hj hk
    unfold Rkey_4
    refine ok_be (q_ministers (QS_RH q)) ?_
    rw [z.1, if_pos (k_ge hj)]
    exact ok_s trivial
  | succ n ih =>
    intro j k y hj hk
    obtain ⟨k, rfl⟩ : ∃ k', k = k' + 1 := ⟨k - 1, by omega⟩
    have next : ∀ a : Int32, ok (Rkey_R (k + 1) t a (nI j + 1)) (fun _ => True) := by
      intro a
      show ok (Rkey_4 (Rkey_R k) t a (nI j + 1)) _
      rw [← nI_succ]
      exact ih (j + 1) k a (by omega) (by omega)
    unfold Rkey_4
    refine ok_be (q_ministers (QS_RH q)) ?_
    rw [z.1, if_neg (k_lt hj (by have := z.2; omega))]
    exact ok_be eE (ok_b (isEnough_ok r q) (fun _ _ => ok_i (fun _ => next _) (fun _ => next _)))
theorem isLeast_l {t : SG} {y1 : Int32} (r : RI t) (q : QS t) : ∀ (n j k : Nat) (y : Int32), (y = 0 ∨ y = 1) → j + n = msz t → n ≤ k → ok (RisLeast_8 (RisLeast_R k) t y1 y (nI j)) (fun _ => True) := by
  have z := QS_MZ r q
  intro n
  induction n with
  | zero =>
    intro j k y hy hj hk
    have e4 : xrt 4 y = true := by rcases hy with g | g <;> rw [g] <;> rfl
    unfold RisLeast_8
    refine ok_be (q_ministers (QS_RH q)) ?_
    rw [z.1, if_pos (k_ge hj), e4]
    exact ok_s trivial
  | succ n ih =>
    intro j k y hy hj hk
    obtain ⟨k, rfl⟩ : ∃ k', k = k' + 1 := ⟨k - 1, by omega⟩
    have next : ∀ a : Int32, (a = 0 ∨ a = 1) → ok (RisLeast_R (k + 1) t y1 a (nI j + 1)) (fun _ => True) := by
      intro a ha
      show ok (RisLeast_8 (RisLeast_R k) t y1 a (nI j + 1)) _
      rw [← nI_succ]
      exact ih (j + 1) k a ha (by omega) (by omega)
    unfold RisLeast_8
    refine ok_be (q_ministers (QS_RH q)) ?_
    rw [z.1, if_neg (k_lt hj (by have := z.2; omega))]
    exact ok_i (fun _ => next _ (Or.inl rfl)) (fun _ => ok_i (fun _ => next _ (Or.inr rfl)) (fun _ => ok_b (isEnough_ok r q) (fun _ _ => ok_i (fun _ => next _ (Or.inr rfl)) (fun _ => next _ (Or.inl rfl)))))
theorem isLeast_ok {t : SG} {x : Int32} (r : RI t) (q : QS t) : ok (RisLeast t x) (fun _ => True) := by
  have z := QS_MZ r q
  unfold RisLeast
  exact ok_b (isEnough_ok r q) (fun v hv => isLeast_l r q (msz t) 0 xF v hv (by omega) (by have := xF_ge; have := z.2; omega))
theorem coalition_l {t : SG} {y1 y2 : Int32} {E : Nat} (r : RI t) (q : QS t) (hE : E ≤ 63) (eE : Reverybody t = some (nI E)) : ∀ (n j k : Nat) (y : Int32), j + n = E + 1 → n ≤ k → ok (Rcoalition_33 (Rcoalition_R k) t y1 y2 y (nI j)) (fun p => QI t p.2) := by
  intro n
  induction n with
  | zero =>
    intro j k y hj hk
    unfold Rcoalition_33
    refine ok_be eE ?_
    rw [if_pos (nI_lt2 (a := E) (b := j) (by omega) (by omega))]
    exact ok_i (fun _ => ok_s QI_rfl) (fun _ => ok_s QI_rfl)
  | succ n ih =>
    intro j k y hj hk
    obtain ⟨k, rfl⟩ : ∃ k', k = k' + 1 := ⟨k - 1, by omega⟩
    have next : ∀ a : Int32, ok (Rcoalition_R (k + 1) t y1 y2 a (nI j + 1)) (fun p => QI t p.2) := by
      intro a
      show ok (Rcoalition_33 (Rcoalition_R k) t y1 y2 a (nI j + 1)) _
      rw [← nI_succ]
      exact ih (j + 1) k a (by omega) (by omega)
    unfold Rcoalition_33
    refine ok_be eE (ok_i (fun _ => ok_i (fun _ => ok_s QI_rfl) (fun _ => ok_s QI_rfl)) (fun _ => ok_b (isLeast_ok r q) (fun _ _ => ok_i (fun _ => next _) (fun _ => ok_i (fun _ => ok_s QI_rfl) (fun _ => next _)))))
theorem coalition_ok {s : SG} {x y : Int32} (r : RI s) : ok (Rcoalition s x y) (fun p => QI s p.2) := by
  unfold Rcoalition
  refine ok_b (isRepublic_ok r) (fun p hp => ok_i (fun _ => ok_s hp.1) (fun c => ?_))
  have q : QS p.2 := (hp.2.resolve_left c).1
  have r2 := QI_RI hp.1 r
  have z := QS_MZ r2 q
  obtain ⟨E, hE, eE⟩ := every_eq r2 q
  refine ok_i (fun _ => ok_i (fun _ => ?_) (fun _ => ?_)) (fun _ => ok_s hp.1)
  · unfold Rkey
    exact ok_b (key_l r2 q (msz p.2) 0 xF 0 (by omega) (by have := xF_ge; have := z.2; omega)) (fun _ _ => ok_s hp.1)
  · exact ok_w (coalition_l r2 q hE eE (E + 1) 0 xF 0 (by omega) (by have := xF_ge; omega)) (fun v hv => QI_tr hp.1 hv)
theorem costOf_l {t : SG} {y1 : Int32} (r : RI t) (q : QS t) : ∀ (n j k : Nat) (y : Int32), j + n = msz t → n ≤ k → ok (RcostOf_4 (RcostOf_R k) t y1 y (nI j)) (fun _ => True) := by
  have z := QS_MZ r q
  intro n
  induction n with
  | zero =>
    intro j k y hj hk
    unfold RcostOf_4
    refine ok_be (q_ministers (QS_RH q)) ?_
    rw [z.1, if_pos (k_ge hj)]
    exact ok_s trivial
  | succ n ih =>
    intro j k y hj hk
    obtain ⟨k, rfl⟩ : ∃ k', k = k' + 1 := ⟨k - 1, by omega⟩
    have hj6 : j < 6 := by have := z.2; omega
    have next : ∀ a : Int32, ok (RcostOf_R (k + 1) t y1 a (nI j + 1)) (fun _ => True) := by
      intro a
      show ok (RcostOf_4 (RcostOf_R k) t y1 a (nI j + 1)) _
      rw [← nI_succ]
      exact ih (j + 1) k a (by omega) (by omega)
    unfold RcostOf_4
    refine ok_be (q_ministers (QS_RH q)) ?_
    rw [z.1, if_neg (k_lt hj (by have := z.2; omega))]
    refine ok_i (fun _ => ?_) (fun _ => next _)
    exact ok_be (q_ofMinister (y := 3) (a := 3) (QS_RH q) rfl rfl hj6 (by decide)) (ok_be (q_offOf (QS_RH q) (QS_SE q) rfl hj6) (ok_be (q_yields (QS_RH q) rfl hj6) (next _)))
theorem bribe_l {t : SG} {y1 y2 y3 y4 y5 y6 y7 y8 : Int32} {E : Nat} (r : RI t) (q : QS t) (hE : E ≤ 63) (eE : Reverybody t = some (nI E)) : ∀ (n j k : Nat) (a b : Int32), j + n = E + 1 → n ≤ k → ok (Rbribe_33 (Rbribe_R k) t y1 y2 y3 y4 y5 y6 y7 y8 a b (nI j)) (fun p => QI t p.2) := by
  have z := QS_MZ r q
  intro n
  induction n with
  | zero =>
    intro j k a b hj hk
    unfold Rbribe_33
    refine ok_be eE ?_
    rw [if_pos (nI_lt2 (a := E) (b := j) (by omega) (by omega))]
    exact ok_i (fun _ => ok_i (fun _ => ok_s QI_rfl) (fun _ => ok_s QI_rfl)) (fun _ => ok_s QI_rfl)
  | succ n ih =>
    intro j k a b hj hk
    obtain ⟨k, rfl⟩ : ∃ k', k = k' + 1 := ⟨k - 1, by omega⟩
    have next : ∀ a b : Int32, ok (Rbribe_R (k + 1) t y1 y2 y3 y4 y5 y6 y7 y8 a b (nI j + 1)) (fun p => QI t p.2) := by
      intro a b
      show ok (Rbribe_33 (Rbribe_R k) t y1 y2 y3 y4 y5 y6 y7 y8 a b (nI j + 1)) _
      rw [← nI_succ]
      exact ih (j + 1) k a b (by omega) (by omega)
    unfold Rbribe_33
    refine ok_be eE (ok_i (fun _ => ok_i (fun _ => ok_i (fun _ => ok_s QI_rfl) (fun _ => ok_s QI_rfl)) (fun _ => ok_s QI_rfl)) (fun _ => ok_i (fun _ => ok_be (q_isPassed (QS_RH q) z) (ok_i (fun _ => next _ _) (fun _ => ?_))) (fun _ => next _ _)))
    unfold RcostOf
    exact ok_b (costOf_l r q (msz t) 0 xF 0 (by omega) (by have := xF_ge; have := z.2; omega)) (fun _ _ => ok_i (fun _ => next _ _) (fun _ => ok_i (fun _ => next _ _) (fun _ => next _ _)))
theorem bribe_ok {s : SG} {x b se u v w g : Int32} (r : RI s) : ok (Rbribe s x b se u v w g) (fun p => QI s p.2) := by
  unfold Rbribe
  refine ok_b (isMotion_ok r) (fun p hp => ok_i (fun _ => ok_s hp.1) (fun c => ?_))
  obtain ⟨q, _⟩ := hp.2.resolve_left c
  have r2 := QI_RI hp.1 r
  obtain ⟨E, hE, eE⟩ := every_eq r2 q
  exact ok_be (q_agreeing (QS_RH q) (QS_SE q) (QS_MZ r2 q)) (ok_w (bribe_l r2 q hE eE (E + 1) 0 xF (-1) 0 (by omega) (by have := xF_ge; omega)) (fun v hv => QI_tr hp.1 hv))
theorem priceOf_ok {t : SG} {j : Nat} (r : RI t) (q : QS t) (hj : j ≤ msz t) : ok (RpriceOf t (nI j)) (fun _ => True) := by
  have z := QS_MZ r q
  have := z.2
  unfold RpriceOf
  refine ok_be (q_ministers (QS_RH q)) ?_
  rw [z.1]
  refine ok_i (fun _ => ok_s trivial) (fun c => ?_)
  have hj6 : j < 6 := by
    rcases Nat.lt_or_ge j (msz t) with g | g
    · omega
    · exfalso; apply c
      have : j = msz t := by omega
      rw [this]
  exact ok_be (q_ofMinister (y := 3) (a := 3) (QS_RH q) rfl rfl hj6 (by decide)) (ok_s trivial)
theorem gainOf_ok {t : SG} {i j : Nat} {y3 : Int32} (r : RI t) (q : QS t) (hi : i ≤ msz t) (hj : j ≤ msz t) : ok (RgainOf t (nI i) (nI j) y3) (fun _ => True) := by
  have z := QS_MZ r q
  have e70 : ∀ a b v : Int32, ok (RgainOf_70 t (nI i) (nI j) y3 a b v) (fun _ => True) := by
    intro a b v
    unfold RgainOf_70 RgainOf_80
    exact ok_i (fun _ => ok_b (priceOf_ok r q hj) (fun _ _ => ok_s trivial)) (fun _ => ok_b (priceOf_ok r q hi) (fun _ _ => ok_s trivial))
  have e50 : ∀ a : Int32, ok (RgainOf_50 t (nI i) (nI j) y3 a) (fun _ => True) := by
    intro a
    unfold RgainOf_50
    exact ok_be (q_isPassed (QS_RH q) z) (ok_i (fun _ => e70 _ _ _) (fun _ => e70 _ _ _))
  have e27 : ∀ a : Int32, ok (RgainOf_27 t (nI i) (nI j) y3 a) (fun _ => True) := by
    intro a
    unfold RgainOf_27
    exact ok_i (fun _ => e50 _) (fun _ => ok_be (q_ministers (QS_RH q)) (ok_i (fun _ => e50 _) (fun _ => e50 _)))
  unfold RgainOf
  exact ok_be (q_agreeing (QS_RH q) (QS_SE q) z) (ok_i (fun _ => e27 _) (fun _ => ok_be (q_ministers (QS_RH q)) (ok_i (fun _ => e27 _) (fun _ => e27 _))))
theorem isRest_l {t : SG} {a b : Nat} (r : RI t) (q : QS t) (ha : a ≤ msz t) (hb : b ≤ msz t) : ∀ (n j k : Nat) (y : Int32), (y = 0 ∨ y = 1) → j + n = msz t + 1 → n ≤ k → ok (RisRest_5 (RisRest_R k) t (nI a) (nI b) y (nI j)) (fun _ => True) := by
  have z := QS_MZ r q
  have z6 := z.2
  intro n
  induction n with
  | zero =>
    intro j k y hy hj hk
    have e4 : xrt 4 y = true := by rcases hy with g | g <;> rw [g] <;> rfl
    unfold RisRest_5
    refine ok_be (q_ministers (QS_RH q)) ?_
    rw [z.1, if_pos (nI_lt2 (a := msz t) (b := j) (by omega) (by omega)), e4]
    exact ok_s trivial
  | succ n ih =>
    intro j k y hy hj hk
    obtain ⟨k, rfl⟩ : ∃ k', k = k' + 1 := ⟨k - 1, by omega⟩
    have next : ∀ v : Int32, (v = 0 ∨ v = 1) → ok (RisRest_R (k + 1) t (nI a) (nI b) v (nI j + 1)) (fun _ => True) := by
      intro v hv
      show ok (RisRest_5 (RisRest_R k) t (nI a) (nI b) v (nI j + 1)) _
      rw [← nI_succ]
      exact ih (j + 1) k v hv (by omega) (by omega)
    have e4 : xrt 4 y = true := by rcases hy with g | g <;> rw [g] <;> rfl
    unfold RisRest_5
    refine ok_be (q_ministers (QS_RH q)) (ok_i (fun _ => ?_) (fun _ => ok_i (fun _ => next _ (Or.inl rfl)) (fun _ => ?_)))
    · rw [e4]; exact ok_s trivial
    · refine ok_b (gainOf_ok r q (by omega) hb) (fun _ _ => ok_b (gainOf_ok r q ha hb) (fun _ _ => ok_i (fun _ => next _ (Or.inl rfl)) (fun _ => ?_)))
      exact ok_b (gainOf_ok r q ha (by omega)) (fun _ _ => ok_b (gainOf_ok r q ha hb) (fun _ _ => ok_i (fun _ => next _ (Or.inl rfl)) (fun _ => next _ (Or.inr rfl))))
theorem lobby42 {t : SG} {y1 y2 y3 y4 y5 y6 y7 : Int32} {a R : Nat} (r : RI t) (q : QS t) (ha : a ≤ msz t) (hc : ∀ (z : Nat) (y : Int32), R ≤ z → ok (Rlobby_30 (Rlobby_R z).1 (Rlobby_R z).2 t y1 y2 y3 y4 y5 y6 y7 y (nI a + 1)) (fun p => QI t p.2)) : ∀ (n j k : Nat) (y : Int32), j + n = msz t + 1 → n + R + 1 ≤ k → ok (Rlobby_42 (Rlobby_R k).1 (Rlobby_R k).2 t y1 y2 y3 y4 y5 y6 y7 y (nI a) (nI j)) (fun p => QI t p.2) := by
  have z := QS_MZ r q
  have z6 := z.2
  intro n
  induction n with
  | zero =>
    intro j k y hj hk
    obtain ⟨k, rfl⟩ : ∃ k', k = k' + 1 := ⟨k - 1, by omega⟩
    unfold Rlobby_42
    refine ok_be (q_ministers (QS_RH q)) ?_
    rw [z.1, if_pos (nI_lt2 (a := msz t) (b := j) (by omega) (by omega))]
    exact hc k y (by omega)
  | succ n ih =>
    intro j k y hj hk
    obtain ⟨k, rfl⟩ : ∃ k', k = k' + 1 := ⟨k - 1, by omega⟩
    have next : ∀ v : Int32, ok ((Rlobby_R (k + 1)).2 t y1 y2 y3 y4 y5 y6 y7 v (nI a) (nI j + 1)) (fun p => QI t p.2) := by
      intro v
      show ok (Rlobby_42 (Rlobby_R k).1 (Rlobby_R k).2 t y1 y2 y3 y4 y5 y6 y7 v (nI a) (nI j + 1)) _
      rw [← nI_succ]
      exact ih (j + 1) k v (by omega) (by omega)
    unfold Rlobby_42
    refine ok_be (q_ministers (QS_RH q)) ?_
    have nx : ¬ nI (msz t) < nI j := by rw [Int32.not_lt]; exact nI_le2 (by omega) (by omega)
    rw [z.1, if_neg nx]
    unfold RisRest
    exact ok_b (isRest_l r q ha (by omega : j ≤ msz t) (msz t + 1) 0 xF 1 (Or.inr rfl) (by omega) (by have := xF_ge; omega)) (fun _ _ => ok_i (fun _ => next _) (fun _ => ok_i (fun _ => ok_s QI_rfl) (fun _ => next _)))
theorem lobby30 {t : SG} {y1 y2 y3 y4 y5 y6 y7 : Int32} (r : RI t) (q : QS t) : ∀ (n j k : Nat) (y : Int32), j + n = msz t + 1 → n * (msz t + 3) ≤ k → ok (Rlobby_30 (Rlobby_R k).1 (Rlobby_R k).2 t y1 y2 y3 y4 y5 y6 y7 y (nI j)) (fun p => QI t p.2) := by
  have z := QS_MZ r q
  have z6 := z.2
  intro n
  induction n with
  | zero =>
    intro j k y hj hk
    unfold Rlobby_30
    refine ok_be (q_ministers (QS_RH q)) ?_
    rw [z.1, if_pos (nI_lt2 (a := msz t) (b := j) (by omega) (by omega))]
    exact ok_i (fun _ => ok_s QI_rfl) (fun _ => ok_s QI_rfl)
  | succ n ih =>
    intro j k y hj hk
    have nx : ¬ nI (msz t) < nI j := by rw [Int32.not_lt]; exact nI_le2 (by omega) (by omega)
    unfold Rlobby_30
    refine ok_be (q_ministers (QS_RH q)) ?_
    rw [z.1, if_neg nx]
    refine lobby42 (R := n * (msz t + 3)) r q (by omega) (fun z y hz => ?_) (msz t + 1) 0 k y (by omega) (by rw [Nat.succ_mul] at hk; omega)
    rw [← nI_succ]
    exact ih (j + 1) z y (by omega) hz
theorem lobby_ok {s : SG} {x b se u v w g : Int32} (r : RI s) : ok (Rlobby s x b se u v w g) (fun p => QI s p.2) := by
  unfold Rlobby
  refine ok_b (isMotion_ok r) (fun p hp => ok_i (fun _ => ok_s hp.1) (fun c => ?_))
  obtain ⟨q, _⟩ := hp.2.resolve_left c
  have r2 := QI_RI hp.1 r
  have z6 := (QS_MZ r2 q).2
  refine ok_i (fun _ => ?_) (fun _ => ok_s hp.1)
  refine ok_w (lobby30 r2 q (msz p.2 + 1) 0 xF 0 (by omega) ?_) (fun v hv => QI_tr hp.1 hv)
  have := xF_ge
  have h2 : (msz p.2 + 1) * (msz p.2 + 3) ≤ 7 * 9 := Nat.mul_le_mul (by omega) (by omega)
  omega
theorem bargain84 {t : SG} {y1 y2 y3 y5 y6 y7 : Int32} {b R : Nat} (r : RI t) (q : QS t) (hb : b ≤ 1436) (hc : ∀ (z : Nat) (a c : Int32), R ≤ z → ok (Rbargain_69 (Rbargain_R z).1 (Rbargain_R z).2 t y1 y2 y3 (nI b) a c (y7 + 1)) (fun p => QI t p.2)) : ∀ (n j k : Nat) (y : Int32), j + n = msz t → n + R + 1 ≤ k → ok (Rbargain_84 (Rbargain_R k).1 (Rbargain_R k).2 t y1 y2 y3 (nI b) y5 y6 y7 y (nI j)) (fun p => QI t p.2) := by
  have z := QS_MZ r q
  have z6 := z.2
  intro n
  induction n with
  | zero =>
    intro j k y hj hk
    obtain ⟨k, rfl⟩ : ∃ k', k = k' + 1 := ⟨k - 1, by omega⟩
    have nx : ∀ a c : Int32, ok ((Rbargain_R (k + 1)).1 t y1 y2 y3 (nI b) a c (y7 + 1)) (fun p => QI t p.2) := fun a c => hc k a c (by omega)
    unfold Rbargain_84
    refine ok_be (q_ministers (QS_RH q)) ?_
    rw [z.1, if_pos (k_ge hj)]
    exact ok_b (isEnough_ok r q) (fun _ _ => ok_i (fun _ => nx _ _) (fun _ => ok_i (fun _ => ok_i (fun _ => nx _ _) (fun _ => nx _ _)) (fun _ => nx _ _)))
  | succ n ih =>
    intro j k y hj hk
    obtain ⟨k, rfl⟩ : ∃ k', k = k' + 1 := ⟨k - 1, by omega⟩
    have next : ∀ v : Int32, ok ((Rbargain_R (k + 1)).2 t y1 y2 y3 (nI b) y5 y6 y7 v (nI j + 1)) (fun p => QI t p.2) := by
      intro v
      show ok (Rbargain_84 (Rbargain_R k).1 (Rbargain_R k).2 t y1 y2 y3 (nI b) y5 y6 y7 v (nI j + 1)) _
      rw [← nI_succ]
      exact ih (j + 1) k v (by omega) (by omega)
    unfold Rbargain_84
    refine ok_be (q_ministers (QS_RH q)) ?_
    rw [z.1, if_neg (k_lt hj (by omega))]
    exact ok_i (fun _ => ok_be (rd_nI (e := b + j) (by rw [nI_add]) (by omega) (by decide)) (next _)) (fun _ => next _)
theorem bargain69 {t : SG} {y1 y2 y3 : Int32} {b E : Nat} (r : RI t) (q : QS t) (hb : b ≤ 1436) (hE : E ≤ 63) (eE : Reverybody t = some (nI E)) : ∀ (n j k : Nat) (a c : Int32), j + n = E + 1 → n * (msz t + 2) ≤ k → ok (Rbargain_69 (Rbargain_R k).1 (Rbargain_R k).2 t y1 y2 y3 (nI b) a c (nI j)) (fun p => QI t p.2) := by
  intro n
  induction n with
  | zero =>
    intro j k a c hj hk
    unfold Rbargain_69
    refine ok_be eE ?_
    rw [if_pos (nI_lt2 (a := E) (b := j) (by omega) (by omega))]
    exact ok_i (fun _ => ok_s QI_rfl) (fun _ => ok_s QI_rfl)
  | succ n ih =>
    intro j k a c hj hk
    have nx : ¬ nI E < nI j := by rw [Int32.not_lt]; exact nI_le2 (by omega) (by omega)
    unfold Rbargain_69
    refine ok_be eE ?_
    rw [if_neg nx]
    refine bargain84 (R := n * (msz t + 2)) r q hb (fun z a c hz => ?_) (msz t) 0 k 0 (by omega) (by rw [Nat.succ_mul] at hk; omega)
    rw [← nI_succ]
    exact ih (j + 1) z a c (by omega) hz
theorem bargain_ok {s : SG} {x y z : Int32} (r : RI s) : ok (Rbargain s x y z) (fun p => QI s p.2) := by
  unfold Rbargain
  refine ok_be (q_isOf rfl (by decide)) (ok_i (fun _ => ok_s QI_rfl) (fun c0 => ?_))
  obtain ⟨k, ek, hk⟩ := isOf_k r (by decide) c0
  refine ok_b (isRepublic_ok r) (fun p hp => ok_i (fun _ => ok_s hp.1) (fun c => ?_))
  have q : QS p.2 := (hp.2.resolve_left c).1
  have r2 := QI_RI hp.1 r
  have z6 := (QS_MZ r2 q).2
  obtain ⟨E, hE, eE⟩ := every_eq r2 q
  rw [ek, place5]
  refine ok_i (fun _ => ok_i (fun _ => ok_s hp.1) (fun _ => ?_)) (fun c3 => ?_)
  · refine ok_w (bargain69 r2 q (by omega) hE eE (E + 1) 0 xF 0 (-1) (by omega) ?_) (fun v hv => QI_tr hp.1 hv)
    have := xF_ge
    have h2 : (E + 1) * (msz p.2 + 2) ≤ 64 * 8 := Nat.mul_le_mul (by omega) (by omega)
    omega
  · obtain ⟨a, ea, ha⟩ := inI_nI (b := 5) (by decide) c3
    exact ok_be (rd_nI (e := 1430 + 6 * k + a) (by rw [ea, nI_add]) (by omega) (by decide)) (ok_s hp.1)
end XRF
