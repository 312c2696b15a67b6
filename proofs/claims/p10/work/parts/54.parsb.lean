section XRL
variable {sc : Nat × (Nat → Int32)} {d : Nat} {K : List KD} {r q t a B m : Nat} {w : EW}
/-! the reference: its lines -/
theorem w_of {t u : SG} (h : FT t u) (w : u 64 8 = 0) : t 64 8 = 0 := Decidable.byContradiction (fun c => h.2.2 c w)
theorem ix2 {a b g : Nat} : nI a + nI b * nI g = nI (a + b * g) := by rw [nI_mulx, nI_add]
theorem ix3 {a b g c : Nat} : nI a + nI b * nI g + nI c = nI (a + b * g + c) := by rw [nI_mulx, nI_add, nI_add]
theorem LR_SR {t u v : SG} (h : LR t u) (g : SR u v) : LR t v := LR_tr h g.1
def R0 (u : SG) : Prop := RR (u 67) 0
theorem R0_SR {t u : SG} (h : SR t u) (r : R0 t) : R0 u := by
  unfold R0
  rw [h.2]; exact r
theorem R0_up {u : SG} {j : Nat} {v : Int32} (r : R0 u) (h0 : j = 0 → NB v 6) (h3 : j = 3 ∨ j = 4 → NB v 99) (hw : ∀ m i, m < 6 → i < 12 → j = 16 + 18 * m + i → NB v 9) : R0 (up u 67 j v) := by
  have key : ∀ (i n : Nat), (j = i → NB v n) → NB (u 67 i) n → NB (up u 67 j v 67 i) n := by
    intro i n h h2
    by_cases e : j = i
    · subst e; rw [up_a]; exact h rfl
    · rw [up_bn (Ne.symm e)]; exact h2
  exact ⟨key 0 6 h0 r.1, key 3 99 (fun e => h3 (Or.inl e)) r.2.1, key 4 99 (fun e => h3 (Or.inr e)) r.2.2.1, fun m i hm hi => key _ 9 (fun e => hw m i hm hi (by omega)) (r.2.2.2 m i hm hi)⟩
theorem R0_free {u : SG} {j : Nat} {v : Int32} (r : R0 u) (h : (j < 16 ∧ j ≠ 0 ∧ j ≠ 3 ∧ j ≠ 4) ∨ ∃ m a, a < 6 ∧ j = 10 + 18 * m + a) : R0 (up u 67 j v) := by
  refine R0_up r (fun e => ?_) (fun e => ?_) (fun m i hm hi e => ?_)
  · rcases h with h | ⟨m, a, h, e2⟩ <;> omega
  · rcases h with h | ⟨m, a, h, e2⟩ <;> omega
  · rcases h with h | ⟨m2, a, h, e2⟩ <;> omega
theorem minLine27 {t : SG} {y1 y2 : Int32} (p : ∃ M, PB M t) (r : R0 t) (hy : y2 = 0 ∨ ∃ g, t 67 0 = nI g ∧ g < 6) : ok (RministerLine_27 t y1 y2) (fun u => LR t u ∧ R0 u) := by
  unfold RministerLine_27
  refine ok_b (numbered_ok (a := 1) (b := 9) p rfl rfl (by omega) (by omega)) (fun q1 h1 => ?_)
  refine ok_b (numbered_ok (a := 0) (b := 27) (PV_SR h1.1 p) rfl rfl (by omega) (by omega)) (fun q2 h2 => ?_)
  have s2 := SR_tr h1.1 h2.1
  refine ok_b (numbered_ok (a := 0) (b := 9) (PV_SR s2 p) rfl rfl (by omega) (by omega)) (fun q3 h3 => ?_)
  have s3 := SR_tr s2 h3.1
  refine ok_b (numbered_ok (a := 0) (b := 9) (PV_SR s3 p) rfl rfl (by omega) (by omega)) (fun q4 h4 => ?_)
  have s4 := SR_tr s3 h4.1
  refine ok_i (fun _ => ok_s ⟨s4.1, R0_SR s4 r⟩) (fun c => ?_)
  obtain ⟨g, eg, hg⟩ := hy.resolve_left c
  have r4 := R0_SR s4 r
  refine ok_be (rd_nI (e := 0) rfl (by omega) (by decide)) ?_
  have e0 : q4.2 67 0 = nI g := by rw [s4.2]; exact eg
  rw [e0]
  refine ok_be (wr_nI (e := 10 + 18 * g + 0) (ix3 (a := 10) (b := 18) (c := 0)) (by omega) (by decide)) ?_
  refine ok_be (wr_nI (e := 10 + 18 * g + 1) (ix3 (a := 10) (b := 18) (c := 1)) (by omega) (by decide)) ?_
  refine ok_be (wr_nI (e := 10 + 18 * g + 2) (ix3 (a := 10) (b := 18) (c := 2)) (by omega) (by decide)) ?_
  refine ok_be (wr_nI (e := 10 + 18 * g + 3) (ix3 (a := 10) (b := 18) (c := 3)) (by omega) (by decide)) ?_
  refine ok_be (rd_nI (e := 0) rfl (by omega) (by decide)) ?_
  rw [up_bn (by omega), up_bn (by omega), up_bn (by omega), up_bn (by omega), e0]
  refine ok_be (wr_nI (e := 0) rfl (by omega) (by decide)) (ok_s ⟨LR_tr s4.1 (LR_tr LR_67 (LR_tr LR_67 (LR_tr LR_67 (LR_tr LR_67 LR_67)))), ?_⟩)
  refine R0_up ?_ (fun _ => ⟨g + 1, (nI_succ g).symm, by omega⟩) (fun e => by omega) (fun m i _ _ e => by omega)
  exact R0_free (R0_free (R0_free (R0_free r4 (Or.inr ⟨g, 0, by omega, rfl⟩)) (Or.inr ⟨g, 1, by omega, rfl⟩)) (Or.inr ⟨g, 2, by omega, rfl⟩)) (Or.inr ⟨g, 3, by omega, rfl⟩)
theorem minLine_ok {t : SG} {x : Int32} (p : ∃ M, PB M t) (r : R0 t) : ok (RministerLine t x) (fun u => LR t u ∧ R0 u) := by
  unfold RministerLine
  refine ok_be (rd_nI (e := 0) rfl (by omega) (by decide)) ?_
  obtain ⟨g, eg, hg⟩ := r.1
  have e0 : t 67 0 = nI g := eg
  rw [e0]
  refine ok_i (fun _ => ?_) (fun c => ?_)
  · unfold RministerLine_16
    rw [if_pos rfl]
    refine ok_b also_ok (fun u hu => ok_w (minLine27 (PV_SR hu.1 p) (R0_SR hu.1 r) (Or.inl rfl)) (fun v hv => ⟨LR_tr hu.1.1 hv.1, hv.2⟩))
  · unfold RministerLine_16
    rw [if_neg (by decide)]
    refine minLine27 p r (Or.inr ⟨g, eg, ?_⟩)
    have : g ≠ 6 := fun e => c (by subst e; decide)
    omega
theorem wantLine12 {y1 y2 : Int32} (h1 : NB y1 5) : ∀ (n j z : Nat) (t : SG), (∃ M, PB M t) → R0 t → (t 64 8 = 0 → NB y2 3) → j + n = 3 → n ≤ z → ok (RwantLine_12 (RwantLine_R z) t y1 y2 (nI j)) (fun u => LR t u ∧ R0 u) := by
  intro n
  induction n with
  | zero =>
    intro j z t p r h2 hj hz
    unfold RwantLine_12
    rw [if_pos (show (3 : Int32) ≤ nI j from k_ge (m := 3) hj)]
    exact ok_s ⟨LR_rfl, r⟩
  | succ n ih =>
    intro j z t p r h2 hj hz
    obtain ⟨z, rfl⟩ : ∃ z', z = z' + 1 := ⟨z - 1, by omega⟩
    unfold RwantLine_12
    rw [if_neg (show ¬ (3 : Int32) ≤ nI j from k_lt (m := 3) hj (by decide))]
    refine ok_b (numbered_ok (a := 0) (b := 9) p rfl rfl (by omega) (by omega)) (fun q hq => ?_)
    have rq := R0_SR hq.1 r
    have go : ∀ v, LR t v → R0 v → ok (RwantLine_R (z + 1) v y1 y2 (nI j + 1)) (fun u => LR t u ∧ R0 u) := by
      intro v hv rv
      show ok (RwantLine_12 (RwantLine_R z) v y1 y2 (nI j + 1)) _
      rw [← nI_succ]
      exact ok_w (ih (j + 1) z v (PV_LR hv p) rv (fun w => h2 (w_of hv.2 w)) (by omega) (by omega)) (fun u hu => ⟨LR_tr hv hu.1, hu.2⟩)
    refine ok_i (fun w => ?_) (fun _ => go _ hq.1.1 rq)
    obtain ⟨b, eb, hb⟩ := h2 (w_of hq.1.1.2 w)
    obtain ⟨a, ea, ha⟩ := h1
    refine ok_be (wr_nI (e := 16 + 18 * a + (3 * b + j)) ?_ (by omega) (by decide)) (go _ (LR_tr hq.1.1 LR_67) (R0_up rq (fun e => by omega) (fun e => by omega) (fun m i hm hi e => num_NB hq.2)))
    rw [ea, eb]
    show nI 10 + nI 18 * nI a + nI 6 + nI 3 * nI b + nI j = _
    rw [nI_mulx, nI_mulx, nI_add, nI_add, nI_add, nI_add]
    congr 1; omega
theorem wantLine_ok {t : SG} (p : ∃ M, PB M t) (r : R0 t) : ok (RwantLine t) (fun u => LR t u ∧ R0 u) := by
  unfold RwantLine
  refine ok_b (ministerTold_ok p) (fun q1 h1 => ok_b (seasonTold_ok (PV_SR h1.1 p)) (fun q2 h2 => ?_))
  have s2 := SR_tr h1.1 h2.1
  exact ok_w (wantLine12 h1.2 3 0 xF q2.2 (PV_SR s2 p) (R0_SR s2 r) h2.2 (by omega) (by have := xF_ge; omega)) (fun u hu => ⟨LR_tr s2.1 hu.1, hu.2⟩)
theorem feudLine37 {t : SG} {y1 : Int32} (p : ∃ M, PB M t) (r : R0 t) (h : NB y1 5) : ok (RfeudLine_37 t y1) (fun u => LR t u ∧ R0 u) := by
  unfold RfeudLine_37
  refine ok_b (ministerTold_ok p) (fun q1 h1 => ?_)
  obtain ⟨a, ea, ha⟩ := h
  obtain ⟨b, eb, hb⟩ := h1.2
  rw [ea, eb]
  refine ok_be (rd_nI (e := 10 + 18 * a + 5) (ix3 (a := 10) (b := 18) (c := 5)) (by omega) (by decide)) ?_
  refine ok_be (wr_nI (e := 10 + 18 * a + 5) (ix3 (a := 10) (b := 18) (c := 5)) (by omega) (by decide)) ?_
  refine ok_be (rd_nI (e := 10 + 18 * b + 5) (ix3 (a := 10) (b := 18) (c := 5)) (by omega) (by decide)) ?_
  refine ok_be (wr_nI (e := 10 + 18 * b + 5) (ix3 (a := 10) (b := 18) (c := 5)) (by omega) (by decide)) ?_
  exact ok_s ⟨LR_tr h1.1.1 (LR_tr LR_67 LR_67), R0_free (R0_free (R0_SR h1.1 r) (Or.inr ⟨a, 5, by omega, rfl⟩)) (Or.inr ⟨b, 5, by omega, rfl⟩)⟩
theorem feudLine_ok {t : SG} (p : ∃ M, PB M t) (r : R0 t) : ok (RfeudLine t) (fun u => LR t u ∧ R0 u) := by
  unfold RfeudLine
  refine ok_b (ministerTold_ok p) (fun q1 h1 => ?_)
  have go : ∀ v, SR t v → ok (RfeudLine_37 v q1.1) (fun u => LR t u ∧ R0 u) := fun v hv => ok_w (feudLine37 (PV_SR hv p) (R0_SR hv r) h1.2) (fun u hu => ⟨LR_tr hv.1 hu.1, hu.2⟩)
  exact ok_i (fun _ => ok_i (fun _ => ok_i (fun _ => ok_b also_ok (fun v hv => go v (SR_tr h1.1 hv.1))) (fun _ => go _ h1.1)) (fun _ => go _ h1.1)) (fun _ => go _ h1.1)
theorem repLine14 {t : SG} {y1 y2 v0 : Int32} (p : ∃ M, PB M t) (r : R0 t) : ok (RrepublicLine_14 t y1 y2 v0) (fun u => LR t u ∧ R0 u) := by
  have fin : ∀ v, LR t v → R0 v → ok (RrepublicLine_223 v y1 y2) (fun u => LR t u ∧ R0 u) := by
    intro v hv rv
    unfold RrepublicLine_223
    exact ok_b (endsLine_ok (PV_LR hv p)) (fun u hu => ok_s ⟨LR_SR hv hu, R0_SR hu rv⟩)
  have num : ∀ (b e : Nat) (y : Int32), y = nI b → b ≤ 99 → (e = 1 ∨ e = 2 ∨ e = 3 ∨ e = 4 ∨ e = 5) → ∀ (a : Nat) (x : Int32), x = nI a → a ≤ b → ok ((Rnumbered t x y).bind fun p9 => (wrI p9.2 67 201 (nI e) p9.1).bind fun s10 => RrepublicLine_223 s10 y1 y2) (fun u => LR t u ∧ R0 u) := by
    intro b e y ey hb he a x ex hab
    refine ok_b (numbered_ok p ex ey hab (by omega)) (fun q hq => ?_)
    refine ok_be (wr_nI (e := e) rfl (by omega) (by decide)) (fin _ (LR_tr hq.1.1 LR_67) ?_)
    exact R0_up (R0_SR hq.1 r) (fun h => by omega) (fun h => NB_mono (num_NB hq.2) hb) (fun m i _ _ h => by omega)
  unfold RrepublicLine_14
  refine ok_i (fun _ => ok_b (minLine_ok p r) (fun v hv => fin v hv.1 hv.2)) (fun _ => ?_)
  refine ok_i (fun _ => ok_b (wantLine_ok p r) (fun v hv => fin v hv.1 hv.2)) (fun _ => ?_)
  refine ok_i (fun _ => ok_b (ministerTold_ok p) (fun q hq => ?_)) (fun _ => ?_)
  · obtain ⟨a, ea, ha⟩ := hq.2
    rw [ea]
    exact ok_be (wr_nI (e := 10 + 18 * a + 4) (ix3 (a := 10) (b := 18) (c := 4)) (by omega) (by decide)) (fin _ (LR_tr hq.1.1 LR_67) (R0_free (R0_SR hq.1 r) (Or.inr ⟨a, 4, by omega, rfl⟩)))
  refine ok_i (fun _ => ok_b (feudLine_ok p r) (fun v hv => fin v hv.1 hv.2)) (fun _ => ?_)
  refine ok_i (fun _ => ok_b (kindTold_ok p) (fun q1 h1 => ok_b (ministerTold_ok (PV_SR h1.1 p)) (fun q2 h2 => ?_))) (fun _ => ?_)
  · have s2 := SR_tr h1.1 h2.1
    refine ok_i (fun w => ?_) (fun _ => fin _ s2.1 (R0_SR s2 r))
    obtain ⟨a, ea, ha⟩ := h1.2 (w_of h2.1.1.2 w)
    rw [ea]
    exact ok_be (wr_nI (e := 6 + a) (nI_add 6 a) (by omega) (by decide)) (fin _ (LR_tr s2.1 LR_67) (R0_free (R0_SR s2 r) (Or.inl (by omega))))
  refine ok_i (fun _ => num 60 1 _ rfl (by omega) (by omega) 1 _ rfl (by omega)) (fun _ => ?_)
  refine ok_i (fun _ => num 9 2 _ rfl (by omega) (by omega) 0 _ rfl (by omega)) (fun _ => ?_)
  refine ok_i (fun _ => num 99 3 _ rfl (by omega) (by omega) 0 _ rfl (by omega)) (fun _ => ?_)
  refine ok_i (fun _ => num 99 4 _ rfl (by omega) (by omega) 0 _ rfl (by omega)) (fun _ => ?_)
  exact ok_i (fun _ => num 99 5 _ rfl (by omega) (by omega) 0 _ rfl (by omega)) (fun _ => fin t LR_rfl r)
theorem republicLine_ok {t : SG} (p : ∃ M, PB M t) (r : R0 t) : ok (RrepublicLine t) (fun u => LN t u ∧ R0 u) := by
  unfold RrepublicLine
  refine ok_b (takes_ok (a := 1) (b := 10) p rfl rfl (by omega) (by omega)) (fun q hq => ?_)
  exact ok_w (repLine14 (PV_SR hq.1 p) (R0_SR hq.1 r)) (fun u hu => ⟨LN_tr ⟨hq.2.1, hq.1.1.2⟩ hu.1, hu.2⟩)
def AS (t u : SG) (L : Nat) (a b : Int32) : Prop := u = t ∨ ∃ g, g < L ∧ t 67 0 = nI g ∧ u 67 0 = nI (g + 1) ∧ u 67 (1 + 5 * g) = a ∧ u 67 (1 + 5 * g + 1) = b ∧ ∀ j, j ≠ 0 → (j < 1 + 5 * g ∨ 1 + 5 * g + 5 ≤ j) → u 67 j = t 67 j
theorem adds_ok {t : SG} {x a b c e f : Int32} {L : Nat} (ex : x = nI L) (hL : L ≤ 40) (h : NB (t 67 0) L) : ok (Radds t x a b c e f) (fun u => LR t u ∧ u 64 = t 64 ∧ AS t u L a b) := by
  subst ex
  unfold Radds
  obtain ⟨g, eg, hg⟩ := h
  refine ok_be (rd_nI (e := 0) rfl (by omega) (by decide)) ?_
  refine ok_i (fun w => ?_) (fun _ => ok_s ⟨LR_rfl, rfl, Or.inl rfl⟩)
  have hl : g < L := by
    rw [eg] at w
    have : g ≠ L := fun e2 => by subst e2; exact Int32.lt_irrefl w
    omega
  refine ok_be (rd_nI (e := 0) rfl (by omega) (by decide)) ?_
  rw [eg]
  refine ok_be (wr_nI (e := 1 + 5 * g) (ix2 (a := 1) (b := 5)) (by omega) (by decide)) ?_
  refine ok_be (wr_nI (e := 1 + 5 * g + 1) (ix3 (a := 1) (b := 5) (c := 1)) (by omega) (by decide)) ?_
  refine ok_be (wr_nI (e := 1 + 5 * g + 2) (ix3 (a := 1) (b := 5) (c := 2)) (by omega) (by decide)) ?_
  refine ok_be (wr_nI (e := 1 + 5 * g + 3) (ix3 (a := 1) (b := 5) (c := 3)) (by omega) (by decide)) ?_
  refine ok_be (wr_nI (e := 1 + 5 * g + 4) (ix3 (a := 1) (b := 5) (c := 4)) (by omega) (by decide)) ?_
  refine ok_be (rd_nI (e := 0) rfl (by omega) (by decide)) ?_
  rw [up_bn (by omega), up_bn (by omega), up_bn (by omega), up_bn (by omega), up_bn (by omega), eg]
  refine ok_be (wr_nI (e := 0) rfl (by omega) (by decide)) (ok_s ⟨LR_tr LR_67 (LR_tr LR_67 (LR_tr LR_67 (LR_tr LR_67 (LR_tr LR_67 LR_67)))), ?_, Or.inr ⟨g, hl, eg, by rw [up_a, nI_succ], ?_, ?_, fun j h0 hj => ?_⟩⟩)
  · rw [up_n (by omega), up_n (by omega), up_n (by omega), up_n (by omega), up_n (by omega), up_n (by omega)]
  · rw [up_bn (by omega), up_bn (by omega), up_bn (by omega), up_bn (by omega), up_bn (by omega), up_a]
  · rw [up_bn (by omega), up_bn (by omega), up_bn (by omega), up_bn (by omega), up_a]
  · rw [up_bn (by omega), up_bn (by omega), up_bn (by omega), up_bn (by omega), up_bn (by omega), up_bn (by omega)]
theorem AS_NB {t u : SG} {L : Nat} {a b : Int32} (h : AS t u L a b) (n : NB (t 67 0) L) : NB (u 67 0) L := by
  rcases h with rfl | ⟨g, hg, _, e, _⟩
  · exact n
  · exact ⟨g + 1, e, by omega⟩
def C8 (u : SG) : Prop := NB (u 67 0) 8
theorem C8_SR {t u : SG} (h : SR t u) (r : C8 t) : C8 u := by
  unfold C8
  rw [h.2]; exact r
theorem noLine_ok {t : SG} (p : ∃ M, PB M t) (r : C8 t) : ok (RnoLine t) (fun u => LR t u ∧ C8 u) := by
  unfold RnoLine
  refine ok_b (kindTold_ok p) (fun q1 h1 => ok_b (takes_ok (a := 19) (b := 20) (PV_SR h1.1 p) rfl rfl (by omega) (by omega)) (fun q2 h2 => ?_))
  have s2 := SR_tr h1.1 h2.1
  refine ok_b (numbered_ok (a := 0) (b := 9) (PV_SR s2 p) rfl rfl (by omega) (by omega)) (fun q3 h3 => ?_)
  have s3 := SR_tr s2 h3.1
  have go : ∀ v a b c e, SR t v → ok (RnoLine_62 v a b c e) (fun u => LR t u ∧ C8 u) := by
    intro v a b c e hv
    unfold RnoLine_62
    exact ok_b (adds_ok (L := 8) rfl (by omega) (C8_SR hv r)) (fun u hu => ok_s ⟨LR_tr hv.1 hu.1, AS_NB hu.2.2 (C8_SR hv r)⟩)
  refine ok_i (fun _ => ok_i (fun _ => ok_i (fun _ => ?_) (fun _ => go _ _ _ _ _ s3)) (fun _ => go _ _ _ _ _ s3)) (fun _ => go _ _ _ _ _ s3)
  refine ok_b (advance_ok (PV_SR s3 p)) (fun v hv => ok_b (seasonTold_ok (PV_SR (SR_tr s3 hv.1) p)) (fun q5 h5 => go _ _ _ _ _ (SR_tr s3 (SR_tr hv.1 h5.1))))
theorem orderLine33 {t : SG} {y1 v0 : Int32} (p : ∃ M, PB M t) (r : C8 t) : ok (RorderLine_33 t y1 v0) (fun u => LR t u ∧ C8 u) := by
  have f140 : ∀ v, LR t v → C8 v → ok (RorderLine_140 v y1 v0) (fun u => LR t u ∧ C8 u) := by
    intro v hv rv
    unfold RorderLine_140
    exact ok_b (endsLine_ok (PV_LR hv p)) (fun u hu => ok_s ⟨LR_SR hv hu, C8_SR hu rv⟩)
  have f91 : ∀ v, LR t v → C8 v → ok (RorderLine_91 v y1 v0) (fun u => LR t u ∧ C8 u) := by
    intro v hv rv
    unfold RorderLine_91
    refine ok_i (fun _ => ?_) (fun _ => f140 v hv rv)
    have pv := PV_LR hv p
    refine ok_b (kindTold_ok pv) (fun q1 h1 => ok_b (numbered_ok (a := 0) (b := 9) (PV_SR h1.1 pv) rfl rfl (by omega) (by omega)) (fun q2 h2 => ?_))
    have s2 := SR_tr h1.1 h2.1
    refine ok_b (kindTold_ok (PV_SR s2 pv)) (fun q3 h3 => ?_)
    have s3 := SR_tr s2 h3.1
    refine ok_b (numbered_ok (a := 0) (b := 9) (PV_SR s3 pv) rfl rfl (by omega) (by omega)) (fun q4 h4 => ?_)
    have s4 := SR_tr s3 h4.1
    exact ok_b (adds_ok (L := 8) rfl (by omega) (C8_SR s4 rv)) (fun u hu => f140 u (LR_tr hv (LR_tr s4.1 hu.1)) (AS_NB hu.2.2 (C8_SR s4 rv)))
  have f68 : ∀ v, LR t v → C8 v → ok (RorderLine_68 v y1 v0) (fun u => LR t u ∧ C8 u) := by
    intro v hv rv
    unfold RorderLine_68
    refine ok_i (fun _ => ?_) (fun _ => f91 v hv rv)
    refine ok_b (numbered_ok (a := 0) (b := 27) (PV_LR hv p) rfl rfl (by omega) (by omega)) (fun q1 h1 => ?_)
    exact ok_b (adds_ok (L := 8) rfl (by omega) (C8_SR h1.1 rv)) (fun u hu => f91 u (LR_tr hv (LR_tr h1.1.1 hu.1)) (AS_NB hu.2.2 (C8_SR h1.1 rv)))
  have f58 : ∀ v, LR t v → C8 v → ok (RorderLine_58 v y1 v0) (fun u => LR t u ∧ C8 u) := by
    intro v hv rv
    unfold RorderLine_58
    exact ok_i (fun _ => ok_b (noLine_ok (PV_LR hv p) rv) (fun u hu => f68 u (LR_tr hv hu.1) hu.2)) (fun _ => f68 v hv rv)
  unfold RorderLine_33
  refine ok_i (fun _ => ok_be (rd_nI (e := 0) rfl (by omega) (by decide)) (ok_i (fun _ => f58 t LR_rfl r) (fun _ => ?_))) (fun _ => f58 t LR_rfl r)
  exact ok_b also_ok (fun v hv => f58 v hv.1.1 (C8_SR hv.1 r))
theorem orderLine_ok {t : SG} (p : ∃ M, PB M t) (r : C8 t) : ok (RorderLine t) (fun u => LN t u ∧ C8 u) := by
  unfold RorderLine
  refine ok_i (fun _ => ok_b (takes_ok (a := 18) (b := 18) p rfl rfl (by omega) (by omega)) (fun q hq => ?_)) (fun _ => ok_b (takes_ok (a := 22) (b := 23) p rfl rfl (by omega) (by omega)) (fun q hq => ?_))
  · exact ok_w (orderLine33 (PV_SR hq.1 p) (C8_SR hq.1 r)) (fun u hu => ⟨LN_tr ⟨hq.2.1, hq.1.1.2⟩ hu.1, hu.2⟩)
  · exact ok_w (orderLine33 (PV_SR hq.1 p) (C8_SR hq.1 r)) (fun u hu => ⟨LN_tr ⟨hq.2.1, hq.1.1.2⟩ hu.1, hu.2⟩)
end XRL
