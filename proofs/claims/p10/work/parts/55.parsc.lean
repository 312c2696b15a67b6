section XRM
variable {sc : Nat × (Nat → Int32)} {d : Nat} {K : List KD} {r q t a B m : Nat} {w : EW}
/-! the reference: lines of years, leaks, summers, bargains -/
def YT (f : Nat → Int32) : Prop := ∀ j, j < 40 → (f (1 + 5 * j) = 1 → NB (f (1 + 5 * j + 1)) 3) ∧ (f (1 + 5 * j) = 2 → NB (f (1 + 5 * j + 1)) 2)
def Y0 (u : SG) : Prop := NB (u 67 0) 40 ∧ (u 64 8 = 0 → YT (u 67))
theorem Y0_SR {t u : SG} (h : SR t u) (r : Y0 t) : Y0 u := by
  unfold Y0
  rw [h.2]; exact ⟨r.1, fun w => r.2 (w_of h.1.2 w)⟩
theorem Y0_AS {t u : SG} {a b : Int32} (r : Y0 t) (e : u 64 = t 64) (h : AS t u 40 a b) (c1 : t 64 8 = 0 → a = 1 → NB b 3) (c2 : t 64 8 = 0 → a = 2 → NB b 2) : Y0 u := by
  refine ⟨AS_NB h r.1, fun w => ?_⟩
  rw [e] at w
  have y := r.2 w
  rcases h with rfl | ⟨g, hg, eg, e0, ea, eb, fr⟩
  · exact y
  · intro j hj
    by_cases c : j = g
    · subst c
      rw [ea, eb]
      exact ⟨c1 w, c2 w⟩
    · rw [fr (1 + 5 * j) (by omega) (by omega), fr (1 + 5 * j + 1) (by omega) (by omega)]
      exact y j hj
theorem yearLine30 {t : SG} {y1 v0 : Int32} (p : ∃ M, PB M t) (r : Y0 t) : ok (RyearLine_30 t y1 v0) (fun u => LR t u ∧ Y0 u) := by
  have f201 : ∀ v, LR t v → Y0 v → ok (RyearLine_201 v y1 v0) (fun u => LR t u ∧ Y0 u) := by
    intro v hv rv
    unfold RyearLine_201
    exact ok_b (endsLine_ok (PV_LR hv p)) (fun u hu => ok_s ⟨LR_SR hv hu, Y0_SR hu rv⟩)
  have f184 : ∀ v, LR t v → Y0 v → ok (RyearLine_184 v y1 v0) (fun u => LR t u ∧ Y0 u) := by
    intro v hv rv
    unfold RyearLine_184
    refine ok_i (fun _ => ?_) (fun _ => f201 v hv rv)
    exact ok_b (adds_ok (L := 40) rfl (by omega) rv.1) (fun u hu => f201 u (LR_tr hv hu.1) (Y0_AS rv hu.2.1 hu.2.2 (fun _ e => absurd e (by decide)) (fun _ e => absurd e (by decide))))
  have f163 : (3 + v0 - 26 = 3 ∨ 3 + v0 - 26 = 4) → ∀ v, LR t v → Y0 v → ok (RyearLine_163 v y1 v0) (fun u => LR t u ∧ Y0 u) := by
    intro h v hv rv
    unfold RyearLine_163
    refine ok_b (numbered_ok (a := 0) (b := 5) (PV_LR hv p) rfl rfl (by omega) (by omega)) (fun q1 h1 => ?_)
    have r1 := Y0_SR h1.1 rv
    refine ok_b (adds_ok (L := 40) rfl (by omega) r1.1) (fun u hu => f184 u (LR_tr hv (LR_tr h1.1.1 hu.1)) (Y0_AS r1 hu.2.1 hu.2.2 (fun _ e => ?_) (fun _ e => ?_)))
    · rcases h with h | h <;> (rw [h] at e; exact absurd e (by decide))
    · rcases h with h | h <;> (rw [h] at e; exact absurd e (by decide))
  have f151 : ∀ v, LR t v → Y0 v → ok (RyearLine_151 v y1 v0) (fun u => LR t u ∧ Y0 u) := by
    intro v hv rv
    unfold RyearLine_151
    exact ok_i (fun e => f163 (Or.inl (by rw [e]; decide)) v hv rv) (fun _ => ok_i (fun e => f163 (Or.inr (by rw [e]; decide)) v hv rv) (fun _ => f184 v hv rv))
  have f125 : ∀ v, LR t v → Y0 v → ok (RyearLine_125 v y1 v0) (fun u => LR t u ∧ Y0 u) := by
    intro v hv rv
    unfold RyearLine_125
    refine ok_i (fun _ => ?_) (fun _ => f151 v hv rv)
    have pv := PV_LR hv p
    refine ok_b (kindTold_ok pv) (fun q1 h1 => ok_b (numbered_ok (a := 0) (b := 5) (PV_SR h1.1 pv) rfl rfl (by omega) (by omega)) (fun q2 h2 => ?_))
    have s2 := SR_tr h1.1 h2.1
    have r2 := Y0_SR s2 rv
    exact ok_b (adds_ok (L := 40) rfl (by omega) r2.1) (fun u hu => f151 u (LR_tr hv (LR_tr s2.1 hu.1)) (Y0_AS r2 hu.2.1 hu.2.2 (fun _ e => absurd e (by decide)) (fun w _ => h1.2 (w_of h2.1.1.2 w))))
  have f105 : ∀ v, LR t v → Y0 v → ok (RyearLine_105 v y1 v0) (fun u => LR t u ∧ Y0 u) := by
    intro v hv rv
    unfold RyearLine_105
    refine ok_i (fun _ => ?_) (fun _ => f125 v hv rv)
    refine ok_b (seasonTold_ok (PV_LR hv p)) (fun q1 h1 => ?_)
    have r1 := Y0_SR h1.1 rv
    exact ok_b (adds_ok (L := 40) rfl (by omega) r1.1) (fun u hu => f125 u (LR_tr hv (LR_tr h1.1.1 hu.1)) (Y0_AS r1 hu.2.1 hu.2.2 (fun w _ => h1.2 w) (fun _ e => absurd e (by decide))))
  have f55 : ∀ v, LR t v → Y0 v → ok (RyearLine_55 v y1 v0) (fun u => LR t u ∧ Y0 u) := by
    intro v hv rv
    unfold RyearLine_55
    refine ok_i (fun _ => ?_) (fun _ => f105 v hv rv)
    have pv := PV_LR hv p
    refine ok_b (numbered_ok (a := 0) (b := 5) pv rfl rfl (by omega) (by omega)) (fun q1 h1 => ?_)
    refine ok_b (numbered_ok (a := 0) (b := 9) (PV_SR h1.1 pv) rfl rfl (by omega) (by omega)) (fun q2 h2 => ?_)
    have s2 := SR_tr h1.1 h2.1
    refine ok_b (numbered_ok (a := 0) (b := 9) (PV_SR s2 pv) rfl rfl (by omega) (by omega)) (fun q3 h3 => ?_)
    have s3 := SR_tr s2 h3.1
    refine ok_b (numbered_ok (a := 0) (b := 9) (PV_SR s3 pv) rfl rfl (by omega) (by omega)) (fun q4 h4 => ?_)
    have s4 := SR_tr s3 h4.1
    have r4 := Y0_SR s4 rv
    exact ok_b (adds_ok (L := 40) rfl (by omega) r4.1) (fun u hu => f105 u (LR_tr hv (LR_tr s4.1 hu.1)) (Y0_AS r4 hu.2.1 hu.2.2 (fun _ e => absurd e (by decide)) (fun _ e => absurd e (by decide))))
  unfold RyearLine_30
  refine ok_i (fun _ => ok_be (rd_nI (e := 0) rfl (by omega) (by decide)) (ok_i (fun _ => f55 t LR_rfl r) (fun _ => ?_))) (fun _ => f55 t LR_rfl r)
  exact ok_b also_ok (fun v hv => f55 v hv.1.1 (Y0_SR hv.1 r))
theorem yearLine_ok {t : SG} (p : ∃ M, PB M t) (r : Y0 t) : ok (RyearLine t) (fun u => LN t u ∧ Y0 u) := by
  unfold RyearLine
  refine ok_i (fun _ => ok_b (takes_ok (a := 5) (b := 5) p rfl rfl (by omega) (by omega)) (fun q hq => ?_)) (fun _ => ok_b (takes_ok (a := 24) (b := 28) p rfl rfl (by omega) (by omega)) (fun q hq => ?_))
  · exact ok_w (yearLine30 (PV_SR hq.1 p) (Y0_SR hq.1 r)) (fun u hu => ⟨LN_tr ⟨hq.2.1, hq.1.1.2⟩ hu.1, hu.2⟩)
  · exact ok_w (yearLine30 (PV_SR hq.1 p) (Y0_SR hq.1 r)) (fun u hu => ⟨LN_tr ⟨hq.2.1, hq.1.1.2⟩ hu.1, hu.2⟩)
theorem not8 {g : Nat} (hg : g ≤ 8) (c : ¬ (8 : Int32) ≤ nI g) : g < 8 := by
  have : g ≠ 8 := fun e => c (by subst e; decide)
  omega
theorem leakLine38 {t : SG} {y1 : Int32} (p : ∃ M, PB M t) (r : C8 t) : ok (RleakLine_38 t y1) (fun u => LR t u ∧ C8 u) := by
  have f137 : ∀ v a b, LR t v → C8 v → ok (RleakLine_137 v y1 a b) (fun u => LR t u ∧ C8 u) := by
    intro v a b hv rv
    unfold RleakLine_137
    exact ok_b (endsLine_ok (PV_LR hv p)) (fun u hu => ok_s ⟨LR_SR hv hu, C8_SR hu rv⟩)
  have f73 : ∀ v a b, LR t v → C8 v → ok (RleakLine_73 v y1 a b) (fun u => LR t u ∧ C8 u) := by
    intro v a b hv rv
    unfold RleakLine_73
    refine ok_be (rd_nI (e := 0) rfl (by omega) (by decide)) (ok_i (fun _ => f137 v a b hv rv) (fun c => ?_))
    obtain ⟨g, eg, hg⟩ := rv
    rw [eg] at c
    have hl := not8 hg c
    refine ok_be (rd_nI (e := 0) rfl (by omega) (by decide)) ?_
    rw [eg]
    refine ok_be (wr_nI (e := 1 + 2 * g) (ix2 (a := 1) (b := 2)) (by omega) (by decide)) ?_
    refine ok_be (rd_nI (e := 0) rfl (by omega) (by decide)) ?_
    rw [up_bn (by omega), eg]
    have f126 : ∀ x : Int32, ok (RleakLine_126 (up v 67 (1 + 2 * g) a) y1 a b x (2 + 2 * nI g)) (fun u => LR t u ∧ C8 u) := by
      intro x
      unfold RleakLine_126
      refine ok_be (wr_nI (e := 2 + 2 * g) (ix2 (a := 2) (b := 2)) (by omega) (by decide)) ?_
      refine ok_be (rd_nI (e := 0) rfl (by omega) (by decide)) ?_
      rw [up_bn (by omega), up_bn (by omega), eg]
      refine ok_be (wr_nI (e := 0) rfl (by omega) (by decide)) (f137 _ a b (LR_tr hv (LR_tr LR_67 (LR_tr LR_67 LR_67))) ⟨g + 1, ?_, by omega⟩)
      rw [up_a, nI_succ]
    exact ok_i (fun _ => f126 _) (fun _ => f126 _)
  unfold RleakLine_38
  refine ok_b (numbered_ok (a := 0) (b := 5) p rfl rfl (by omega) (by omega)) (fun q1 h1 => ok_i (fun _ => ?_) (fun _ => ?_))
  · exact ok_b (takes_ok (a := 30) (b := 30) (PV_SR h1.1 p) rfl rfl (by omega) (by omega)) (fun q2 h2 => f73 _ _ _ (SR_tr h1.1 h2.1).1 (C8_SR (SR_tr h1.1 h2.1) r))
  · exact ok_b (takes_ok (a := 18) (b := 18) (PV_SR h1.1 p) rfl rfl (by omega) (by omega)) (fun q2 h2 => f73 _ _ _ (SR_tr h1.1 h2.1).1 (C8_SR (SR_tr h1.1 h2.1) r))
theorem leakLine_ok {t : SG} (p : ∃ M, PB M t) (r : C8 t) : ok (RleakLine t) (fun u => LN t u ∧ C8 u) := by
  unfold RleakLine
  refine ok_b (takes_ok (a := 29) (b := 29) p rfl rfl (by omega) (by omega)) (fun q hq => ?_)
  have go : ∀ v x, SR q.2 v → ok (RleakLine_38 v x) (fun u => LN t u ∧ C8 u) := fun v x hv =>
    ok_w (leakLine38 (PV_SR (SR_tr hq.1 hv) p) (C8_SR (SR_tr hq.1 hv) r)) (fun u hu => ⟨LN_tr ⟨hq.2.1, hq.1.1.2⟩ (LR_tr hv.1 hu.1), hu.2⟩)
  refine ok_i (fun _ => ok_be (rd_nI (e := 0) rfl (by omega) (by decide)) (ok_i (fun _ => go _ _ SR_rfl) (fun _ => ?_))) (fun _ => go _ _ SR_rfl)
  exact ok_b also_ok (fun v hv => go v _ hv.1)
def ST4 (f : Nat → Int32) : Prop := ∀ j, j < 8 → NB (f (1 + 4 * j)) 3 ∧ NB (f (1 + 4 * j + 1)) 9 ∧ NB (f (1 + 4 * j + 2)) 9 ∧ NB (f (1 + 4 * j + 3)) 9
def S0 (u : SG) : Prop := NB (u 67 0) 8 ∧ (u 64 8 = 0 → ST4 (u 67))
theorem S0_SR {t u : SG} (h : SR t u) (r : S0 t) : S0 u := by
  unfold S0
  rw [h.2]; exact ⟨r.1, fun w => r.2 (w_of h.1.2 w)⟩
theorem summerLine38 {t : SG} {y1 : Int32} (p : ∃ M, PB M t) (r : S0 t) : ok (RsummerLine_38 t y1) (fun u => LR t u ∧ S0 u) := by
  have f142 : ∀ v a b c d, LR t v → S0 v → ok (RsummerLine_142 v y1 a b c d) (fun u => LR t u ∧ S0 u) := by
    intro v a b c d hv rv
    unfold RsummerLine_142
    exact ok_b (endsLine_ok (PV_LR hv p)) (fun u hu => ok_s ⟨LR_SR hv hu, S0_SR hu rv⟩)
  unfold RsummerLine_38
  refine ok_b (seasonTold_ok p) (fun q1 h1 => ?_)
  refine ok_b (numbered_ok (a := 0) (b := 9) (PV_SR h1.1 p) rfl rfl (by omega) (by omega)) (fun q2 h2 => ?_)
  have s2 := SR_tr h1.1 h2.1
  refine ok_b (numbered_ok (a := 0) (b := 9) (PV_SR s2 p) rfl rfl (by omega) (by omega)) (fun q3 h3 => ?_)
  have s3 := SR_tr s2 h3.1
  refine ok_b (numbered_ok (a := 0) (b := 9) (PV_SR s3 p) rfl rfl (by omega) (by omega)) (fun q4 h4 => ?_)
  have s4 := SR_tr s3 h4.1
  have r4 := S0_SR s4 r
  refine ok_be (rd_nI (e := 0) rfl (by omega) (by decide)) (ok_i (fun _ => f142 _ _ _ _ _ s4.1 r4) (fun c => ?_))
  obtain ⟨⟨g, eg, hg⟩, rt⟩ := r4
  rw [eg] at c
  have hl := not8 hg c
  refine ok_be (rd_nI (e := 0) rfl (by omega) (by decide)) ?_
  rw [eg]
  refine ok_be (wr_nI (e := 1 + 4 * g) (ix2 (a := 1) (b := 4)) (by omega) (by decide)) ?_
  refine ok_be (wr_nI (e := 1 + 4 * g + 1) (ix3 (a := 1) (b := 4) (c := 1)) (by omega) (by decide)) ?_
  refine ok_be (wr_nI (e := 1 + 4 * g + 2) (ix3 (a := 1) (b := 4) (c := 2)) (by omega) (by decide)) ?_
  refine ok_be (wr_nI (e := 1 + 4 * g + 3) (ix3 (a := 1) (b := 4) (c := 3)) (by omega) (by decide)) ?_
  refine ok_be (rd_nI (e := 0) rfl (by omega) (by decide)) ?_
  rw [up_bn (by omega), up_bn (by omega), up_bn (by omega), up_bn (by omega), eg]
  refine ok_be (wr_nI (e := 0) rfl (by omega) (by decide)) (f142 _ _ _ _ _ (LR_tr s4.1 (LR_tr LR_67 (LR_tr LR_67 (LR_tr LR_67 (LR_tr LR_67 LR_67))))) ⟨⟨g + 1, by rw [up_a, nI_succ], by omega⟩, fun w => ?_⟩)
  rw [up_n (by omega), up_n (by omega), up_n (by omega), up_n (by omega), up_n (by omega)] at w
  intro j hj
  by_cases e : j = g
  · subst e
    refine ⟨?_, ?_, ?_, ?_⟩
    · rw [up_bn (by omega), up_bn (by omega), up_bn (by omega), up_bn (by omega), up_a]
      exact h1.2 (w_of (SR_tr h2.1 (SR_tr h3.1 h4.1)).1.2 w)
    · rw [up_bn (by omega), up_bn (by omega), up_bn (by omega), up_a]; exact num_NB h2.2
    · rw [up_bn (by omega), up_bn (by omega), up_a]; exact num_NB h3.2
    · rw [up_bn (by omega), up_a]; exact num_NB h4.2
  · have o := rt w j hj
    have fr : ∀ i, i < 4 → ∀ a b c d x : Int32, up (up (up (up (up q4.2 67 (1 + 4 * g) a) 67 (1 + 4 * g + 1) b) 67 (1 + 4 * g + 2) c) 67 (1 + 4 * g + 3) d) 67 0 x 67 (1 + 4 * j + i) = q4.2 67 (1 + 4 * j + i) := by
      intro i hi a b c d x
      rw [up_bn (by omega), up_bn (by omega), up_bn (by omega), up_bn (by omega), up_bn (by omega)]
    exact ⟨by rw [up_bn (by omega), up_bn (by omega), up_bn (by omega), up_bn (by omega), up_bn (by omega)]; exact o.1, by rw [fr 1 (by omega)]; exact o.2.1, by rw [fr 2 (by omega)]; exact o.2.2.1, by rw [fr 3 (by omega)]; exact o.2.2.2⟩
theorem summerLine_ok {t : SG} (p : ∃ M, PB M t) (r : S0 t) : ok (RsummerLine t) (fun u => LN t u ∧ S0 u) := by
  unfold RsummerLine
  refine ok_b (takes_ok (a := 31) (b := 31) p rfl rfl (by omega) (by omega)) (fun q hq => ?_)
  have go : ∀ v x, SR q.2 v → ok (RsummerLine_38 v x) (fun u => LN t u ∧ S0 u) := fun v x hv =>
    ok_w (summerLine38 (PV_SR (SR_tr hq.1 hv) p) (S0_SR (SR_tr hq.1 hv) r)) (fun u hu => ⟨LN_tr ⟨hq.2.1, hq.1.1.2⟩ (LR_tr hv.1 hu.1), hu.2⟩)
  refine ok_i (fun _ => ok_be (rd_nI (e := 0) rfl (by omega) (by decide)) (ok_i (fun _ => go _ _ SR_rfl) (fun _ => ?_))) (fun _ => go _ _ SR_rfl)
  exact ok_b also_ok (fun v hv => go v _ hv.1)
theorem bargainLine_ok {t : SG} (p : ∃ M, PB M t) : ok (RbargainLine t) (fun u => LN t u) := by
  unfold RbargainLine
  refine ok_b (takes_ok (a := 32) (b := 32) p rfl rfl (by omega) (by omega)) (fun q1 h1 => ?_)
  have p1 := PV_SR h1.1 p
  refine ok_b (numbered_ok (a := 0) (b := 5) p1 rfl rfl (by omega) (by omega)) (fun q2 h2 => ?_)
  refine ok_b (numbered_ok (a := 0) (b := 99) (PV_SR h2.1 p1) rfl rfl (by omega) (by omega)) (fun q3 h3 => ?_)
  have s3 := SR_tr h2.1 h3.1
  have f38 : ∀ v a b, LR q1.2 v → ok (RbargainLine_38 v a b) (fun u => LN t u) := by
    intro v a b hv
    unfold RbargainLine_38
    exact ok_b (endsLine_ok (PV_LR hv p1)) (fun u hu => ok_s (LN_tr ⟨h1.2.1, h1.1.1.2⟩ (LR_SR hv hu)))
  refine ok_i (fun _ => ?_) (fun _ => f38 _ _ _ s3.1)
  obtain ⟨a, ea, ha⟩ := num_NB h2.2
  exact ok_be (wr_nI (e := a) ea (by omega) (by decide)) (f38 _ _ _ (LR_tr s3.1 LR_67))
theorem clears_l {s : SG} {y1 : Int32} : ∀ (n j z : Nat) (t : SG), (∀ c, c ≠ 67 → t c = s c) → (∀ i, i < j → t 67 i = 0) → j + n = 201 → n ≤ z → ok (Rclears_2 (Rclears_R z) t y1 (nI j)) (fun u => (∀ c, c ≠ 67 → u c = s c) ∧ (y1 = 0 → R0 u) ∧ (¬ y1 = 0 → ∀ i, i < 201 → u 67 i = 0)) := by
  intro n
  induction n with
  | zero =>
    intro j z t h h0 hj hz
    unfold Rclears_2
    rw [if_pos (show (201 : Int32) ≤ nI j from k_ge (m := 201) hj)]
    refine ok_i (fun e => ?_) (fun e => ok_s ⟨h, fun c => absurd c e, fun _ i hi => h0 i (by omega)⟩)
    refine ok_be (wr_nI (e := 1) rfl (by omega) (by decide)) (ok_be (wr_nI (e := 2) rfl (by omega) (by decide)) (ok_be (wr_nI (e := 3) rfl (by omega) (by decide)) (ok_be (wr_nI (e := 4) rfl (by omega) (by decide)) (ok_be (wr_nI (e := 5) rfl (by omega) (by decide)) (ok_s ⟨fun c hc => ?_, fun _ => ?_, fun c => absurd e c⟩)))))
    · rw [up_n hc, up_n hc, up_n hc, up_n hc, up_n hc]; exact h c hc
    · have r : R0 t := by
        refine ⟨⟨0, h0 0 (by omega), by omega⟩, ⟨0, h0 3 (by omega), by omega⟩, ⟨0, h0 4 (by omega), by omega⟩, fun m i hm hi => ⟨0, h0 _ (by omega), by omega⟩⟩
      refine R0_free (R0_up (R0_up (R0_free (R0_free r (Or.inl (by omega))) (Or.inl (by omega))) (fun e => by omega) (fun _ => ⟨50, rfl, by omega⟩) (fun m i _ _ e => by omega)) (fun e => by omega) (fun _ => ⟨50, rfl, by omega⟩) (fun m i _ _ e => by omega)) (Or.inl (by omega))
  | succ n ih =>
    intro j z t h h0 hj hz
    obtain ⟨z, rfl⟩ : ∃ z', z = z' + 1 := ⟨z - 1, by omega⟩
    unfold Rclears_2
    rw [if_neg (show ¬ (201 : Int32) ≤ nI j from k_lt (m := 201) hj (by decide))]
    refine ok_be (wr_nI rfl (by omega) (by decide)) ?_
    show ok (Rclears_2 (Rclears_R z) (up t 67 j 0) y1 (nI j + 1)) _
    rw [← nI_succ]
    refine ih (j + 1) z _ (fun c hc => by rw [up_n hc]; exact h c hc) (fun i hi => ?_) (by omega) (by omega)
    by_cases e : i = j
    · subst e; rw [up_a]
    · rw [up_bn e]; exact h0 i (by omega)
theorem clears_ok {s : SG} {y1 : Int32} : ok (Rclears s y1) (fun u => (∀ c, c ≠ 67 → u c = s c) ∧ (y1 = 0 → R0 u) ∧ (¬ y1 = 0 → ∀ i, i < 201 → u 67 i = 0)) := by
  unfold Rclears
  exact clears_l 201 0 xF s (fun _ _ => rfl) (fun i hi => absurd hi (by omega)) rfl (by have := xF_ge; omega)
end XRM
