section XRK
variable {sc : Nat × (Nat → Int32)} {d : Nat} {K : List KD} {r q t a B m : Nat} {w : EW}
/-! the reference: its reader of told things -/
def PB (M : Nat) (t : SG) : Prop := ∃ sz nx, t 64 2 = nI sz ∧ sz ≤ 600 ∧ t 64 3 = nI nx ∧ nx ≤ sz ∧ (¬ t 64 8 = 0 → ¬ t 65 7 = 0) ∧ (t 64 8 = 0 → sz - nx + (if t 64 5 = 0 then 0 else 1) ≤ M)
def FT (t u : SG) : Prop := (∀ j, j ≠ 7 → j ≠ 8 → u 65 j = t 65 j) ∧ (∀ c, c ≠ 64 → c ≠ 65 → c ≠ 67 → u c = t c) ∧ (¬ t 64 8 = 0 → ¬ u 64 8 = 0)
def LR (t u : SG) : Prop := (∀ M, PB M t → PB M u) ∧ FT t u
def SR (t u : SG) : Prop := LR t u ∧ u 67 = t 67
def LN (t u : SG) : Prop := (∀ M, PB (M + 1) t → PB M u) ∧ FT t u
theorem FT_rfl {t : SG} : FT t t := ⟨fun _ _ _ => rfl, fun _ _ _ _ => rfl, fun h => h⟩
theorem FT_tr {s t u : SG} (h : FT s t) (g : FT t u) : FT s u := ⟨fun j a b => (g.1 j a b).trans (h.1 j a b), fun c a b e => (g.2.1 c a b e).trans (h.2.1 c a b e), fun q => g.2.2 (h.2.2 q)⟩
theorem LR_rfl {t : SG} : LR t t := ⟨fun _ h => h, FT_rfl⟩
theorem LR_tr {s t u : SG} (h : LR s t) (g : LR t u) : LR s u := ⟨fun M p => g.1 M (h.1 M p), FT_tr h.2 g.2⟩
theorem SR_rfl {t : SG} : SR t t := ⟨LR_rfl, rfl⟩
theorem SR_tr {s t u : SG} (h : SR s t) (g : SR t u) : SR s u := ⟨LR_tr h.1 g.1, g.2.trans h.2⟩
theorem LN_tr {s t u : SG} (h : LN s t) (g : LR t u) : LN s u := ⟨fun M p => g.1 M (h.1 M p), FT_tr h.2 g.2⟩
theorem LR_67 {t : SG} {j : Nat} {x : Int32} : LR t (up t 67 j x) := by
  refine ⟨fun M ⟨sz, nx, h⟩ => ⟨sz, nx, ?_⟩, fun i _ _ => by rw [up_n (by omega)], fun c _ _ h => up_n h, fun h => by rw [up_n (by omega)]; exact h⟩
  rw [up_n (show (64 : Nat) ≠ 67 by omega), up_n (show (65 : Nat) ≠ 67 by omega)]
  exact h
def bA (s : SG) (sz p : Nat) : Int32 := if sz ≤ p then -1 else s 65 (10 + p)
theorem byteAt_eq {s : SG} {x : Int32} {sz p : Nat} (e : s 64 2 = nI sz) (ex : x = nI p) (hs : sz ≤ 600) (hp : p ≤ 600) : RbyteAt s x = some (bA s sz p) := by
  unfold RbyteAt bA
  rw [e, ex]
  by_cases c : sz ≤ p
  · rw [if_pos (nI_le2 c (by omega)), if_pos c]
  · rw [if_neg (nI_ge (by omega) (by omega)), if_neg c, rd_nI (s := s) (k := 65) (n := 5768) (x := 10 + nI p) (e := 10 + p) (nI_add 10 p) (by omega) (by decide)]
    rfl
theorem bA_lt {s : SG} {sz p : Nat} (h : ¬ bA s sz p = -1) : p < sz := by
  by_cases c : sz ≤ p
  · exact absurd (if_pos c) h
  · omega
def AD (t u : SG) (sz n : Nat) : Prop := u 64 2 = nI sz ∧ u 64 3 = nI n ∧ u 64 8 = t 64 8 ∧ ∀ c, c ≠ 64 → u c = t c
theorem AD_up {t u : SG} {sz n j : Nat} {x : Int32} (h : AD t u sz n) (h2 : j ≠ 2) (h3 : j ≠ 3) (h8 : j ≠ 8) : AD t (up u 64 j x) sz n :=
  ⟨by rw [up_bn (Ne.symm h2)]; exact h.1, by rw [up_bn (Ne.symm h3)]; exact h.2.1, by rw [up_bn (Ne.symm h8)]; exact h.2.2.1, fun c hc => by rw [up_n hc]; exact h.2.2.2 c hc⟩
theorem AD_next {t u : SG} {sz n : Nat} (h : AD t u sz n) : AD t (up u 64 3 (u 64 3 + 1)) sz (n + 1) :=
  ⟨by rw [up_bn (by decide)]; exact h.1, by rw [up_a, h.2.1, nI_succ], by rw [up_bn (by decide)]; exact h.2.2.1, fun c hc => by rw [up_n hc]; exact h.2.2.2 c hc⟩
theorem AD_bA {t u : SG} {sz n p : Nat} (h : AD t u sz n) : bA u sz p = bA t sz p := by
  unfold bA
  rw [h.2.2.2 65 (by decide)]
def AE (t u : SG) (sz n : Nat) : Prop := ∃ n2, n ≤ n2 ∧ n2 ≤ sz ∧ AD t u sz n2 ∧ (u 64 5 = 0 ∨ n < n2)
theorem AE_5 {t u : SG} {sz n n2 : Nat} {v : Int32} (h : AD t u sz n2) (h1 : n < n2) (h2 : n2 ≤ sz) : AE t (up u 64 5 v) sz n :=
  ⟨n2, by omega, h2, AD_up h (by decide) (by decide) (by decide), Or.inr h1⟩
theorem adv198 {t : SG} {sz n0 : Nat} {y1 : Int32} (hs : sz ≤ 600) : ∀ (m n z : Nat) (u : SG), AD t u sz n → n + m = sz → m ≤ z → (n0 < n ∨ n0 = n ∧ ¬ RisDigit (bA t sz n) = 0) → ok (Radvance_198 (Radvance_R z).1 (Radvance_R z).2.1 (Radvance_R z).2.2 u y1) (fun w => AE t w sz n0) := by
  intro m
  induction m with
  | zero =>
    intro n z u h hn hz hl
    unfold Radvance_198
    have hb : bA u sz n = -1 := if_pos (by omega)
    have hd : RisDigit (-1) = 0 := by decide
    refine ok_be (byteAt_eq h.1 h.2.1 hs (by omega)) ?_
    rw [hb, if_pos hd]
    have hl2 : n0 < n := hl.resolve_right (fun c => c.2 (by rw [← AD_bA h, hb]; exact hd))
    exact ok_i (fun _ => ok_s (AE_5 h hl2 (by omega))) (fun _ => ok_s (AE_5 h hl2 (by omega)))
  | succ m ih =>
    intro n z u h hn hz hl
    obtain ⟨z, rfl⟩ : ∃ z', z = z' + 1 := ⟨z - 1, by omega⟩
    unfold Radvance_198
    refine ok_be (byteAt_eq h.1 h.2.1 hs (by omega)) (ok_i (fun c => ?_) (fun c => ?_))
    · have hl2 : n0 < n := hl.resolve_right (fun k => k.2 (by rw [← AD_bA h]; exact c))
      exact ok_i (fun _ => ok_s (AE_5 h hl2 (by omega))) (fun _ => ok_s (AE_5 h hl2 (by omega)))
    · have go : ∀ u', AD t u' sz n → ok (Radvance_248 (Radvance_R (z + 1)).1 (Radvance_R (z + 1)).2.1 (Radvance_R (z + 1)).2.2 u' y1) (fun w => AE t w sz n0) := fun u' h' =>
        ih (n + 1) z _ (AD_next h') (by omega) (by omega) (Or.inl (by omega))
      refine ok_i (fun _ => go u h) (fun _ => ok_be (byteAt_eq h.1 h.2.1 hs (by omega)) (go _ (AD_up h (by decide) (by decide) (by decide))))
theorem adv77 {t : SG} {sz n0 : Nat} {y1 : Int32} (hs : sz ≤ 600) : ∀ (m n z : Nat) (u : SG) (y2 : Int64), AD t u sz n → n + m = sz → m ≤ z → (n0 < n ∨ n0 = n ∧ ¬ RisLetter (bA t sz n) = 0) → ok (Radvance_77 (Radvance_R z).1 (Radvance_R z).2.1 (Radvance_R z).2.2 u y1 y2) (fun w => AE t w sz n0) := by
  intro m
  have fin : ∀ (z n : Nat) (u : SG) (y2 : Int64) (v : Int32), AD t u sz n → n0 < n → n ≤ sz → ok (Radvance_162 (Radvance_R z).1 (Radvance_R z).2.1 (Radvance_R z).2.2 u y1 y2 v) (fun w => AE t w sz n0) := by
    intro z n u y2 v h h1 h2
    unfold Radvance_162
    have h' := AD_up (j := 7) (x := v) h (by decide) (by decide) (by decide)
    exact ok_i (fun _ => ok_s (AE_5 h' h1 h2)) (fun _ => ok_s (AE_5 h' h1 h2))
  induction m with
  | zero =>
    intro n z u y2 h hn hz hl
    unfold Radvance_77
    have hb : bA u sz n = -1 := if_pos (by omega)
    have hd : RisLetter (-1) = 0 := by decide
    refine ok_be (byteAt_eq h.1 h.2.1 hs (by omega)) ?_
    rw [hb, if_pos hd]
    have hl2 : n0 < n := hl.resolve_right (fun c => c.2 (by rw [← AD_bA h, hb]; exact hd))
    exact ok_i (fun _ => fin z n u y2 _ h hl2 (by omega)) (fun _ => fin z n u y2 _ h hl2 (by omega))
  | succ m ih =>
    intro n z u y2 h hn hz hl
    obtain ⟨z, rfl⟩ : ∃ z', z = z' + 1 := ⟨z - 1, by omega⟩
    unfold Radvance_77
    refine ok_be (byteAt_eq h.1 h.2.1 hs (by omega)) (ok_i (fun c => ?_) (fun c => ?_))
    · have hl2 : n0 < n := hl.resolve_right (fun k => k.2 (by rw [← AD_bA h]; exact c))
      exact ok_i (fun _ => fin _ n u y2 _ h hl2 (by omega)) (fun _ => fin _ n u y2 _ h hl2 (by omega))
    · have go : ∀ y2', ok (Radvance_125 (Radvance_R (z + 1)).1 (Radvance_R (z + 1)).2.1 (Radvance_R (z + 1)).2.2 u y1 y2') (fun w => AE t w sz n0) := fun y2' =>
        ih (n + 1) z _ y2' (AD_next h) (by omega) (by omega) (Or.inl (by omega))
      exact ok_i (fun _ => go _) (fun _ => ok_be (byteAt_eq h.1 h.2.1 hs (by omega)) (go _))
theorem AE_lo {t w : SG} {sz n n2 : Nat} (h : AE t w sz n2) (hn : n ≤ n2) : AE t w sz n := by
  obtain ⟨a, b, c, d, e⟩ := h
  exact ⟨a, by omega, c, d, e.elim Or.inl (fun g => Or.inr (by omega))⟩
theorem adv0 {t : SG} {sz n0 : Nat} (hs : sz ≤ 600) : ∀ (m n z : Nat) (u : SG), AD t u sz n → n + m = sz → m ≤ z → n0 ≤ n → ok (Radvance_0 (Radvance_R z).1 (Radvance_R z).2.1 (Radvance_R z).2.2 u) (fun w => AE t w sz n0) := by
  intro m
  have last : ∀ (n z m : Nat) (u : SG), AD t u sz n → n + m = sz → m ≤ z → n0 ≤ n → ok ((RbyteAt (up u 64 4 (u 64 3)) (u 64 3)).bind fun q3 => if 0 ≤ q3 then (if (RisLetter q3) = 0 then (if (RisDigit q3) = 0 then (if q3 = 59 then Radvance_308 (Radvance_R z).1 (Radvance_R z).2.1 (Radvance_R z).2.2 (up (up u 64 4 (u 64 3)) 64 3 ((u 64 3) + 1)) q3 (2) else Radvance_308 (Radvance_R z).1 (Radvance_R z).2.1 (Radvance_R z).2.2 (up (up u 64 4 (u 64 3)) 64 3 ((u 64 3) + 1)) q3 (4)) else Radvance_198 (Radvance_R z).1 (Radvance_R z).2.1 (Radvance_R z).2.2 (up (up u 64 4 (u 64 3)) 64 6 0) q3) else Radvance_77 (Radvance_R z).1 (Radvance_R z).2.1 (Radvance_R z).2.2 (up u 64 4 (u 64 3)) q3 (0)) else some (up (up u 64 4 (u 64 3)) 64 5 0)) (fun w => AE t w sz n0) := by
    intro n z m u h hn hz h0
    have h' := AD_up (j := 4) (x := u 64 3) h (by decide) (by decide) (by decide)
    have e3 : up u 64 4 (u 64 3) 64 3 = u 64 3 := up_bn (by decide)
    refine ok_be (byteAt_eq h'.1 h.2.1 hs (by omega)) ?_
    rw [AD_bA h']
    refine ok_i (fun c => ?_) (fun _ => ok_s ⟨n, h0, by omega, AD_up h' (by decide) (by decide) (by decide), Or.inl up_a⟩)
    have hlt : n < sz := bA_lt (s := t) (fun e => by rw [e] at c; exact absurd c (by decide))
    refine ok_i (fun c1 => ok_i (fun c2 => ?_) (fun c2 => ?_)) (fun c1 => ?_)
    · have h2 := AD_next h'
      rw [e3] at h2
      exact ok_i (fun _ => ok_s (AE_lo (n2 := n) (AE_5 h2 (by omega) (by omega)) h0)) (fun _ => ok_s (AE_lo (n2 := n) (AE_5 h2 (by omega) (by omega)) h0))
    · exact ok_w (adv198 (n0 := n) hs m n z _ (AD_up h' (by decide) (by decide) (by decide)) hn hz (Or.inr ⟨rfl, c2⟩)) (fun w hw => AE_lo hw h0)
    · exact ok_w (adv77 (n0 := n) hs m n z _ _ h' hn hz (Or.inr ⟨rfl, c1⟩)) (fun w hw => AE_lo hw h0)
  induction m with
  | zero =>
    intro n z u h hn hz h0
    unfold Radvance_0
    have hb : bA u sz n = -1 := if_pos (by omega)
    refine ok_be (byteAt_eq h.1 h.2.1 hs (by omega)) ?_
    rw [hb, if_neg (by decide)]
    refine ok_be (byteAt_eq h.1 h.2.1 hs (by omega)) ?_
    rw [hb, if_neg (by decide)]
    exact last n z 0 u h hn hz h0
  | succ m ih =>
    intro n z u h hn hz h0
    obtain ⟨z, rfl⟩ : ∃ z', z = z' + 1 := ⟨z - 1, by omega⟩
    unfold Radvance_0
    have go : ok (Radvance_26 (Radvance_R (z + 1)).1 (Radvance_R (z + 1)).2.1 (Radvance_R (z + 1)).2.2 u) (fun w => AE t w sz n0) := ih (n + 1) z _ (AD_next h) (by omega) (by omega) (by omega)
    refine ok_be (byteAt_eq h.1 h.2.1 hs (by omega)) (ok_i (fun _ => go) (fun _ => ?_))
    refine ok_be (byteAt_eq h.1 h.2.1 hs (by omega)) (ok_i (fun _ => go) (fun _ => ?_))
    exact last n (z + 1) (m + 1) u h hn hz h0
theorem advance_ok {t : SG} (p : ∃ M, PB M t) : ok (Radvance t) (fun u => SR t u ∧ u 64 8 = t 64 8 ∧ u 65 = t 65 ∧ (¬ t 64 5 = 0 → ∀ M, PB (M + 1) t → PB M u)) := by
  obtain ⟨M0, sz, nx, e2, hs, e3, hn, -, -⟩ := p
  refine ok_w (adv0 (t := t) (n0 := nx) hs (sz - nx) nx xF t ⟨e2, e3, rfl, fun _ _ => rfl⟩ (by omega) (by have := xF_ge; omega) (by omega)) (fun u hu => ?_)
  obtain ⟨n2, h1, h2, ad, hc⟩ := hu
  have e65 := ad.2.2.2 65 (by decide)
  have key : ∀ M d, PB (M + d) t → (d = 0 ∨ d = 1 ∧ ¬ t 64 5 = 0) → PB M u := by
    intro M d hp hd
    obtain ⟨sz', nx', f2, fs, f3, fn, fw, fm⟩ := hp
    have q1 : sz' = sz := nI_inj (by omega) (by omega) (f2.symm.trans e2)
    have q2 : nx' = nx := nI_inj (by omega) (by omega) (f3.symm.trans e3)
    subst q1 q2
    refine ⟨sz', n2, ad.1, hs, ad.2.1, h2, by rw [ad.2.2.1, e65]; exact fw, fun w => ?_⟩
    rw [ad.2.2.1] at w
    have f := fm w
    rcases hd with hd | ⟨hd, h5⟩
    · subst hd
      rcases hc with hc | hc
      · rw [if_pos hc]; split at f <;> omega
      · split <;> split at f <;> omega
    · subst hd
      rw [if_neg h5] at f
      rcases hc with hc | hc
      · rw [if_pos hc]; omega
      · split <;> omega
  exact ⟨⟨⟨fun M hp => key M 0 hp (Or.inl rfl), fun j _ _ => by rw [e65], fun c c1 _ _ => ad.2.2.2 c c1, fun w => by rw [ad.2.2.1]; exact w⟩, ad.2.2.2 67 (by decide)⟩, ad.2.2.1, e65, fun h5 M hp => key M 1 hp (Or.inr ⟨rfl, h5⟩)⟩
theorem ends_ok {t : SG} : ok (Rends t) (fun u => SR t u ∧ ¬ u 64 8 = 0) := by
  unfold Rends
  refine ok_i (fun c => ?_) (fun c => ok_s ⟨SR_rfl, c⟩)
  refine ok_be (wr_nI (e := 7) rfl (by omega) (by decide)) (ok_be (wr_nI (e := 8) rfl (by omega) (by decide)) (ok_s ?_))
  have e64 : ∀ x y : Int32, up (up (up t 64 8 1) 65 7 x) 65 8 y 64 = up t 64 8 1 64 := fun x y => by rw [up_n (by omega), up_n (by omega)]
  have e8 : ∀ x y : Int32, ¬ up (up (up t 64 8 1) 65 7 x) 65 8 y 64 8 = 0 := fun x y => by rw [e64, up_a]; decide
  refine ⟨⟨⟨fun M ⟨sz, nx, h⟩ => ⟨sz, nx, ?_, h.2.1, ?_, h.2.2.2.1, fun _ => ?_, fun w => absurd w (e8 _ _)⟩, fun j a b => ?_, fun c a b _ => ?_, fun _ => e8 _ _⟩, ?_⟩, e8 _ _⟩
  · rw [e64, up_bn (by decide)]; exact h.1
  · rw [e64, up_bn (by decide)]; exact h.2.2.1
  · rw [up_bn (by decide), up_a]; decide
  · rw [up_bn b, up_bn a, up_n (by omega)]
  · rw [up_n b, up_n b, up_n a]
  · rw [up_n (by omega), up_n (by omega), up_n (by omega)]
theorem also_ok {t : SG} {x y : Int32} : ok (Ralso t x y) (fun u => SR t u ∧ u 64 = t 64) := by
  unfold Ralso
  refine ok_i (fun c => ?_) (fun c => ok_s ⟨SR_rfl, rfl⟩)
  have go : ok (Ralso_51 t x y) (fun u => SR t u ∧ u 64 = t 64) := by
    unfold Ralso_51
    refine ok_be (wr_nI (e := 7) rfl (by omega) (by decide)) (ok_be (wr_nI (e := 8) rfl (by omega) (by decide)) (ok_s ?_))
    have e64 : up (up t 65 7 x) 65 8 y 64 = t 64 := by rw [up_n (by omega), up_n (by omega)]
    refine ⟨⟨⟨fun M ⟨sz, nx, h⟩ => ⟨sz, nx, ?_⟩, fun j a b => by rw [up_bn b, up_bn a], fun c a b _ => by rw [up_n b, up_n b], fun w => absurd c w⟩, by rw [up_n (by omega), up_n (by omega)]⟩, e64⟩
    rw [e64]
    exact ⟨h.1, h.2.1, h.2.2.1, h.2.2.2.1, fun w => absurd c w, h.2.2.2.2.2⟩
  have same : ok (some t) (fun u => SR t u ∧ u 64 = t 64) := ok_s ⟨SR_rfl, rfl⟩
  refine ok_be (rd_nI (e := 7) rfl (by omega) (by decide)) (ok_i (fun _ => go) (fun _ => ?_))
  refine ok_be (rd_nI (e := 8) rfl (by omega) (by decide)) (ok_i (fun _ => same) (fun _ => ?_))
  refine ok_be (rd_nI (e := 8) rfl (by omega) (by decide)) (ok_i (fun _ => ?_) (fun _ => go))
  exact ok_be (rd_nI (e := 7) rfl (by omega) (by decide)) (ok_i (fun _ => go) (fun _ => same))
theorem PV_SR {t u : SG} (h : SR t u) (p : ∃ M, PB M t) : ∃ M, PB M u := p.elim fun M q => ⟨M, h.1.1 M q⟩
theorem PV_LR {t u : SG} (h : LR t u) (p : ∃ M, PB M t) : ∃ M, PB M u := p.elim fun M q => ⟨M, h.1 M q⟩
theorem numbered_ok {t : SG} {x y : Int32} {a b : Nat} (p : ∃ M, PB M t) (ex : x = nI a) (ey : y = nI b) (hab : a ≤ b) (hb : b < 2 ^ 31) : ok (Rnumbered t x y) (fun p => SR t p.2 ∧ ∃ c, p.1 = nI c ∧ a ≤ c ∧ c ≤ b) := by
  subst ex ey
  unfold Rnumbered
  have e15 : ok (Rnumbered_15 t (nI a) (nI b)) (fun p => SR t p.2 ∧ ∃ c, p.1 = nI c ∧ a ≤ c ∧ c ≤ b) := by
    unfold Rnumbered_15
    exact ok_b ends_ok (fun u hu => ok_s ⟨hu.1, a, rfl, Nat.le_refl _, hab⟩)
  have e44 : ∀ (u : SG) (v : Int32), SR t u → ok (Rnumbered_44 u (nI a) (nI b) v) (fun p => SR t p.2 ∧ ∃ c, p.1 = nI c ∧ a ≤ c ∧ c ≤ b) := by
    intro u v h
    unfold Rnumbered_44
    refine ok_b (advance_ok (PV_SR h p)) (fun w hw => ok_i (fun _ => ok_s ⟨SR_tr h hw.1, a, rfl, Nat.le_refl _, hab⟩) (fun c => ?_))
    obtain ⟨k, e, hk⟩ := inI_lo hb hab c
    exact ok_s ⟨SR_tr h hw.1, a + k, e, by omega, hk⟩
  exact ok_i (fun _ => ok_i (fun _ => ok_i (fun _ => ok_b also_ok (fun u hu => e44 u _ hu.1)) (fun _ => e44 t _ SR_rfl)) (fun _ => e15)) (fun _ => e15)
theorem takes_ok {t : SG} {x y : Int32} {a b : Nat} (p : ∃ M, PB M t) (ex : x = nI a) (ey : y = nI b) (hab : a ≤ b) (hb : b < 2 ^ 31) : ok (Rtakes t x y) (fun p => SR t p.2 ∧ (∀ M, PB (M + 1) t → PB M p.2) ∧ (p.2 64 8 = 0 → ∃ c, p.1 = nI c ∧ a ≤ c ∧ c ≤ b)) := by
  subst ex ey
  unfold Rtakes
  have e27 : ok (Rtakes_27 t (nI a) (nI b)) (fun p => SR t p.2 ∧ (∀ M, PB (M + 1) t → PB M p.2) ∧ (p.2 64 8 = 0 → ∃ c, p.1 = nI c ∧ a ≤ c ∧ c ≤ b)) := by
    unfold Rtakes_27
    refine ok_b ends_ok (fun u hu => ok_s ⟨hu.1, fun M hp => ?_, fun w => absurd w hu.2⟩)
    obtain ⟨sz, nx, h⟩ := hu.1.1.1 _ hp
    exact ⟨sz, nx, h.1, h.2.1, h.2.2.1, h.2.2.2.1, h.2.2.2.2.1, fun w => absurd w hu.2⟩
  refine ok_i (fun _ => ok_i (fun c3 => ok_i (fun _ => e27) (fun c => ?_)) (fun _ => e27)) (fun _ => e27)
  refine ok_b (advance_ok p) (fun u hu => ok_s ⟨hu.1, hu.2.2.2 (by rw [c3]; decide), fun _ => ?_⟩)
  obtain ⟨k, e, hk⟩ := inI_lo hb hab c
  exact ⟨a + k, e, by omega, hk⟩
theorem endsLine_ok {t : SG} (p : ∃ M, PB M t) : ok (RendsLine t) (fun u => SR t u) := by
  unfold RendsLine
  have e22 : ok (RendsLine_22 t) (fun u => SR t u) := by
    unfold RendsLine_22
    exact ok_b ends_ok (fun u hu => ok_s hu.1)
  exact ok_i (fun _ => ok_i (fun _ => ok_b (advance_ok p) (fun u hu => ok_s hu.1)) (fun _ => e22)) (fun _ => e22)
theorem kindTold_ok {t : SG} (p : ∃ M, PB M t) : ok (RkindTold t) (fun p => SR t p.2 ∧ (p.2 64 8 = 0 → NB p.1 2)) := by
  unfold RkindTold
  refine ok_b (takes_ok (a := 11) (b := 13) p rfl rfl (by omega) (by omega)) (fun q hq => ok_s ⟨hq.1, fun w => ?_⟩)
  obtain ⟨c, e, h1, h2⟩ := hq.2.2 w
  refine ⟨c - 11, ?_, by omega⟩
  show q.1 - nI 11 = _
  rw [e]; exact nI_subn h1
theorem seasonTold_ok {t : SG} (p : ∃ M, PB M t) : ok (RseasonTold t) (fun p => SR t p.2 ∧ (p.2 64 8 = 0 → NB p.1 3)) := by
  unfold RseasonTold
  refine ok_b (takes_ok (a := 14) (b := 17) p rfl rfl (by omega) (by omega)) (fun q hq => ok_s ⟨hq.1, fun w => ?_⟩)
  obtain ⟨c, e, h1, h2⟩ := hq.2.2 w
  refine ⟨c - 14, ?_, by omega⟩
  show q.1 - nI 14 = _
  rw [e]; exact nI_subn h1
theorem SR_9 {t : SG} {x : Int32} : SR t (up t 64 9 x) := by
  refine ⟨⟨fun M ⟨sz, nx, h⟩ => ⟨sz, nx, ?_⟩, fun j _ _ => by rw [up_n (by omega)], fun c a _ _ => up_n a, fun w => by rw [up_bn (by decide)]; exact w⟩, up_n (by omega)⟩
  rw [up_bn (show (2 : Nat) ≠ 9 by decide), up_bn (show (3 : Nat) ≠ 9 by decide), up_bn (show (8 : Nat) ≠ 9 by decide), up_bn (show (5 : Nat) ≠ 9 by decide), up_n (show (65 : Nat) ≠ 64 by decide)]
  exact h
theorem num_NB {p : Int32} {a b : Nat} (h : ∃ c, p = nI c ∧ a ≤ c ∧ c ≤ b) : NB p b := by
  obtain ⟨c, e, _, h2⟩ := h
  exact ⟨c, e, h2⟩
theorem ministerTold_ok {t : SG} (p : ∃ M, PB M t) : ok (RministerTold t) (fun p => SR t p.2 ∧ NB p.1 5) := by
  unfold RministerTold
  refine ok_b (numbered_ok (a := 0) (b := 5) p rfl rfl (by omega) (by omega)) (fun q hq => ?_)
  exact ok_i (fun _ => ok_s ⟨SR_tr hq.1 SR_9, num_NB hq.2⟩) (fun _ => ok_s ⟨SR_tr hq.1 SR_9, num_NB hq.2⟩)
end XRK
