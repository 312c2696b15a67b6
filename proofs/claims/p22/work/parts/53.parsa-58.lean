section
section XRK
variable {sc : Nat × (Nat → Int32)} {d : Nat} {K : List KD} {r q t a B m : Nat} {w : EW}
/-! the reference: its reader of told things -/
def PB (M : Nat) (t : SG) : Prop := ∃ sz nx, t 64 2 = nI sz ∧ sz ≤ 600 ∧ t 64 3 = nI nx ∧ nx ≤ sz ∧ (¬ t 64 8 = 0 → ¬ t 65 7 = 0) ∧ (t 64 8 = 0 → sz - nx + (if t 64 5 = 0 then 0 else 1) ≤ M)
def FT (t u : SG) : Prop := (∀ j, j ≠ 7 → j ≠ 8 → u 65 j = t 65 j) ∧ (∀ c, c ≠ 64 → c ≠ 65 → c ≠ 67 → u c = t c) ∧ (¬ t 64 8 = 0 → ¬ u 64 8 = 0)
def LR (t u : SG) : Prop := (∀ M, PB M t → PB M u) ∧ FT t u
def SR (t u : SG) : Prop := LR t u ∧ u 67 = t 67
def LN (t u : SG) : Prop := (∀ M, PB (M + 1) t → PB M u) ∧ FT t u
theorem FT_rfl {t : SG} : FT t t := ⟨fun _ _ _ => rfl, fun _ _ _ _ => rfl, fun h => h⟩
theorem FT_tr {s t u : SG} (h : FT s t) (g : FT t u) : FT s u := ⟨fun j a b => (g.1 j a b).trans (h.1 j a b), fun c a b e => (g.2.1 c a b e).trans (h.2.1 c a b e), fun q => g.2.2 (h.2.2 q)⟩
theorem LR_rfl {t : SG} : LR t t := ⟨fun _ h => h, FT_rfl⟩
theorem LR_tr {s t u : SG} (h : LR s t) (g : LR t u) : LR s u := ⟨fun M p => g.1 M (h.1 M p), FT_tr h.2 g.2⟩
theorem SR_rfl {t : SG} : SR t t := ⟨LR_rfl, rfl⟩
theorem SR_tr {s t u : SG} (h : SR s t) (g : SR t u) : SR s u := ⟨LR_tr h.1 g.1, g.2.trans h.2⟩
theorem LN_tr {s t u : SG} (h : LN s t) (g : LR t u) : LN s u := ⟨fun M p => g.1 M (h.1 M p), FT_tr h.2 g.2⟩
theorem LR_67 {t : SG} {j : Nat} {x : Int32} : LR t (up t 67 j x) := by
  refine ⟨fun M ⟨sz, nx, h⟩ => ⟨sz, nx, ?_⟩, fun i _ _ => by rw [up_n (by omega)], fun c _ _ h => up_n h, fun h => by rw [up_n (by omega)]; exact h⟩
  rw [up_n (show (64 : Nat) ≠ 67 by omega), up_n (show (65 : Nat) ≠ 67 by omega)]
  exact h
def bA (s : SG) (sz p : Nat) : Int32 := if sz ≤ p then -1 else s 65 (10 + p)
theorem byteAt_eq {s : SG} {x : Int32} {sz p : Nat} (e : s 64 2 = nI sz) (ex : x = nI p) (hs : sz ≤ 600) (hp : p ≤ 600) : RbyteAt s x = some (bA s sz p) := by
  unfold RbyteAt bA
  rw [e, ex]
  by_cases c : sz ≤ p
  · rw [if_pos (nI_le2 c (by omega)), if_pos c]
  · rw [if_neg (nI_ge (by omega) (by omega)), if_neg c, rd_nI (s := s) (k := 65) (n := 5768) (x := 10 + nI p) (e := 10 + p) (nI_add 10 p) (by omega) (by decide)]
    rfl
theorem bA_lt {s : SG} {sz p : Nat} (h : ¬ bA s sz p = -1) : p < sz := by
  by_cases c : sz ≤ p
  · exact absurd (if_pos c) h
  · omega
def AD (t u : SG) (sz n : Nat) : Prop := u 64 2 = nI sz ∧ u 64 3 = nI n ∧ u 64 8 = t 64 8 ∧ ∀ c, c ≠ 64 → u c = t c
theorem AD_up {t u : SG} {sz n j : Nat} {x : Int32} (h : AD t u sz n) (h2 : j ≠ 2) (h3 : j ≠ 3) (h8 : j ≠ 8) : AD t (up u 64 j x) sz n :=
  ⟨by rw [up_bn (Ne.symm h2)]; exact h.1, by rw [up_bn (Ne.symm h3)]; exact h.2.1, by rw [up_bn (Ne.symm h8)]; exact h.2.2.1, fun c hc => by rw [up_n hc]; exact h.2.2.2 c hc⟩
theorem AD_next {t u : SG} {sz n : Nat} (h : AD t u sz n) : AD t (up u 64 3 (u 64 3 + 1)) sz (n + 1) :=
  ⟨by rw [up_bn (by decide)]; exact h.1, by rw [up_a, h.2.1, nI_succ], by rw [up_bn (by decide)]; exact h.2.2.1, fun c hc => by rw [up_n hc]; exact h.2.2.2 c hc⟩
theorem AD_bA {t u : SG} {sz n p : Nat} (h : AD t u sz n) : bA u sz p = bA t sz p := by
  unfold bA
  rw [h.2.2.2 65 (by decide)]
def AE (t u : SG) (sz n : Nat) : Prop := ∃ n2, n ≤ n2 ∧ n2 ≤ sz ∧ AD t u sz n2 ∧ (u 64 5 = 0 ∨ n < n2)
theorem AE_5 {t u : SG} {sz n n2 : Nat} {v : Int32} (h : AD t u sz n2) (h1 : n < n2) (h2 : n2 ≤ sz) : AE t (up u 64 5 v) sz n :=
  ⟨n2, by omega, h2, AD_up h (by decide) (by decide) (by decide), Or.inr h1⟩
theorem adv198 {t : SG} {sz n0 : Nat} {y1 : Int32} (hs : sz ≤ 600) : ∀ (m n z : Nat) (u : SG), AD t u sz n → n + m = sz → m ≤ z → (n0 < n ∨ n0 = n ∧ ¬ RisDigit (bA t sz n) = 0) → ok (Radvance_198 (Radvance_R z).1 (Radvance_R z).2.1 (Radvance_R z).2.2 u y1) (fun w => AE t w sz n0) := by
  intro m
  induction m with
  | zero =>
    intro n z u h hn hz hl
    unfold Radvance_198
    have hb : bA u sz n = -1 := if_pos (by omega)
    have hd : RisDigit (-1) = 0 := by decide
    refine ok_be (byteAt_eq h.1 h.2.1 hs (by omega)) ?_
    rw [hb, if_pos hd]
    have hl2 : n0 < n := hl.resolve_right (fun c => c.2 (by rw [← AD_bA h, hb]; exact hd))
    exact ok_i (fun _ => ok_s (AE_5 h hl2 (by omega))) (fun _ => ok_s (AE_5 h hl2 (by omega)))
  | succ m ih =>
    intro n z u h hn hz hl
    obtain ⟨z, rfl⟩ : ∃ z', z = z' + 1 := ⟨z - 1, by omega⟩
    unfold Radvance_198
    refine ok_be (byteAt_eq h.1 h.2.1 hs (by omega)) (ok_i (fun c => ?_) (fun c => ?_))
    · have hl2 : n0 < n := hl.resolve_right (fun k => k.2 (by rw [← AD_bA h]; exact c))
      exact ok_i (fun _ => ok_s (AE_5 h hl2 (by omega))) (fun _ => ok_s (AE_5 h hl2 (by omega)))
    · have go : ∀ u', AD t u' sz n → ok (Radvance_248 (Radvance_R (z + 1)).1 (Radvance_R (z + 1)).2.1 (Radvance_R (z + 1)).2.2 u' y1) (fun w => AE t w sz n0) := fun u' h' =>
        ih (n + 1) z _ (AD_next h') (by omega) (by omega) (Or.inl (by omega))
      refine ok_i (fun _ => go u h) (fun _ => ok_be (byteAt_eq h.1 h.2.1 hs (by omega)) (go _ (AD_up h (by decide) (by decide) (by decide))))
theorem adv77 {t : SG} {sz n0 : Nat} {y1 : Int32} (hs : sz ≤ 600) : ∀ (m n z : Nat) (u : SG) (y2 : Int64), AD t u sz n → n + m = sz → m ≤ z → (n0 < n ∨ n0 = n ∧ ¬ RisLetter (bA t sz n) = 0) → ok (Radvance_77 (Radvance_R z).1 (Radvance_R z).2.1 (Radvance_R z).2.2 u y1 y2) (fun w => AE t w sz n0) := by
  intro m
  have fin : ∀ (z n : Nat) (u : SG) (y2 : Int64) (v : Int32), AD t u sz n → n0 < n → n ≤ sz → ok (Radvance_162 (Radvance_R z).1 (Radvance_R z).2.1 (Radvance_R z).2.2 u y1 y2 v) (fun w => AE t w sz n0) := by
    intro z n u y2 v h h1 h2
    unfold Radvance_162
    have h' := AD_up (j := 7) (x := v) h (by decide) (by decide) (by decide)
    exact ok_i (fun _ => ok_s (AE_5 h' h1 h2)) (fun _ => ok_s (AE_5 h' h1 h2))
  induction m with
  | zero =>
    intro n z u y2 h hn hz hl
    unfold Radvance_77
    have hb : bA u sz n = -1 := if_pos (by omega)
    have hd : RisLetter (-1) = 0 := by decide
    refine ok_be (byteAt_eq h.1 h.2.1 hs (by omega)) ?_
    rw [hb, if_pos hd]
    have hl2 : n0 < n := hl.resolve_right (fun c => c.2 (by rw [← AD_bA h, hb]; exact hd))
    exact ok_i (fun _ => fin z n u y2 _ h hl2 (by omega)) (fun _ => fin z n u y2 _ h hl2 (by omega))
  | succ m ih =>
    intro n z u y2 h hn hz hl
    obtain ⟨z, rfl⟩ : ∃ z', z = z' + 1 := ⟨z - 1, by omega⟩
    unfold Radvance_77
    refine ok_be (byteAt_eq h.1 h.2.1 hs (by omega)) (ok_i (fun c => ?_) (fun c => ?_))
    · have hl2 : n0 < n := hl.resolve_right (fun k => k.2 (by rw [← AD_bA h]; exact c))
      exact ok_i (fun _ => fin _ n u y2 _ h hl2 (by omega)) (fun _ => fin _ n u y2 _ h hl2 (by omega))
    · have go : ∀ y2', ok (Radvance_125 (Radvance_R (z + 1)).1 (Radvance_R (z + 1)).2.1 (Radvance_R (z + 1)).2.2 u y1 y2') (fun w => AE t w sz n0) := fun y2' =>
        ih (n + 1) z _ y2' (AD_next h) (by omega) (by omega) (Or.inl (by omega))
      exact ok_i (fun _ => go _) (fun _ => ok_be (byteAt_eq h.1 h.2.1 hs (by omega)) (go _))
theorem AE_lo {t w : SG} {sz n n2 : Nat} (h : AE t w sz n2) (hn : n ≤ n2) : AE t w sz n := by
  obtain ⟨a, b, c, d, e⟩ := h
  exact ⟨a, by omega, c, d, e.elim Or.inl (fun g => Or.inr (by omega))⟩
theorem adv0 {t : SG} {sz n0 : Nat} (hs : sz ≤ 600) : ∀ (m n z : Nat) (u : SG), AD t u sz n → n + m = sz → m ≤ z → n0 ≤ n → ok (Radvance_0 (Radvance_R z).1 (Radvance_R z).2.1 (Radvance_R z).2.2 u) (fun w => AE t w sz n0) := by
  intro m
  have last : ∀ (n z m : Nat) (u : SG), AD t u sz n → n + m = sz → m ≤ z → n0 ≤ n → ok ((RbyteAt (up u 64 4 (u 64 3)) (u 64 3)).bind fun q3 => if 0 ≤ q3 then (if (RisLetter q3) = 0 then (if (RisDigit q3) = 0 then (if q3 = 59 then Radvance_308 (Radvance_R z).1 (Radvance_R z).2.1 (Radvance_R z).2.2 (up (up u 64 4 (u 64 3)) 64 3 ((u 64 3) + 1)) q3 (2) else Radvance_308 (Radvance_R z).1 (Radvance_R z).2.1 (Radvance_R z).2.2 (up (up u 64 4 (u 64 3)) 64 3 ((u 64 3) + 1)) q3 (4)) else Radvance_198 (Radvance_R z).1 (Radvance_R z).2.1 (Radvance_R z).2.2 (up (up u 64 4 (u 64 3)) 64 6 0) q3) else Radvance_77 (Radvance_R z).1 (Radvance_R z).2.1 (Radvance_R z).2.2 (up u 64 4 (u 64 3)) q3 (0)) else some (up (up u 64 4 (u 64 3)) 64 5 0)) (fun w => AE t w sz n0) := by
    intro n z m u h hn hz h0
    have h' := AD_up (j := 4) (x := u 64 3) h (by decide) (by decide) (by decide)
    have e3 : up u 64 4 (u 64 3) 64 3 = u 64 3 := up_bn (by decide)
    refine ok_be (byteAt_eq h'.1 h.2.1 hs (by omega)) ?_
    rw [AD_bA h']
    refine ok_i (fun c => ?_) (fun _ => ok_s ⟨n, h0, by omega, AD_up h' (by decide) (by decide) (by decide), Or.inl up_a⟩)
    have hlt : n < sz := bA_lt (s := t) (fun e => by rw [e] at c; exact absurd c (by decide))
    refine ok_i (fun c1 => ok_i (fun c2 => ?_) (fun c2 => ?_)) (fun c1 => ?_)
    · have h2 := AD_next h'
      rw [e3] at h2
      exact ok_i (fun _ => ok_s (AE_lo (n2 := n) (AE_5 h2 (by omega) (by omega)) h0)) (fun _ => ok_s (AE_lo (n2 := n) (AE_5 h2 (by omega) (by omega)) h0))
    · exact ok_w (adv198 (n0 := n) hs m n z _ (AD_up h' (by decide) (by decide) (by decide)) hn hz (Or.inr ⟨rfl, c2⟩)) (fun w hw => AE_lo hw h0)
    · exact ok_w (adv77 (n0 := n) hs m n z _ _ h' hn hz (Or.inr ⟨rfl, c1⟩)) (fun w hw => AE_lo hw h0)
  induction m with
  | zero =>
    intro n z u h hn hz h0
    unfold Radvance_0
    have hb : bA u sz n = -1 := if_pos (by omega)
    refine ok_be (byteAt_eq h.1 h.2.1 hs (by omega)) ?_
    rw [hb, if_neg (by decide)]
    refine ok_be (byteAt_eq h.1 h.2.1 hs (by omega)) ?_
    rw [hb, if_neg (by decide)]
    exact last n z 0 u h hn hz h0
  | succ m ih =>
    intro n z u h hn hz h0
    obtain ⟨z, rfl⟩ : ∃ z', z = z' + 1 := ⟨z - 1, by omega⟩
    unfold Radvance_0
    have go : ok (Radvance_26 (Radvance_R (z + 1)).1 (Radvance_R (z + 1)).2.1 (Radvance_R (z + 1)).2.2 u) (fun w => AE t w sz n0) := ih (n + 1) z _ (AD_next h) (by omega) (by omega) (by omega)
    refine ok_be (byteAt_eq h.1 h.2.1 hs (by omega)) (ok_i (fun _ => go) (fun _ => ?_))
    refine ok_be (byteAt_eq h.1 h.2.1 hs (by omega)) (ok_i (fun _ => go) (fun _ => ?_))
    exact last n (z + 1) (m + 1) u h hn hz h0
theorem advance_ok {t : SG} (p : ∃ M, PB M t) : ok (Radvance t) (fun u => SR t u ∧ u 64 8 = t 64 8 ∧ u 65 = t 65 ∧ (¬ t 64 5 = 0 → ∀ M, PB (M + 1) t → PB M u)) := by
  obtain ⟨M0, sz, nx, e2, hs, e3, hn, -, -⟩ := p
  refine ok_w (adv0 (t := t) (n0 := nx) hs (sz - nx) nx xF t ⟨e2, e3, rfl, fun _ _ => rfl⟩ (by omega) (by have := xF_ge; omega) (by omega)) (fun u hu => ?_)
  obtain ⟨n2, h1, h2, ad, hc⟩ := hu
  have e65 := ad.2.2.2 65 (by decide)
  have key : ∀ M d, PB (M + d) t → (d = 0 ∨ d = 1 ∧ ¬ t 64 5 = 0) → PB M u := by
    intro M d hp hd
    obtain ⟨sz', nx', f2, fs, f3, fn, fw, fm⟩ := hp
    have q1 : sz' = sz := nI_inj (by omega) (by omega) (f2.symm.trans e2)
    have q2 : nx' = nx := nI_inj (by omega) (by omega) (f3.symm.trans e3)
    subst q1 q2
    refine ⟨sz', n2, ad.1, hs, ad.2.1, h2, by rw [ad.2.2.1, e65]; exact fw, fun w => ?_⟩
    rw [ad.2.2.1] at w
    have f := fm w
    rcases hd with hd | ⟨hd, h5⟩
    · subst hd
      rcases hc with hc | hc
      · rw [if_pos hc]; split at f <;> omega
      · split <;> split at f <;> omega
    · subst hd
      rw [if_neg h5] at f
      rcases hc with hc | hc
      · rw [if_pos hc]; omega
      · split <;> omega
  exact ⟨⟨⟨fun M hp => key M 0 hp (Or.inl rfl), fun j _ _ => by rw [e65], fun c c1 _ _ => ad.2.2.2 c c1, fun w => by rw [ad.2.2.1]; exact w⟩, ad.2.2.2 67 (by decide)⟩, ad.2.2.1, e65, fun h5 M hp => key M 1 hp (Or.inr ⟨rfl, h5⟩)⟩
theorem ends_ok {t : SG} : ok (Rends t) (fun u => SR t u ∧ ¬ u 64 8 = 0) := by
  unfold Rends
  refine ok_i (fun c => ?_) (fun c => ok_s ⟨SR_rfl, c⟩)
  refine ok_be (wr_nI (e := 7) rfl (by omega) (by decide)) (ok_be (wr_nI (e := 8) rfl (by omega) (by decide)) (ok_s ?_))
  have e64 : ∀ x y : Int32, up (up (up t 64 8 1) 65 7 x) 65 8 y 64 = up t 64 8 1 64 := fun x y => by rw [up_n (by omega), up_n (by omega)]
  have e8 : ∀ x y : Int32, ¬ up (up (up t 64 8 1) 65 7 x) 65 8 y 64 8 = 0 := fun x y => by rw [e64, up_a]; decide
  refine ⟨⟨⟨fun M ⟨sz, nx, h⟩ => ⟨sz, nx, ?_, h.2.1, ?_, h.2.2.2.1, fun _ => ?_, fun w => absurd w (e8 _ _)⟩, fun j a b => ?_, fun c a b _ => ?_, fun _ => e8 _ _⟩, ?_⟩, e8 _ _⟩
  · rw [e64, up_bn (by decide)]; exact h.1
  · rw [e64, up_bn (by decide)]; exact h.2.2.1
  · rw [up_bn (by decide), up_a]; decide
  · rw [up_bn b, up_bn a, up_n (by omega)]
  · rw [up_n b, up_n b, up_n a]
  · rw [up_n (by omega), up_n (by omega), up_n (by omega)]
theorem also_ok {t : SG} {x y : Int32} : ok (Ralso t x y) (fun u => SR t u ∧ u 64 = t 64) := by
  unfold Ralso
  refine ok_i (fun c => ?_) (fun c => ok_s ⟨SR_rfl, rfl⟩)
  have go : ok (Ralso_51 t x y) (fun u => SR t u ∧ u 64 = t 64) := by
    unfold Ralso_51
    refine ok_be (wr_nI (e := 7) rfl (by omega) (by decide)) (ok_be (wr_nI (e := 8) rfl (by omega) (by decide)) (ok_s ?_))
    have e64 : up (up t 65 7 x) 65 8 y 64 = t 64 := by rw [up_n (by omega), up_n (by omega)]
    refine ⟨⟨⟨fun M ⟨sz, nx, h⟩ => ⟨sz, nx, ?_⟩, fun j a b => by rw [up_bn b, up_bn a], fun c a b _ => by rw [up_n b, up_n b], fun w => absurd c w⟩, by rw [up_n (by omega), up_n (by omega)]⟩, e64⟩
    rw [e64]
    exact ⟨h.1, h.2.1, h.2.2.1, h.2.2.2.1, fun w => absurd c w, h.2.2.2.2.2⟩
  have same : ok (some t) (fun u => SR t u ∧ u 64 = t 64) := ok_s ⟨SR_rfl, rfl⟩
  refine ok_be (rd_nI (e := 7) rfl (by omega) (by decide)) (ok_i (fun _ => go) (fun _ => ?_))
  refine ok_be (rd_nI (e := 8) rfl (by omega) (by decide)) (ok_i (fun _ => same) (fun _ => ?_))
  refine ok_be (rd_nI (e := 8) rfl (by omega) (by decide)) (ok_i (fun _ => ?_) (fun _ => go))
  exact ok_be (rd_nI (e := 7) rfl (by omega) (by decide)) (ok_i (fun _ => go) (fun _ => same))
theorem PV_SR {t u : SG} (h : SR t u) (p : ∃ M, PB M t) : ∃ M, PB M u := p.elim fun M q => ⟨M, h.1.1 M q⟩
theorem PV_LR {t u : SG} (h : LR t u) (p : ∃ M, PB M t) : ∃ M, PB M u := p.elim fun M q => ⟨M, h.1 M q⟩
theorem numbered_ok {t : SG} {x y : Int32} {a b : Nat} (p : ∃ M, PB M t) (ex : x = nI a) (ey : y = nI b) (hab : a ≤ b) (hb : b < 2 ^ 31) : ok (Rnumbered t x y) (fun p => SR t p.2 ∧ ∃ c, p.1 = nI c ∧ a ≤ c ∧ c ≤ b) := by
  subst ex ey
  unfold Rnumbered
  have e15 : ok (Rnumbered_15 t (nI a) (nI b)) (fun p => SR t p.2 ∧ ∃ c, p.1 = nI c ∧ a ≤ c ∧ c ≤ b) := by
    unfold Rnumbered_15
    exact ok_b ends_ok (fun u hu => ok_s ⟨hu.1, a, rfl, Nat.le_refl _, hab⟩)
  have e44 : ∀ (u : SG) (v : Int32), SR t u → ok (Rnumbered_44 u (nI a) (nI b) v) (fun p => SR t p.2 ∧ ∃ c, p.1 = nI c ∧ a ≤ c ∧ c ≤ b) := by
    intro u v h
    unfold Rnumbered_44
    refine ok_b (advance_ok (PV_SR h p)) (fun w hw => ok_i (fun _ => ok_s ⟨SR_tr h hw.1, a, rfl, Nat.le_refl _, hab⟩) (fun c => ?_))
    obtain ⟨k, e, hk⟩ := inI_lo hb hab c
    exact ok_s ⟨SR_tr h hw.1, a + k, e, by omega, hk⟩
  exact ok_i (fun _ => ok_i (fun _ => ok_i (fun _ => ok_b also_ok (fun u hu => e44 u _ hu.1)) (fun _ => e44 t _ SR_rfl)) (fun _ => e15)) (fun _ => e15)
theorem takes_ok {t : SG} {x y : Int32} {a b : Nat} (p : ∃ M, PB M t) (ex : x = nI a) (ey : y = nI b) (hab : a ≤ b) (hb : b < 2 ^ 31) : ok (Rtakes t x y) (fun p => SR t p.2 ∧ (∀ M, PB (M + 1) t → PB M p.2) ∧ (p.2 64 8 = 0 → ∃ c, p.1 = nI c ∧ a ≤ c ∧ c ≤ b)) := by
  subst ex ey
  unfold Rtakes
  have e27 : ok (Rtakes_27 t (nI a) (nI b)) (fun p => SR t p.2 ∧ (∀ M, PB (M + 1) t → PB M p.2) ∧ (p.2 64 8 = 0 → ∃ c, p.1 = nI c ∧ a ≤ c ∧ c ≤ b)) := by
    unfold Rtakes_27
    refine ok_b ends_ok (fun u hu => ok_s ⟨hu.1, fun M hp => ?_, fun w => absurd w hu.2⟩)
    obtain ⟨sz, nx, h⟩ := hu.1.1.1 _ hp
    exact ⟨sz, nx, h.1, h.2.1, h.2.2.1, h.2.2.2.1, h.2.2.2.2.1, fun w => absurd w hu.2⟩
  refine ok_i (fun _ => ok_i (fun c3 => ok_i (fun _ => e27) (fun c => ?_)) (fun _ => e27)) (fun _ => e27)
  refine ok_b (advance_ok p) (fun u hu => ok_s ⟨hu.1, hu.2.2.2 (by rw [c3]; decide), fun _ => ?_⟩)
  obtain ⟨k, e, hk⟩ := inI_lo hb hab c
  exact ⟨a + k, e, by omega, hk⟩
theorem endsLine_ok {t : SG} (p : ∃ M, PB M t) : ok (RendsLine t) (fun u => SR t u) := by
  unfold RendsLine
  have e22 : ok (RendsLine_22 t) (fun u => SR t u) := by
    unfold RendsLine_22
    exact ok_b ends_ok (fun u hu => ok_s hu.1)
  exact ok_i (fun _ => ok_i (fun _ => ok_b (advance_ok p) (fun u hu => ok_s hu.1)) (fun _ => e22)) (fun _ => e22)
theorem kindTold_ok {t : SG} (p : ∃ M, PB M t) : ok (RkindTold t) (fun p => SR t p.2 ∧ (p.2 64 8 = 0 → NB p.1 2)) := by
  unfold RkindTold
  refine ok_b (takes_ok (a := 11) (b := 13) p rfl rfl (by omega) (by omega)) (fun q hq => ok_s ⟨hq.1, fun w => ?_⟩)
  obtain ⟨c, e, h1, h2⟩ := hq.2.2 w
  refine ⟨c - 11, ?_, by omega⟩
  show q.1 - nI 11 = _
  rw [e]; exact nI_subn h1
theorem seasonTold_ok {t : SG} (p : ∃ M, PB M t) : ok (RseasonTold t) (fun p => SR t p.2 ∧ (p.2 64 8 = 0 → NB p.1 3)) := by
  unfold RseasonTold
  refine ok_b (takes_ok (a := 14) (b := 17) p rfl rfl (by omega) (by omega)) (fun q hq => ok_s ⟨hq.1, fun w => ?_⟩)
  obtain ⟨c, e, h1, h2⟩ := hq.2.2 w
  refine ⟨c - 14, ?_, by omega⟩
  show q.1 - nI 14 = _
  rw [e]; exact nI_subn h1
theorem SR_9 {t : SG} {x : Int32} : SR t (up t 64 9 x) := by
  refine ⟨⟨fun M ⟨sz, nx, h⟩ => ⟨sz, nx, ?_⟩, fun j _ _ => by rw [up_n (by omega)], fun c a _ _ => up_n a, fun w => by rw [up_bn (by decide)]; exact w⟩, up_n (by omega)⟩
  rw [up_bn (show (2 : Nat) ≠ 9 by decide), up_bn (show (3 : Nat) ≠ 9 by decide), up_bn (show (8 : Nat) ≠ 9 by decide), up_bn (show (5 : Nat) ≠ 9 by decide), up_n (show (65 : Nat) ≠ 64 by decide)]
  exact h
theorem num_NB {p : Int32} {a b : Nat} (h : ∃ c, p = nI c ∧ a ≤ c ∧ c ≤ b) : NB p b := by
  obtain ⟨c, e, _, h2⟩ := h
  exact ⟨c, e, h2⟩
theorem ministerTold_ok {t : SG} (p : ∃ M, PB M t) : ok (RministerTold t) (fun p => SR t p.2 ∧ NB p.1 5) := by
  unfold RministerTold
  refine ok_b (numbered_ok (a := 0) (b := 5) p rfl rfl (by omega) (by omega)) (fun q hq => ?_)
  exact ok_i (fun _ => ok_s ⟨SR_tr hq.1 SR_9, num_NB hq.2⟩) (fun _ => ok_s ⟨SR_tr hq.1 SR_9, num_NB hq.2⟩)
end XRK
end
section
section XRL
variable {sc : Nat × (Nat → Int32)} {d : Nat} {K : List KD} {r q t a B m : Nat} {w : EW}
/-! the reference: its lines -/
theorem w_of {t u : SG} (h : FT t u) (w : u 64 8 = 0) : t 64 8 = 0 := Decidable.byContradiction (fun c => h.2.2 c w)
theorem ix2 {a b g : Nat} : nI a + nI b * nI g = nI (a + b * g) := by rw [nI_mulx, nI_add]
theorem ix3 {a b g c : Nat} : nI a + nI b * nI g + nI c = nI (a + b * g + c) := by rw [nI_mulx, nI_add, nI_add]
theorem LR_SR {t u v : SG} (h : LR t u) (g : SR u v) : LR t v := LR_tr h g.1
def R0 (u : SG) : Prop := RR (u 67) 0
theorem R0_SR {t u : SG} (h : SR t u) (r : R0 t) : R0 u := by
  unfold R0
  rw [h.2]; exact r
theorem R0_up {u : SG} {j : Nat} {v : Int32} (r : R0 u) (h0 : j = 0 → NB v 6) (h3 : j = 3 ∨ j = 4 → NB v 99) (hw : ∀ m i, m < 6 → i < 12 → j = 16 + 18 * m + i → NB v 9) : R0 (up u 67 j v) := by
  have key : ∀ (i n : Nat), (j = i → NB v n) → NB (u 67 i) n → NB (up u 67 j v 67 i) n := by
    intro i n h h2
    by_cases e : j = i
    · subst e; rw [up_a]; exact h rfl
    · rw [up_bn (Ne.symm e)]; exact h2
  exact ⟨key 0 6 h0 r.1, key 3 99 (fun e => h3 (Or.inl e)) r.2.1, key 4 99 (fun e => h3 (Or.inr e)) r.2.2.1, fun m i hm hi => key _ 9 (fun e => hw m i hm hi (by omega)) (r.2.2.2 m i hm hi)⟩
theorem R0_free {u : SG} {j : Nat} {v : Int32} (r : R0 u) (h : (j < 16 ∧ j ≠ 0 ∧ j ≠ 3 ∧ j ≠ 4) ∨ ∃ m a, a < 6 ∧ j = 10 + 18 * m + a) : R0 (up u 67 j v) := by
  refine R0_up r (fun e => ?_) (fun e => ?_) (fun m i hm hi e => ?_)
  · rcases h with h | ⟨m, a, h, e2⟩ <;> omega
  · rcases h with h | ⟨m, a, h, e2⟩ <;> omega
  · rcases h with h | ⟨m2, a, h, e2⟩ <;> omega
theorem minLine27 {t : SG} {y1 y2 : Int32} (p : ∃ M, PB M t) (r : R0 t) (hy : y2 = 0 ∨ ∃ g, t 67 0 = nI g ∧ g < 6) : ok (RministerLine_27 t y1 y2) (fun u => LR t u ∧ R0 u) := by
  unfold RministerLine_27
  refine ok_b (numbered_ok (a := 1) (b := 9) p rfl rfl (by omega) (by omega)) (fun q1 h1 => ?_)
  refine ok_b (numbered_ok (a := 0) (b := 27) (PV_SR h1.1 p) rfl rfl (by omega) (by omega)) (fun q2 h2 => ?_)
  have s2 := SR_tr h1.1 h2.1
  refine ok_b (numbered_ok (a := 0) (b := 9) (PV_SR s2 p) rfl rfl (by omega) (by omega)) (fun q3 h3 => ?_)
  have s3 := SR_tr s2 h3.1
  refine ok_b (numbered_ok (a := 0) (b := 9) (PV_SR s3 p) rfl rfl (by omega) (by omega)) (fun q4 h4 => ?_)
  have s4 := SR_tr s3 h4.1
  refine ok_i (fun _ => ok_s ⟨s4.1, R0_SR s4 r⟩) (fun c => ?_)
  obtain ⟨g, eg, hg⟩ := hy.resolve_left c
  have r4 := R0_SR s4 r
  refine ok_be (rd_nI (e := 0) rfl (by omega) (by decide)) ?_
  have e0 : q4.2 67 0 = nI g := by rw [s4.2]; exact eg
  rw [e0]
  refine ok_be (wr_nI (e := 10 + 18 * g + 0) (ix3 (a := 10) (b := 18) (c := 0)) (by omega) (by decide)) ?_
  refine ok_be (wr_nI (e := 10 + 18 * g + 1) (ix3 (a := 10) (b := 18) (c := 1)) (by omega) (by decide)) ?_
  refine ok_be (wr_nI (e := 10 + 18 * g + 2) (ix3 (a := 10) (b := 18) (c := 2)) (by omega) (by decide)) ?_
  refine ok_be (wr_nI (e := 10 + 18 * g + 3) (ix3 (a := 10) (b := 18) (c := 3)) (by omega) (by decide)) ?_
  refine ok_be (rd_nI (e := 0) rfl (by omega) (by decide)) ?_
  rw [up_bn (by omega), up_bn (by omega), up_bn (by omega), up_bn (by omega), e0]
  refine ok_be (wr_nI (e := 0) rfl (by omega) (by decide)) (ok_s ⟨LR_tr s4.1 (LR_tr LR_67 (LR_tr LR_67 (LR_tr LR_67 (LR_tr LR_67 LR_67)))), ?_⟩)
  refine R0_up ?_ (fun _ => ⟨g + 1, (nI_succ g).symm, by omega⟩) (fun e => by omega) (fun m i _ _ e => by omega)
  exact R0_free (R0_free (R0_free (R0_free r4 (Or.inr ⟨g, 0, by omega, rfl⟩)) (Or.inr ⟨g, 1, by omega, rfl⟩)) (Or.inr ⟨g, 2, by omega, rfl⟩)) (Or.inr ⟨g, 3, by omega, rfl⟩)
theorem minLine_ok {t : SG} {x : Int32} (p : ∃ M, PB M t) (r : R0 t) : ok (RministerLine t x) (fun u => LR t u ∧ R0 u) := by
  unfold RministerLine
  refine ok_be (rd_nI (e := 0) rfl (by omega) (by decide)) ?_
  obtain ⟨g, eg, hg⟩ := r.1
  have e0 : t 67 0 = nI g := eg
  rw [e0]
  refine ok_i (fun _ => ?_) (fun c => ?_)
  · unfold RministerLine_16
    rw [if_pos rfl]
    refine ok_b also_ok (fun u hu => ok_w (minLine27 (PV_SR hu.1 p) (R0_SR hu.1 r) (Or.inl rfl)) (fun v hv => ⟨LR_tr hu.1.1 hv.1, hv.2⟩))
  · unfold RministerLine_16
    rw [if_neg (by decide)]
    refine minLine27 p r (Or.inr ⟨g, eg, ?_⟩)
    have : g ≠ 6 := fun e => c (by subst e; decide)
    omega
theorem wantLine12 {y1 y2 : Int32} (h1 : NB y1 5) : ∀ (n j z : Nat) (t : SG), (∃ M, PB M t) → R0 t → (t 64 8 = 0 → NB y2 3) → j + n = 3 → n ≤ z → ok (RwantLine_12 (RwantLine_R z) t y1 y2 (nI j)) (fun u => LR t u ∧ R0 u) := by
  intro n
  induction n with
  | zero =>
    intro j z t p r h2 hj hz
    unfold RwantLine_12
    rw [if_pos (show (3 : Int32) ≤ nI j from k_ge (m := 3) hj)]
    exact ok_s ⟨LR_rfl, r⟩
  | succ n ih =>
    intro j z t p r h2 hj hz
    obtain ⟨z, rfl⟩ : ∃ z', z = z' + 1 := ⟨z - 1, by omega⟩
    unfold RwantLine_12
    rw [if_neg (show ¬ (3 : Int32) ≤ nI j from k_lt (m := 3) hj (by decide))]
    refine ok_b (numbered_ok (a := 0) (b := 9) p rfl rfl (by omega) (by omega)) (fun q hq => ?_)
    have rq := R0_SR hq.1 r
    have go : ∀ v, LR t v → R0 v → ok (RwantLine_R (z + 1) v y1 y2 (nI j + 1)) (fun u => LR t u ∧ R0 u) := by
      intro v hv rv
      show ok (RwantLine_12 (RwantLine_R z) v y1 y2 (nI j + 1)) _
      rw [← nI_succ]
      exact ok_w (ih (j + 1) z v (PV_LR hv p) rv (fun w => h2 (w_of hv.2 w)) (by omega) (by omega)) (fun u hu => ⟨LR_tr hv hu.1, hu.2⟩)
    refine ok_i (fun w => ?_) (fun _ => go _ hq.1.1 rq)
    obtain ⟨b, eb, hb⟩ := h2 (w_of hq.1.1.2 w)
    obtain ⟨a, ea, ha⟩ := h1
    refine ok_be (wr_nI (e := 16 + 18 * a + (3 * b + j)) ?_ (by omega) (by decide)) (go _ (LR_tr hq.1.1 LR_67) (R0_up rq (fun e => by omega) (fun e => by omega) (fun m i hm hi e => num_NB hq.2)))
    rw [ea, eb]
    show nI 10 + nI 18 * nI a + nI 6 + nI 3 * nI b + nI j = _
    rw [nI_mulx, nI_mulx, nI_add, nI_add, nI_add, nI_add]
    congr 1; omega
theorem wantLine_ok {t : SG} (p : ∃ M, PB M t) (r : R0 t) : ok (RwantLine t) (fun u => LR t u ∧ R0 u) := by
  unfold RwantLine
  refine ok_b (ministerTold_ok p) (fun q1 h1 => ok_b (seasonTold_ok (PV_SR h1.1 p)) (fun q2 h2 => ?_))
  have s2 := SR_tr h1.1 h2.1
  exact ok_w (wantLine12 h1.2 3 0 xF q2.2 (PV_SR s2 p) (R0_SR s2 r) h2.2 (by omega) (by have := xF_ge; omega)) (fun u hu => ⟨LR_tr s2.1 hu.1, hu.2⟩)
theorem feudLine37 {t : SG} {y1 : Int32} (p : ∃ M, PB M t) (r : R0 t) (h : NB y1 5) : ok (RfeudLine_37 t y1) (fun u => LR t u ∧ R0 u) := by
  unfold RfeudLine_37
  refine ok_b (ministerTold_ok p) (fun q1 h1 => ?_)
  obtain ⟨a, ea, ha⟩ := h
  obtain ⟨b, eb, hb⟩ := h1.2
  rw [ea, eb]
  refine ok_be (rd_nI (e := 10 + 18 * a + 5) (ix3 (a := 10) (b := 18) (c := 5)) (by omega) (by decide)) ?_
  refine ok_be (wr_nI (e := 10 + 18 * a + 5) (ix3 (a := 10) (b := 18) (c := 5)) (by omega) (by decide)) ?_
  refine ok_be (rd_nI (e := 10 + 18 * b + 5) (ix3 (a := 10) (b := 18) (c := 5)) (by omega) (by decide)) ?_
  refine ok_be (wr_nI (e := 10 + 18 * b + 5) (ix3 (a := 10) (b := 18) (c := 5)) (by omega) (by decide)) ?_
  exact ok_s ⟨LR_tr h1.1.1 (LR_tr LR_67 LR_67), R0_free (R0_free (R0_SR h1.1 r) (Or.inr ⟨a, 5, by omega, rfl⟩)) (Or.inr ⟨b, 5, by omega, rfl⟩)⟩
theorem feudLine_ok {t : SG} (p : ∃ M, PB M t) (r : R0 t) : ok (RfeudLine t) (fun u => LR t u ∧ R0 u) := by
  unfold RfeudLine
  refine ok_b (ministerTold_ok p) (fun q1 h1 => ?_)
  have go : ∀ v, SR t v → ok (RfeudLine_37 v q1.1) (fun u => LR t u ∧ R0 u) := fun v hv => ok_w (feudLine37 (PV_SR hv p) (R0_SR hv r) h1.2) (fun u hu => ⟨LR_tr hv.1 hu.1, hu.2⟩)
  exact ok_i (fun _ => ok_i (fun _ => ok_i (fun _ => ok_b also_ok (fun v hv => go v (SR_tr h1.1 hv.1))) (fun _ => go _ h1.1)) (fun _ => go _ h1.1)) (fun _ => go _ h1.1)
theorem repLine14 {t : SG} {y1 y2 v0 : Int32} (p : ∃ M, PB M t) (r : R0 t) : ok (RrepublicLine_14 t y1 y2 v0) (fun u => LR t u ∧ R0 u) := by
  have fin : ∀ v, LR t v → R0 v → ok (RrepublicLine_223 v y1 y2) (fun u => LR t u ∧ R0 u) := by
    intro v hv rv
    unfold RrepublicLine_223
    exact ok_b (endsLine_ok (PV_LR hv p)) (fun u hu => ok_s ⟨LR_SR hv hu, R0_SR hu rv⟩)
  have num : ∀ (b e : Nat) (y : Int32), y = nI b → b ≤ 99 → (e = 1 ∨ e = 2 ∨ e = 3 ∨ e = 4 ∨ e = 5) → ∀ (a : Nat) (x : Int32), x = nI a → a ≤ b → ok ((Rnumbered t x y).bind fun p9 => (wrI p9.2 67 201 (nI e) p9.1).bind fun s10 => RrepublicLine_223 s10 y1 y2) (fun u => LR t u ∧ R0 u) := by
    intro b e y ey hb he a x ex hab
    refine ok_b (numbered_ok p ex ey hab (by omega)) (fun q hq => ?_)
    refine ok_be (wr_nI (e := e) rfl (by omega) (by decide)) (fin _ (LR_tr hq.1.1 LR_67) ?_)
    exact R0_up (R0_SR hq.1 r) (fun h => by omega) (fun h => NB_mono (num_NB hq.2) hb) (fun m i _ _ h => by omega)
  unfold RrepublicLine_14
  refine ok_i (fun _ => ok_b (minLine_ok p r) (fun v hv => fin v hv.1 hv.2)) (fun _ => ?_)
  refine ok_i (fun _ => ok_b (wantLine_ok p r) (fun v hv => fin v hv.1 hv.2)) (fun _ => ?_)
  refine ok_i (fun _ => ok_b (ministerTold_ok p) (fun q hq => ?_)) (fun _ => ?_)
  · obtain ⟨a, ea, ha⟩ := hq.2
    rw [ea]
    exact ok_be (wr_nI (e := 10 + 18 * a + 4) (ix3 (a := 10) (b := 18) (c := 4)) (by omega) (by decide)) (fin _ (LR_tr hq.1.1 LR_67) (R0_free (R0_SR hq.1 r) (Or.inr ⟨a, 4, by omega, rfl⟩)))
  refine ok_i (fun _ => ok_b (feudLine_ok p r) (fun v hv => fin v hv.1 hv.2)) (fun _ => ?_)
  refine ok_i (fun _ => ok_b (kindTold_ok p) (fun q1 h1 => ok_b (ministerTold_ok (PV_SR h1.1 p)) (fun q2 h2 => ?_))) (fun _ => ?_)
  · have s2 := SR_tr h1.1 h2.1
    refine ok_i (fun w => ?_) (fun _ => fin _ s2.1 (R0_SR s2 r))
    obtain ⟨a, ea, ha⟩ := h1.2 (w_of h2.1.1.2 w)
    rw [ea]
    exact ok_be (wr_nI (e := 6 + a) (nI_add 6 a) (by omega) (by decide)) (fin _ (LR_tr s2.1 LR_67) (R0_free (R0_SR s2 r) (Or.inl (by omega))))
  refine ok_i (fun _ => num 60 1 _ rfl (by omega) (by omega) 1 _ rfl (by omega)) (fun _ => ?_)
  refine ok_i (fun _ => num 9 2 _ rfl (by omega) (by omega) 0 _ rfl (by omega)) (fun _ => ?_)
  refine ok_i (fun _ => num 99 3 _ rfl (by omega) (by omega) 0 _ rfl (by omega)) (fun _ => ?_)
  refine ok_i (fun _ => num 99 4 _ rfl (by omega) (by omega) 0 _ rfl (by omega)) (fun _ => ?_)
  exact ok_i (fun _ => num 99 5 _ rfl (by omega) (by omega) 0 _ rfl (by omega)) (fun _ => fin t LR_rfl r)
theorem republicLine_ok {t : SG} (p : ∃ M, PB M t) (r : R0 t) : ok (RrepublicLine t) (fun u => LN t u ∧ R0 u) := by
  unfold RrepublicLine
  refine ok_b (takes_ok (a := 1) (b := 10) p rfl rfl (by omega) (by omega)) (fun q hq => ?_)
  exact ok_w (repLine14 (PV_SR hq.1 p) (R0_SR hq.1 r)) (fun u hu => ⟨LN_tr ⟨hq.2.1, hq.1.1.2⟩ hu.1, hu.2⟩)
def AS (t u : SG) (L : Nat) (a b : Int32) : Prop := u = t ∨ ∃ g, g < L ∧ t 67 0 = nI g ∧ u 67 0 = nI (g + 1) ∧ u 67 (1 + 5 * g) = a ∧ u 67 (1 + 5 * g + 1) = b ∧ ∀ j, j ≠ 0 → (j < 1 + 5 * g ∨ 1 + 5 * g + 5 ≤ j) → u 67 j = t 67 j
theorem adds_ok {t : SG} {x a b c e f : Int32} {L : Nat} (ex : x = nI L) (hL : L ≤ 40) (h : NB (t 67 0) L) : ok (Radds t x a b c e f) (fun u => LR t u ∧ u 64 = t 64 ∧ AS t u L a b) := by
  subst ex
  unfold Radds
  obtain ⟨g, eg, hg⟩ := h
  refine ok_be (rd_nI (e := 0) rfl (by omega) (by decide)) ?_
  refine ok_i (fun w => ?_) (fun _ => ok_s ⟨LR_rfl, rfl, Or.inl rfl⟩)
  have hl : g < L := by
    rw [eg] at w
    have : g ≠ L := fun e2 => by subst e2; exact Int32.lt_irrefl w
    omega
  refine ok_be (rd_nI (e := 0) rfl (by omega) (by decide)) ?_
  rw [eg]
  refine ok_be (wr_nI (e := 1 + 5 * g) (ix2 (a := 1) (b := 5)) (by omega) (by decide)) ?_
  refine ok_be (wr_nI (e := 1 + 5 * g + 1) (ix3 (a := 1) (b := 5) (c := 1)) (by omega) (by decide)) ?_
  refine ok_be (wr_nI (e := 1 + 5 * g + 2) (ix3 (a := 1) (b := 5) (c := 2)) (by omega) (by decide)) ?_
  refine ok_be (wr_nI (e := 1 + 5 * g + 3) (ix3 (a := 1) (b := 5) (c := 3)) (by omega) (by decide)) ?_
  refine ok_be (wr_nI (e := 1 + 5 * g + 4) (ix3 (a := 1) (b := 5) (c := 4)) (by omega) (by decide)) ?_
  refine ok_be (rd_nI (e := 0) rfl (by omega) (by decide)) ?_
  rw [up_bn (by omega), up_bn (by omega), up_bn (by omega), up_bn (by omega), up_bn (by omega), eg]
  refine ok_be (wr_nI (e := 0) rfl (by omega) (by decide)) (ok_s ⟨LR_tr LR_67 (LR_tr LR_67 (LR_tr LR_67 (LR_tr LR_67 (LR_tr LR_67 LR_67)))), ?_, Or.inr ⟨g, hl, eg, by rw [up_a, nI_succ], ?_, ?_, fun j h0 hj => ?_⟩⟩)
  · rw [up_n (by omega), up_n (by omega), up_n (by omega), up_n (by omega), up_n (by omega), up_n (by omega)]
  · rw [up_bn (by omega), up_bn (by omega), up_bn (by omega), up_bn (by omega), up_bn (by omega), up_a]
  · rw [up_bn (by omega), up_bn (by omega), up_bn (by omega), up_bn (by omega), up_a]
  · rw [up_bn (by omega), up_bn (by omega), up_bn (by omega), up_bn (by omega), up_bn (by omega), up_bn (by omega)]
theorem AS_NB {t u : SG} {L : Nat} {a b : Int32} (h : AS t u L a b) (n : NB (t 67 0) L) : NB (u 67 0) L := by
  rcases h with rfl | ⟨g, hg, _, e, _⟩
  · exact n
  · exact ⟨g + 1, e, by omega⟩
def C8 (u : SG) : Prop := NB (u 67 0) 8
theorem C8_SR {t u : SG} (h : SR t u) (r : C8 t) : C8 u := by
  unfold C8
  rw [h.2]; exact r
theorem noLine_ok {t : SG} (p : ∃ M, PB M t) (r : C8 t) : ok (RnoLine t) (fun u => LR t u ∧ C8 u) := by
  unfold RnoLine
  refine ok_b (kindTold_ok p) (fun q1 h1 => ok_b (takes_ok (a := 19) (b := 20) (PV_SR h1.1 p) rfl rfl (by omega) (by omega)) (fun q2 h2 => ?_))
  have s2 := SR_tr h1.1 h2.1
  refine ok_b (numbered_ok (a := 0) (b := 9) (PV_SR s2 p) rfl rfl (by omega) (by omega)) (fun q3 h3 => ?_)
  have s3 := SR_tr s2 h3.1
  have go : ∀ v a b c e, SR t v → ok (RnoLine_62 v a b c e) (fun u => LR t u ∧ C8 u) := by
    intro v a b c e hv
    unfold RnoLine_62
    exact ok_b (adds_ok (L := 8) rfl (by omega) (C8_SR hv r)) (fun u hu => ok_s ⟨LR_tr hv.1 hu.1, AS_NB hu.2.2 (C8_SR hv r)⟩)
  refine ok_i (fun _ => ok_i (fun _ => ok_i (fun _ => ?_) (fun _ => go _ _ _ _ _ s3)) (fun _ => go _ _ _ _ _ s3)) (fun _ => go _ _ _ _ _ s3)
  refine ok_b (advance_ok (PV_SR s3 p)) (fun v hv => ok_b (seasonTold_ok (PV_SR (SR_tr s3 hv.1) p)) (fun q5 h5 => go _ _ _ _ _ (SR_tr s3 (SR_tr hv.1 h5.1))))
theorem orderLine33 {t : SG} {y1 v0 : Int32} (p : ∃ M, PB M t) (r : C8 t) : ok (RorderLine_33 t y1 v0) (fun u => LR t u ∧ C8 u) := by
  have f140 : ∀ v, LR t v → C8 v → ok (RorderLine_140 v y1 v0) (fun u => LR t u ∧ C8 u) := by
    intro v hv rv
    unfold RorderLine_140
    exact ok_b (endsLine_ok (PV_LR hv p)) (fun u hu => ok_s ⟨LR_SR hv hu, C8_SR hu rv⟩)
  have f91 : ∀ v, LR t v → C8 v → ok (RorderLine_91 v y1 v0) (fun u => LR t u ∧ C8 u) := by
    intro v hv rv
    unfold RorderLine_91
    refine ok_i (fun _ => ?_) (fun _ => f140 v hv rv)
    have pv := PV_LR hv p
    refine ok_b (kindTold_ok pv) (fun q1 h1 => ok_b (numbered_ok (a := 0) (b := 9) (PV_SR h1.1 pv) rfl rfl (by omega) (by omega)) (fun q2 h2 => ?_))
    have s2 := SR_tr h1.1 h2.1
    refine ok_b (kindTold_ok (PV_SR s2 pv)) (fun q3 h3 => ?_)
    have s3 := SR_tr s2 h3.1
    refine ok_b (numbered_ok (a := 0) (b := 9) (PV_SR s3 pv) rfl rfl (by omega) (by omega)) (fun q4 h4 => ?_)
    have s4 := SR_tr s3 h4.1
    exact ok_b (adds_ok (L := 8) rfl (by omega) (C8_SR s4 rv)) (fun u hu => f140 u (LR_tr hv (LR_tr s4.1 hu.1)) (AS_NB hu.2.2 (C8_SR s4 rv)))
  have f68 : ∀ v, LR t v → C8 v → ok (RorderLine_68 v y1 v0) (fun u => LR t u ∧ C8 u) := by
    intro v hv rv
    unfold RorderLine_68
    refine ok_i (fun _ => ?_) (fun _ => f91 v hv rv)
    refine ok_b (numbered_ok (a := 0) (b := 27) (PV_LR hv p) rfl rfl (by omega) (by omega)) (fun q1 h1 => ?_)
    exact ok_b (adds_ok (L := 8) rfl (by omega) (C8_SR h1.1 rv)) (fun u hu => f91 u (LR_tr hv (LR_tr h1.1.1 hu.1)) (AS_NB hu.2.2 (C8_SR h1.1 rv)))
  have f58 : ∀ v, LR t v → C8 v → ok (RorderLine_58 v y1 v0) (fun u => LR t u ∧ C8 u) := by
    intro v hv rv
    unfold RorderLine_58
    exact ok_i (fun _ => ok_b (noLine_ok (PV_LR hv p) rv) (fun u hu => f68 u (LR_tr hv hu.1) hu.2)) (fun _ => f68 v hv rv)
  unfold RorderLine_33
  refine ok_i (fun _ => ok_be (rd_nI (e := 0) rfl (by omega) (by decide)) (ok_i (fun _ => f58 t LR_rfl r) (fun _ => ?_))) (fun _ => f58 t LR_rfl r)
  exact ok_b also_ok (fun v hv => f58 v hv.1.1 (C8_SR hv.1 r))
theorem orderLine_ok {t : SG} (p : ∃ M, PB M t) (r : C8 t) : ok (RorderLine t) (fun u => LN t u ∧ C8 u) := by
  unfold RorderLine
  refine ok_i (fun _ => ok_b (takes_ok (a := 18) (b := 18) p rfl rfl (by omega) (by omega)) (fun q hq => ?_)) (fun _ => ok_b (takes_ok (a := 22) (b := 23) p rfl rfl (by omega) (by omega)) (fun q hq => ?_))
  · exact ok_w (orderLine33 (PV_SR hq.1 p) (C8_SR hq.1 r)) (fun u hu => ⟨LN_tr ⟨hq.2.1, hq.1.1.2⟩ hu.1, hu.2⟩)
  · exact ok_w (orderLine33 (PV_SR hq.1 p) (C8_SR hq.1 r)) (fun u hu => ⟨LN_tr ⟨hq.2.1, hq.1.1.2⟩ hu.1, hu.2⟩)
end XRL
end
section
section XRM
variable {sc : Nat × (Nat → Int32)} {d : Nat} {K : List KD} {r q t a B m : Nat} {w : EW}
/-! the reference: lines of years, leaks, summers, bargains -/
def YT (f : Nat → Int32) : Prop := ∀ j, j < 40 → (f (1 + 5 * j) = 1 → NB (f (1 + 5 * j + 1)) 3) ∧ (f (1 + 5 * j) = 2 → NB (f (1 + 5 * j + 1)) 2)
def Y0 (u : SG) : Prop := NB (u 67 0) 40 ∧ (u 64 8 = 0 → YT (u 67))
theorem Y0_SR {t u : SG} (h : SR t u) (r : Y0 t) : Y0 u := by
  unfold Y0
  rw [h.2]; exact ⟨r.1, fun w => r.2 (w_of h.1.2 w)⟩
theorem Y0_AS {t u : SG} {a b : Int32} (r : Y0 t) (e : u 64 = t 64) (h : AS t u 40 a b) (c1 : t 64 8 = 0 → a = 1 → NB b 3) (c2 : t 64 8 = 0 → a = 2 → NB b 2) : Y0 u := by
  refine ⟨AS_NB h r.1, fun w => ?_⟩
  rw [e] at w
  have y := r.2 w
  rcases h with rfl | ⟨g, hg, eg, e0, ea, eb, fr⟩
  · exact y
  · intro j hj
    by_cases c : j = g
    · subst c
      rw [ea, eb]
      exact ⟨c1 w, c2 w⟩
    · rw [fr (1 + 5 * j) (by omega) (by omega), fr (1 + 5 * j + 1) (by omega) (by omega)]
      exact y j hj
theorem yearLine30 {t : SG} {y1 v0 : Int32} (p : ∃ M, PB M t) (r : Y0 t) : ok (RyearLine_30 t y1 v0) (fun u => LR t u ∧ Y0 u) := by
  have f201 : ∀ v, LR t v → Y0 v → ok (RyearLine_201 v y1 v0) (fun u => LR t u ∧ Y0 u) := by
    intro v hv rv
    unfold RyearLine_201
    exact ok_b (endsLine_ok (PV_LR hv p)) (fun u hu => ok_s ⟨LR_SR hv hu, Y0_SR hu rv⟩)
  have f184 : ∀ v, LR t v → Y0 v → ok (RyearLine_184 v y1 v0) (fun u => LR t u ∧ Y0 u) := by
    intro v hv rv
    unfold RyearLine_184
    refine ok_i (fun _ => ?_) (fun _ => f201 v hv rv)
    exact ok_b (adds_ok (L := 40) rfl (by omega) rv.1) (fun u hu => f201 u (LR_tr hv hu.1) (Y0_AS rv hu.2.1 hu.2.2 (fun _ e => absurd e (by decide)) (fun _ e => absurd e (by decide))))
  have f163 : (3 + v0 - 26 = 3 ∨ 3 + v0 - 26 = 4) → ∀ v, LR t v → Y0 v → ok (RyearLine_163 v y1 v0) (fun u => LR t u ∧ Y0 u) := by
    intro h v hv rv
    unfold RyearLine_163
    refine ok_b (numbered_ok (a := 0) (b := 5) (PV_LR hv p) rfl rfl (by omega) (by omega)) (fun q1 h1 => ?_)
    have r1 := Y0_SR h1.1 rv
    refine ok_b (adds_ok (L := 40) rfl (by omega) r1.1) (fun u hu => f184 u (LR_tr hv (LR_tr h1.1.1 hu.1)) (Y0_AS r1 hu.2.1 hu.2.2 (fun _ e => ?_) (fun _ e => ?_)))
    · rcases h with h | h <;> (rw [h] at e; exact absurd e (by decide))
    · rcases h with h | h <;> (rw [h] at e; exact absurd e (by decide))
  have f151 : ∀ v, LR t v → Y0 v → ok (RyearLine_151 v y1 v0) (fun u => LR t u ∧ Y0 u) := by
    intro v hv rv
    unfold RyearLine_151
    exact ok_i (fun e => f163 (Or.inl (by rw [e]; decide)) v hv rv) (fun _ => ok_i (fun e => f163 (Or.inr (by rw [e]; decide)) v hv rv) (fun _ => f184 v hv rv))
  have f125 : ∀ v, LR t v → Y0 v → ok (RyearLine_125 v y1 v0) (fun u => LR t u ∧ Y0 u) := by
    intro v hv rv
    unfold RyearLine_125
    refine ok_i (fun _ => ?_) (fun _ => f151 v hv rv)
    have pv := PV_LR hv p
    refine ok_b (kindTold_ok pv) (fun q1 h1 => ok_b (numbered_ok (a := 0) (b := 5) (PV_SR h1.1 pv) rfl rfl (by omega) (by omega)) (fun q2 h2 => ?_))
    have s2 := SR_tr h1.1 h2.1
    have r2 := Y0_SR s2 rv
    exact ok_b (adds_ok (L := 40) rfl (by omega) r2.1) (fun u hu => f151 u (LR_tr hv (LR_tr s2.1 hu.1)) (Y0_AS r2 hu.2.1 hu.2.2 (fun _ e => absurd e (by decide)) (fun w _ => h1.2 (w_of h2.1.1.2 w))))
  have f105 : ∀ v, LR t v → Y0 v → ok (RyearLine_105 v y1 v0) (fun u => LR t u ∧ Y0 u) := by
    intro v hv rv
    unfold RyearLine_105
    refine ok_i (fun _ => ?_) (fun _ => f125 v hv rv)
    refine ok_b (seasonTold_ok (PV_LR hv p)) (fun q1 h1 => ?_)
    have r1 := Y0_SR h1.1 rv
    exact ok_b (adds_ok (L := 40) rfl (by omega) r1.1) (fun u hu => f125 u (LR_tr hv (LR_tr h1.1.1 hu.1)) (Y0_AS r1 hu.2.1 hu.2.2 (fun w _ => h1.2 w) (fun _ e => absurd e (by decide))))
  have f55 : ∀ v, LR t v → Y0 v → ok (RyearLine_55 v y1 v0) (fun u => LR t u ∧ Y0 u) := by
    intro v hv rv
    unfold RyearLine_55
    refine ok_i (fun _ => ?_) (fun _ => f105 v hv rv)
    have pv := PV_LR hv p
    refine ok_b (numbered_ok (a := 0) (b := 5) pv rfl rfl (by omega) (by omega)) (fun q1 h1 => ?_)
    refine ok_b (numbered_ok (a := 0) (b := 9) (PV_SR h1.1 pv) rfl rfl (by omega) (by omega)) (fun q2 h2 => ?_)
    have s2 := SR_tr h1.1 h2.1
    refine ok_b (numbered_ok (a := 0) (b := 9) (PV_SR s2 pv) rfl rfl (by omega) (by omega)) (fun q3 h3 => ?_)
    have s3 := SR_tr s2 h3.1
    refine ok_b (numbered_ok (a := 0) (b := 9) (PV_SR s3 pv) rfl rfl (by omega) (by omega)) (fun q4 h4 => ?_)
    have s4 := SR_tr s3 h4.1
    have r4 := Y0_SR s4 rv
    exact ok_b (adds_ok (L := 40) rfl (by omega) r4.1) (fun u hu => f105 u (LR_tr hv (LR_tr s4.1 hu.1)) (Y0_AS r4 hu.2.1 hu.2.2 (fun _ e => absurd e (by decide)) (fun _ e => absurd e (by decide))))
  unfold RyearLine_30
  refine ok_i (fun _ => ok_be (rd_nI (e := 0) rfl (by omega) (by decide)) (ok_i (fun _ => f55 t LR_rfl r) (fun _ => ?_))) (fun _ => f55 t LR_rfl r)
  exact ok_b also_ok (fun v hv => f55 v hv.1.1 (Y0_SR hv.1 r))
theorem yearLine_ok {t : SG} (p : ∃ M, PB M t) (r : Y0 t) : ok (RyearLine t) (fun u => LN t u ∧ Y0 u) := by
  unfold RyearLine
  refine ok_i (fun _ => ok_b (takes_ok (a := 5) (b := 5) p rfl rfl (by omega) (by omega)) (fun q hq => ?_)) (fun _ => ok_b (takes_ok (a := 24) (b := 28) p rfl rfl (by omega) (by omega)) (fun q hq => ?_))
  · exact ok_w (yearLine30 (PV_SR hq.1 p) (Y0_SR hq.1 r)) (fun u hu => ⟨LN_tr ⟨hq.2.1, hq.1.1.2⟩ hu.1, hu.2⟩)
  · exact ok_w (yearLine30 (PV_SR hq.1 p) (Y0_SR hq.1 r)) (fun u hu => ⟨LN_tr ⟨hq.2.1, hq.1.1.2⟩ hu.1, hu.2⟩)
theorem not8 {g : Nat} (hg : g ≤ 8) (c : ¬ (8 : Int32) ≤ nI g) : g < 8 := by
  have : g ≠ 8 := fun e => c (by subst e; decide)
  omega
theorem leakLine38 {t : SG} {y1 : Int32} (p : ∃ M, PB M t) (r : C8 t) : ok (RleakLine_38 t y1) (fun u => LR t u ∧ C8 u) := by
  have f137 : ∀ v a b, LR t v → C8 v → ok (RleakLine_137 v y1 a b) (fun u => LR t u ∧ C8 u) := by
    intro v a b hv rv
    unfold RleakLine_137
    exact ok_b (endsLine_ok (PV_LR hv p)) (fun u hu => ok_s ⟨LR_SR hv hu, C8_SR hu rv⟩)
  have f73 : ∀ v a b, LR t v → C8 v → ok (RleakLine_73 v y1 a b) (fun u => LR t u ∧ C8 u) := by
    intro v a b hv rv
    unfold RleakLine_73
    refine ok_be (rd_nI (e := 0) rfl (by omega) (by decide)) (ok_i (fun _ => f137 v a b hv rv) (fun c => ?_))
    obtain ⟨g, eg, hg⟩ := rv
    rw [eg] at c
    have hl := not8 hg c
    refine ok_be (rd_nI (e := 0) rfl (by omega) (by decide)) ?_
    rw [eg]
    refine ok_be (wr_nI (e := 1 + 2 * g) (ix2 (a := 1) (b := 2)) (by omega) (by decide)) ?_
    refine ok_be (rd_nI (e := 0) rfl (by omega) (by decide)) ?_
    rw [up_bn (by omega), eg]
    have f126 : ∀ x : Int32, ok (RleakLine_126 (up v 67 (1 + 2 * g) a) y1 a b x (2 + 2 * nI g)) (fun u => LR t u ∧ C8 u) := by
      intro x
      unfold RleakLine_126
      refine ok_be (wr_nI (e := 2 + 2 * g) (ix2 (a := 2) (b := 2)) (by omega) (by decide)) ?_
      refine ok_be (rd_nI (e := 0) rfl (by omega) (by decide)) ?_
      rw [up_bn (by omega), up_bn (by omega), eg]
      refine ok_be (wr_nI (e := 0) rfl (by omega) (by decide)) (f137 _ a b (LR_tr hv (LR_tr LR_67 (LR_tr LR_67 LR_67))) ⟨g + 1, ?_, by omega⟩)
      rw [up_a, nI_succ]
    exact ok_i (fun _ => f126 _) (fun _ => f126 _)
  unfold RleakLine_38
  refine ok_b (numbered_ok (a := 0) (b := 5) p rfl rfl (by omega) (by omega)) (fun q1 h1 => ok_i (fun _ => ?_) (fun _ => ?_))
  · exact ok_b (takes_ok (a := 30) (b := 30) (PV_SR h1.1 p) rfl rfl (by omega) (by omega)) (fun q2 h2 => f73 _ _ _ (SR_tr h1.1 h2.1).1 (C8_SR (SR_tr h1.1 h2.1) r))
  · exact ok_b (takes_ok (a := 18) (b := 18) (PV_SR h1.1 p) rfl rfl (by omega) (by omega)) (fun q2 h2 => f73 _ _ _ (SR_tr h1.1 h2.1).1 (C8_SR (SR_tr h1.1 h2.1) r))
theorem leakLine_ok {t : SG} (p : ∃ M, PB M t) (r : C8 t) : ok (RleakLine t) (fun u => LN t u ∧ C8 u) := by
  unfold RleakLine
  refine ok_b (takes_ok (a := 29) (b := 29) p rfl rfl (by omega) (by omega)) (fun q hq => ?_)
  have go : ∀ v x, SR q.2 v → ok (RleakLine_38 v x) (fun u => LN t u ∧ C8 u) := fun v x hv =>
    ok_w (leakLine38 (PV_SR (SR_tr hq.1 hv) p) (C8_SR (SR_tr hq.1 hv) r)) (fun u hu => ⟨LN_tr ⟨hq.2.1, hq.1.1.2⟩ (LR_tr hv.1 hu.1), hu.2⟩)
  refine ok_i (fun _ => ok_be (rd_nI (e := 0) rfl (by omega) (by decide)) (ok_i (fun _ => go _ _ SR_rfl) (fun _ => ?_))) (fun _ => go _ _ SR_rfl)
  exact ok_b also_ok (fun v hv => go v _ hv.1)
def ST4 (f : Nat → Int32) : Prop := ∀ j, j < 8 → NB (f (1 + 4 * j)) 3 ∧ NB (f (1 + 4 * j + 1)) 9 ∧ NB (f (1 + 4 * j + 2)) 9 ∧ NB (f (1 + 4 * j + 3)) 9
def S0 (u : SG) : Prop := NB (u 67 0) 8 ∧ (u 64 8 = 0 → ST4 (u 67))
theorem S0_SR {t u : SG} (h : SR t u) (r : S0 t) : S0 u := by
  unfold S0
  rw [h.2]; exact ⟨r.1, fun w => r.2 (w_of h.1.2 w)⟩
theorem summerLine38 {t : SG} {y1 : Int32} (p : ∃ M, PB M t) (r : S0 t) : ok (RsummerLine_38 t y1) (fun u => LR t u ∧ S0 u) := by
  have f142 : ∀ v a b c d, LR t v → S0 v → ok (RsummerLine_142 v y1 a b c d) (fun u => LR t u ∧ S0 u) := by
    intro v a b c d hv rv
    unfold RsummerLine_142
    exact ok_b (endsLine_ok (PV_LR hv p)) (fun u hu => ok_s ⟨LR_SR hv hu, S0_SR hu rv⟩)
  unfold RsummerLine_38
  refine ok_b (seasonTold_ok p) (fun q1 h1 => ?_)
  refine ok_b (numbered_ok (a := 0) (b := 9) (PV_SR h1.1 p) rfl rfl (by omega) (by omega)) (fun q2 h2 => ?_)
  have s2 := SR_tr h1.1 h2.1
  refine ok_b (numbered_ok (a := 0) (b := 9) (PV_SR s2 p) rfl rfl (by omega) (by omega)) (fun q3 h3 => ?_)
  have s3 := SR_tr s2 h3.1
  refine ok_b (numbered_ok (a := 0) (b := 9) (PV_SR s3 p) rfl rfl (by omega) (by omega)) (fun q4 h4 => ?_)
  have s4 := SR_tr s3 h4.1
  have r4 := S0_SR s4 r
  refine ok_be (rd_nI (e := 0) rfl (by omega) (by decide)) (ok_i (fun _ => f142 _ _ _ _ _ s4.1 r4) (fun c => ?_))
  obtain ⟨⟨g, eg, hg⟩, rt⟩ := r4
  rw [eg] at c
  have hl := not8 hg c
  refine ok_be (rd_nI (e := 0) rfl (by omega) (by decide)) ?_
  rw [eg]
  refine ok_be (wr_nI (e := 1 + 4 * g) (ix2 (a := 1) (b := 4)) (by omega) (by decide)) ?_
  refine ok_be (wr_nI (e := 1 + 4 * g + 1) (ix3 (a := 1) (b := 4) (c := 1)) (by omega) (by decide)) ?_
  refine ok_be (wr_nI (e := 1 + 4 * g + 2) (ix3 (a := 1) (b := 4) (c := 2)) (by omega) (by decide)) ?_
  refine ok_be (wr_nI (e := 1 + 4 * g + 3) (ix3 (a := 1) (b := 4) (c := 3)) (by omega) (by decide)) ?_
  refine ok_be (rd_nI (e := 0) rfl (by omega) (by decide)) ?_
  rw [up_bn (by omega), up_bn (by omega), up_bn (by omega), up_bn (by omega), eg]
  refine ok_be (wr_nI (e := 0) rfl (by omega) (by decide)) (f142 _ _ _ _ _ (LR_tr s4.1 (LR_tr LR_67 (LR_tr LR_67 (LR_tr LR_67 (LR_tr LR_67 LR_67))))) ⟨⟨g + 1, by rw [up_a, nI_succ], by omega⟩, fun w => ?_⟩)
  rw [up_n (by omega), up_n (by omega), up_n (by omega), up_n (by omega), up_n (by omega)] at w
  intro j hj
  by_cases e : j = g
  · subst e
    refine ⟨?_, ?_, ?_, ?_⟩
    · rw [up_bn (by omega), up_bn (by omega), up_bn (by omega), up_bn (by omega), up_a]
      exact h1.2 (w_of (SR_tr h2.1 (SR_tr h3.1 h4.1)).1.2 w)
    · rw [up_bn (by omega), up_bn (by omega), up_bn (by omega), up_a]; exact num_NB h2.2
    · rw [up_bn (by omega), up_bn (by omega), up_a]; exact num_NB h3.2
    · rw [up_bn (by omega), up_a]; exact num_NB h4.2
  · have o := rt w j hj
    have fr : ∀ i, i < 4 → ∀ a b c d x : Int32, up (up (up (up (up q4.2 67 (1 + 4 * g) a) 67 (1 + 4 * g + 1) b) 67 (1 + 4 * g + 2) c) 67 (1 + 4 * g + 3) d) 67 0 x 67 (1 + 4 * j + i) = q4.2 67 (1 + 4 * j + i) := by
      intro i hi a b c d x
      rw [up_bn (by omega), up_bn (by omega), up_bn (by omega), up_bn (by omega), up_bn (by omega)]
    exact ⟨by rw [up_bn (by omega), up_bn (by omega), up_bn (by omega), up_bn (by omega), up_bn (by omega)]; exact o.1, by rw [fr 1 (by omega)]; exact o.2.1, by rw [fr 2 (by omega)]; exact o.2.2.1, by rw [fr 3 (by omega)]; exact o.2.2.2⟩
theorem summerLine_ok {t : SG} (p : ∃ M, PB M t) (r : S0 t) : ok (RsummerLine t) (fun u => LN t u ∧ S0 u) := by
  unfold RsummerLine
  refine ok_b (takes_ok (a := 31) (b := 31) p rfl rfl (by omega) (by omega)) (fun q hq => ?_)
  have go : ∀ v x, SR q.2 v → ok (RsummerLine_38 v x) (fun u => LN t u ∧ S0 u) := fun v x hv =>
    ok_w (summerLine38 (PV_SR (SR_tr hq.1 hv) p) (S0_SR (SR_tr hq.1 hv) r)) (fun u hu => ⟨LN_tr ⟨hq.2.1, hq.1.1.2⟩ (LR_tr hv.1 hu.1), hu.2⟩)
  refine ok_i (fun _ => ok_be (rd_nI (e := 0) rfl (by omega) (by decide)) (ok_i (fun _ => go _ _ SR_rfl) (fun _ => ?_))) (fun _ => go _ _ SR_rfl)
  exact ok_b also_ok (fun v hv => go v _ hv.1)
theorem bargainLine_ok {t : SG} (p : ∃ M, PB M t) : ok (RbargainLine t) (fun u => LN t u) := by
  unfold RbargainLine
  refine ok_b (takes_ok (a := 32) (b := 32) p rfl rfl (by omega) (by omega)) (fun q1 h1 => ?_)
  have p1 := PV_SR h1.1 p
  refine ok_b (numbered_ok (a := 0) (b := 5) p1 rfl rfl (by omega) (by omega)) (fun q2 h2 => ?_)
  refine ok_b (numbered_ok (a := 0) (b := 99) (PV_SR h2.1 p1) rfl rfl (by omega) (by omega)) (fun q3 h3 => ?_)
  have s3 := SR_tr h2.1 h3.1
  have f38 : ∀ v a b, LR q1.2 v → ok (RbargainLine_38 v a b) (fun u => LN t u) := by
    intro v a b hv
    unfold RbargainLine_38
    exact ok_b (endsLine_ok (PV_LR hv p1)) (fun u hu => ok_s (LN_tr ⟨h1.2.1, h1.1.1.2⟩ (LR_SR hv hu)))
  refine ok_i (fun _ => ?_) (fun _ => f38 _ _ _ s3.1)
  obtain ⟨a, ea, ha⟩ := num_NB h2.2
  exact ok_be (wr_nI (e := a) ea (by omega) (by decide)) (f38 _ _ _ (LR_tr s3.1 LR_67))
theorem clears_l {s : SG} {y1 : Int32} : ∀ (n j z : Nat) (t : SG), (∀ c, c ≠ 67 → t c = s c) → (∀ i, i < j → t 67 i = 0) → j + n = 201 → n ≤ z → ok (Rclears_2 (Rclears_R z) t y1 (nI j)) (fun u => (∀ c, c ≠ 67 → u c = s c) ∧ (y1 = 0 → R0 u) ∧ (¬ y1 = 0 → ∀ i, i < 201 → u 67 i = 0)) := by
  intro n
  induction n with
  | zero =>
    intro j z t h h0 hj hz
    unfold Rclears_2
    rw [if_pos (show (201 : Int32) ≤ nI j from k_ge (m := 201) hj)]
    refine ok_i (fun e => ?_) (fun e => ok_s ⟨h, fun c => absurd c e, fun _ i hi => h0 i (by omega)⟩)
    refine ok_be (wr_nI (e := 1) rfl (by omega) (by decide)) (ok_be (wr_nI (e := 2) rfl (by omega) (by decide)) (ok_be (wr_nI (e := 3) rfl (by omega) (by decide)) (ok_be (wr_nI (e := 4) rfl (by omega) (by decide)) (ok_be (wr_nI (e := 5) rfl (by omega) (by decide)) (ok_s ⟨fun c hc => ?_, fun _ => ?_, fun c => absurd e c⟩)))))
    · rw [up_n hc, up_n hc, up_n hc, up_n hc, up_n hc]; exact h c hc
    · have r : R0 t := by
        refine ⟨⟨0, h0 0 (by omega), by omega⟩, ⟨0, h0 3 (by omega), by omega⟩, ⟨0, h0 4 (by omega), by omega⟩, fun m i hm hi => ⟨0, h0 _ (by omega), by omega⟩⟩
      refine R0_free (R0_up (R0_up (R0_free (R0_free r (Or.inl (by omega))) (Or.inl (by omega))) (fun e => by omega) (fun _ => ⟨50, rfl, by omega⟩) (fun m i _ _ e => by omega)) (fun e => by omega) (fun _ => ⟨50, rfl, by omega⟩) (fun m i _ _ e => by omega)) (Or.inl (by omega))
  | succ n ih =>
    intro j z t h h0 hj hz
    obtain ⟨z, rfl⟩ : ∃ z', z = z' + 1 := ⟨z - 1, by omega⟩
    unfold Rclears_2
    rw [if_neg (show ¬ (201 : Int32) ≤ nI j from k_lt (m := 201) hj (by decide))]
    refine ok_be (wr_nI rfl (by omega) (by decide)) ?_
    show ok (Rclears_2 (Rclears_R z) (up t 67 j 0) y1 (nI j + 1)) _
    rw [← nI_succ]
    refine ih (j + 1) z _ (fun c hc => by rw [up_n hc]; exact h c hc) (fun i hi => ?_) (by omega) (by omega)
    by_cases e : i = j
    · subst e; rw [up_a]
    · rw [up_bn e]; exact h0 i (by omega)
theorem clears_ok {s : SG} {y1 : Int32} : ok (Rclears s y1) (fun u => (∀ c, c ≠ 67 → u c = s c) ∧ (y1 = 0 → R0 u) ∧ (¬ y1 = 0 → ∀ i, i < 201 → u 67 i = 0)) := by
  unfold Rclears
  exact clears_l 201 0 xF s (fun _ _ => rfl) (fun i hi => absurd hi (by omega)) rfl (by have := xF_ge; omega)
end XRM
end
section
section XRN
variable {sc : Nat × (Nat → Int32)} {d : Nat} {K : List KD} {r q t a B m : Nat} {w : EW}
/-! the reference: a told thing -/
theorem RR_of {f g : Nat → Int32} {r r2 : Nat} (e : ∀ i, i < 118 → g (r2 + i) = f (r + i)) (h : RR f r) : RR g r2 := by
  refine ⟨?_, ?_, ?_, fun m i hm hi => ?_⟩
  · have := e 0 (by omega)
    rw [Nat.add_zero, Nat.add_zero] at this
    rw [this]; exact h.1
  · rw [e 3 (by omega)]; exact h.2.1
  · rw [e 4 (by omega)]; exact h.2.2.1
  · rw [show r2 + 16 + 18 * m + i = r2 + (16 + 18 * m + i) by omega, e _ (by omega), show r + (16 + 18 * m + i) = r + 16 + 18 * m + i by omega]
    exact h.2.2.2 m i hm hi
theorem RYd_of {f g : Nat → Int32} {r r2 : Nat} (e : ∀ i, i < 201 → g (r2 + i) = f (r + i)) (h : RYd f r) : RYd g r2 := by
  refine ⟨?_, fun j hj => ?_⟩
  · have := e 0 (by omega)
    rw [Nat.add_zero, Nat.add_zero] at this
    rw [this]; exact h.1
  · rw [show r2 + 1 + 5 * j + 1 = r2 + (1 + 5 * j + 1) by omega, show r2 + 1 + 5 * j = r2 + (1 + 5 * j) by omega, e _ (by omega), e _ (by omega), show r + (1 + 5 * j + 1) = r + 1 + 5 * j + 1 by omega, show r + (1 + 5 * j) = r + 1 + 5 * j by omega]
    exact h.2 j hj
theorem RSu_of {f g : Nat → Int32} {r r2 : Nat} (e : ∀ i, i < 33 → g (r2 + i) = f (r + i)) (h : RSu f r) : RSu g r2 := by
  have key : ∀ j a, j < 8 → a < 4 → g (r2 + 1 + 4 * j + a) = f (r + 1 + 4 * j + a) := by
    intro j a hj ha
    rw [show r2 + 1 + 4 * j + a = r2 + (1 + 4 * j + a) by omega, e _ (by omega), show r + (1 + 4 * j + a) = r + 1 + 4 * j + a by omega]
  refine ⟨?_, fun j hj => ⟨?_, ?_, ?_, ?_⟩⟩
  · have := e 0 (by omega)
    rw [Nat.add_zero, Nat.add_zero] at this
    rw [this]; exact h.1
  · have := key j 0 hj (by omega)
    rw [Nat.add_zero, Nat.add_zero] at this
    rw [this]; exact (h.2 j hj).1
  · rw [key j 1 hj (by omega)]; exact (h.2 j hj).2.1
  · rw [key j 2 hj (by omega)]; exact (h.2 j hj).2.2.1
  · rw [key j 3 hj (by omega)]; exact (h.2 j hj).2.2.2
def GF (f g : Nat → Int32) (k P S : Nat) : Prop := NB (g k) 2 ∧ (∀ i, i < 7 → i ≠ k → g i = f i) ∧ ∀ i, 610 ≤ i → i < 1442 → (i < P ∨ P + S ≤ i) → g i = f i
theorem GF_RB0 {f g : Nat → Int32} {k P S : Nat} (hk : k < 6) (h : RB0 f) (q : GF f g k P S)
    (h0 : ∀ b, b < 2 → ¬ (610 + 118 * b + 118 ≤ P ∨ P + S ≤ 610 + 118 * b) → RR g (610 + 118 * b))
    (h1 : ∀ b, b < 2 → ¬ (846 + 41 * b + 41 ≤ P ∨ P + S ≤ 846 + 41 * b) → NB (g (846 + 41 * b)) 8)
    (h2 : ∀ b, b < 2 → ¬ (928 + 201 * b + 201 ≤ P ∨ P + S ≤ 928 + 201 * b) → RYd g (928 + 201 * b))
    (h3 : ∀ b, b < 2 → ¬ (1330 + 17 * b + 17 ≤ P ∨ P + S ≤ 1330 + 17 * b) → NB (g (1330 + 17 * b)) 8)
    (h4 : ∀ b, b < 2 → ¬ (1364 + 33 * b + 33 ≤ P ∨ P + S ≤ 1364 + 33 * b) → RSu g (1364 + 33 * b)) : RB0 g := by
  refine ⟨fun i hi => ?_, ?_, fun b hb => ?_⟩
  · by_cases e : i = k
    · subst e; exact q.1
    · rw [q.2.1 i (by omega) e]; exact h.1 i hi
  · rw [q.2.1 6 (by omega) (by omega)]; exact h.2.1
  obtain ⟨a0, a1, a2, a3, a4⟩ := h.2.2 b hb
  refine ⟨?_, ?_, ?_, ?_, ?_⟩
  · by_cases c : 610 + 118 * b + 118 ≤ P ∨ P + S ≤ 610 + 118 * b
    · exact RR_of (fun i hi => q.2.2 _ (by omega) (by omega) (by omega)) a0
    · exact h0 b hb c
  · by_cases c : 846 + 41 * b + 41 ≤ P ∨ P + S ≤ 846 + 41 * b
    · rw [q.2.2 _ (by omega) (by omega) (by omega)]; exact a1
    · exact h1 b hb c
  · by_cases c : 928 + 201 * b + 201 ≤ P ∨ P + S ≤ 928 + 201 * b
    · exact RYd_of (fun i hi => q.2.2 _ (by omega) (by omega) (by omega)) a2
    · exact h2 b hb c
  · by_cases c : 1330 + 17 * b + 17 ≤ P ∨ P + S ≤ 1330 + 17 * b
    · rw [q.2.2 _ (by omega) (by omega) (by omega)]; exact a3
    · exact h3 b hb c
  · by_cases c : 1364 + 33 * b + 33 ≤ P ∨ P + S ≤ 1364 + 33 * b
    · exact RSu_of (fun i hi => q.2.2 _ (by omega) (by omega) (by omega)) a4
    · exact h4 b hb c
theorem copy272 {y1 y2 : Int32} {j P S : Nat} (hP : RplaceOf y1 (nI j) = nI P) (hS : RsizeOf y1 = nI S) (hb : P + S ≤ 1442) (hS2 : S ≤ 201) {w : SG} : ∀ (n i z : Nat) (t : SG), (∀ c, c ≠ 65 → t c = w c) → (∀ x, (x < P ∨ P + S ≤ x) → t 65 x = w 65 x) → (∀ x, x < i → t 65 (P + x) = w 67 x) → i + n = S → n ≤ z → ok (Rtext_272 (Rtext_R z).1 (Rtext_R z).2 t y1 y2 (nI j) (nI i)) (fun p => (∀ c, c ≠ 65 → p.2 c = w c) ∧ (∀ x, (x < P ∨ P + S ≤ x) → p.2 65 x = w 65 x) ∧ ∀ x, x < S → p.2 65 (P + x) = w 67 x) := by
  intro n
  induction n with
  | zero =>
    intro i z t a b c hi hz
    unfold Rtext_272
    rw [hS, if_pos (k_ge hi)]
    exact ok_s ⟨a, b, fun x hx => c x (by omega)⟩
  | succ n ih =>
    intro i z t a b c hi hz
    obtain ⟨z, rfl⟩ : ∃ z', z = z' + 1 := ⟨z - 1, by omega⟩
    unfold Rtext_272
    rw [hS, if_neg (k_lt hi (by omega))]
    refine ok_be (rd_nI (e := i) rfl (by omega) (by decide)) (ok_be (wr_nI (e := P + i) (by rw [hP, nI_add]) (by omega) (by decide)) ?_)
    show ok (Rtext_272 (Rtext_R z).1 (Rtext_R z).2 (up t 65 (P + i) (t 67 i)) y1 y2 (nI j) (nI i + 1)) _
    rw [← nI_succ]
    refine ih (i + 1) z _ (fun d hd => by rw [up_n hd]; exact a d hd) (fun x hx => by rw [up_bn (by omega)]; exact b x hx) (fun x hx => ?_) (by omega) (by omega)
    by_cases e : x = i
    · subst e; rw [up_a, a 67 (by decide)]
    · rw [up_bn (by omega)]; exact c x (by omega)
section TX
variable {I : SG → Prop} {L : SG → Option SG} {k S : Nat} {P : Nat → Nat} {y1 y2 : Int32} {s : SG}
def TF (I : SG → Prop) (k S : Nat) (P : Nat → Nat) : Prop := ∀ (f g : Nat → Int32) (u : SG) (j : Nat), j < 2 → RB0 f → I u → u 64 8 = 0 → GF f g k (P j) S → (∀ i, i < S → g (P j + i) = u 67 i) → RB0 g
def TP (y1 : Int32) (k S : Nat) (P : Nat → Nat) : Prop := y1 = nI k ∧ k < 6 ∧ RsizeOf y1 = nI S ∧ S ≤ 201 ∧ ∀ j, j < 2 → RplaceOf y1 (nI j) = nI (P j) ∧ 610 ≤ P j ∧ P j + S ≤ 1442
def TY (y2 : Int32) (k : Nat) (u : SG) : Prop := (y2 = -1 ∧ ∃ c, u 65 k = nI c ∧ c < 2) ∨ (¬ y2 = -1 ∧ ∃ j, y2 = nI j ∧ j < 2)
theorem text226 (tf : TF I k S P) (tp : TP y1 k S P) {u : SG} (ty : TY y2 k u) (p : ∃ M, PB M u) (i : I u) (r : RI u) (q : QA s u) {z : Nat} (hz : 201 ≤ z) : ok (Rtext_226 (Rtext_R z).1 (Rtext_R z).2 u y1 y2) (fun p => RI p.2 ∧ QA s p.2) := by
  obtain ⟨e1, hk, hS, hS2, hP⟩ := tp
  unfold Rtext_226
  refine ok_be (rd_nI (e := 7) rfl (by omega) (by decide)) (ok_i (fun c7 => ?_) (fun _ => ok_s ⟨r, q⟩))
  have w8 : u 64 8 = 0 := by
    obtain ⟨M, sz, nx, _, _, _, _, h, _⟩ := p
    exact Decidable.byContradiction (fun c => h c c7)
  have go : ∀ (j : Nat) (w : SG), j < 2 → (∀ c, c ≠ 65 → w c = u c) → (∀ x, x ≠ k → w 65 x = u 65 x) → NB (w 65 k) 2 → ok (Rtext_272 (Rtext_R z).1 (Rtext_R z).2 w y1 y2 (nI j) 0) (fun p => RI p.2 ∧ QA s p.2) := by
    intro j w hj hw hx hn
    obtain ⟨hp, hp1, hp2⟩ := hP j hj
    refine ok_w (copy272 (P := P j) hp hS hp2 hS2 (w := w) S 0 z w (fun _ _ => rfl) (fun _ _ => rfl) (fun x hx => absurd hx (by omega)) (by omega) (by omega)) (fun v hv => ?_)
    obtain ⟨h1, h2, h3⟩ := hv
    have qv : QA s v.2 := QA_tr q ⟨fun x hx2 => by rw [h2 x (by omega), hx x (by omega)], by rw [h1 66 (by decide), hw 66 (by decide)], fun c hc => by rw [h1 c (by omega), hw c (by omega)]⟩
    refine ⟨QA_RI (QA_tr QA_rfl (s := u) ⟨fun x hx2 => by rw [h2 x (by omega), hx x (by omega)], by rw [h1 66 (by decide), hw 66 (by decide)], fun c hc => by rw [h1 c (by omega), hw c (by omega)]⟩) ?_ r, qv⟩
    refine tf (u 65) (v.2 65) u j hj r.1 i w8 ⟨?_, fun x hx2 hne => ?_, fun x hx2 _ ho => ?_⟩ (fun x hx2 => ?_)
    · rw [h2 k (by omega)]; exact hn
    · rw [h2 x (by omega), hx x hne]
    · rw [h2 x ho, hx x (by omega)]
    · rw [h3 x hx2, hw 67 (by decide)]
  rcases ty with ⟨ey, c, ec, hc⟩ | ⟨ny, j, ey, hj⟩
  · rw [if_pos ey]
    refine ok_be (rd_nI (e := k) e1 (by omega) (by decide)) ?_
    rw [ec]
    unfold Rtext_253
    rw [if_pos ey]
    refine ok_be (rd_nI (e := k) e1 (by omega) (by decide)) ?_
    rw [ec]
    refine ok_be (wr_nI (e := k) e1 (by omega) (by decide)) ?_
    exact go c _ hc (fun d hd => up_n hd) (fun x hx => up_bn hx) ⟨c + 1, by rw [up_a, nI_succ], by omega⟩
  · rw [if_neg ny]
    unfold Rtext_253
    rw [if_neg ny]
    have g := go j u hj (fun _ _ => rfl) (fun _ _ => rfl) (r.1.1 k hk)
    rw [← ey] at g
    exact g
theorem text190 (tf : TF I k S P) (tp : TP y1 k S P) (ti : ∀ t u, SR t u → I t → I u) {u : SG} (ty : TY y2 k u) (p : ∃ M, PB M u) (i : I u) (r : RI u) (q : QA s u) {z : Nat} (hz : 201 ≤ z) : ok (Rtext_190 (Rtext_R z).1 (Rtext_R z).2 u y1 y2) (fun p => RI p.2 ∧ QA s p.2) := by
  have go := text226 tf tp ty p i r q hz
  unfold Rtext_190
  refine ok_be (rd_nI (e := 7) rfl (by omega) (by decide)) (ok_i (fun c7 => ok_i (fun _ => ?_) (fun _ => go)) (fun _ => go))
  refine ok_be (rd_nI (e := 0) rfl (by omega) (by decide)) (ok_i (fun _ => go) (fun _ => ok_b also_ok (fun v hv => ?_)))
  have f := hv.1.1.2
  have e65 : ∀ x, (x < 6 ∨ 610 ≤ x) → v 65 x = u 65 x := fun x hx => f.1 x (by omega) (by omega)
  have hk := tp.2.1
  have qv : QA u v := ⟨fun x hx => e65 x (by omega), f.2.1 66 (by decide) (by decide) (by decide), fun c hc => f.2.1 c (by omega) (by omega) (by omega)⟩
  refine text226 tf tp ?_ (PV_SR hv.1 p) (ti _ _ hv.1 i) (QA_RI qv (RB0_of (fun x hx => e65 x (by omega)) ?_ r.1) r) (QA_tr q qv) hz
  · rcases ty with ⟨ey, c, ec, hc⟩ | h
    · exact Or.inl ⟨ey, c, by rw [e65 k (by omega)]; exact ec, hc⟩
    · exact Or.inr h
  · rw [f.1 6 (by omega) (by omega)]; exact r.1.2.1
theorem text98 (tf : TF I k S P) (tp : TP y1 k S P) (ti : ∀ t u, SR t u → I t → I u) (tl : ∀ t, (∃ M, PB M t) → I t → ok (L t) (fun u => LN t u ∧ I u)) (tb : ∀ r98 r272 t, Rtext_113 r98 r272 t y1 y2 y1 = (L t).bind fun u => r98 u y1 y2) : ∀ (n z : Nat) (u : SG), PB n u → TY y2 k u → I u → RI u → QA s u → n + 201 ≤ z → ok (Rtext_98 (Rtext_R z).1 (Rtext_R z).2 u y1 y2) (fun p => RI p.2 ∧ QA s p.2) := by
  intro n
  induction n with
  | zero =>
    intro z u p ty i r q hz
    unfold Rtext_98
    have go := text190 tf tp ti ty ⟨0, p⟩ i r q (z := z) (by omega)
    refine ok_i (fun w => ok_i (fun _ => go) (fun c5 => ?_)) (fun _ => go)
    obtain ⟨sz, nx, _, _, _, _, _, h⟩ := p
    have := h w
    rw [if_neg c5] at this
    omega
  | succ n ih =>
    intro z u p ty i r q hz
    obtain ⟨z, rfl⟩ : ∃ z', z = z' + 1 := ⟨z - 1, by omega⟩
    unfold Rtext_98
    have go := text190 tf tp ti ty ⟨_, p⟩ i r q (z := z + 1) (by omega)
    refine ok_i (fun w => ok_i (fun _ => go) (fun c5 => ?_)) (fun _ => go)
    rw [tb]
    refine ok_b (tl u ⟨_, p⟩ i) (fun v hv => ?_)
    have f := hv.1.2
    have e65 : ∀ x, (x < 6 ∨ 610 ≤ x) → v 65 x = u 65 x := fun x hx => f.1 x (by omega) (by omega)
    have hk := tp.2.1
    have qv : QA u v := ⟨fun x hx => e65 x (by omega), f.2.1 66 (by decide) (by decide) (by decide), fun c hc => f.2.1 c (by omega) (by omega) (by omega)⟩
    refine ih z v (hv.1.1 n p) ?_ hv.2 (QA_RI qv (RB0_of (fun x hx => e65 x (by omega)) ?_ r.1) r) (QA_tr q qv) (by omega)
    · rcases ty with ⟨ey, c, ec, hc⟩ | h
      · exact Or.inl ⟨ey, c, by rw [e65 k (by omega)]; exact ec, hc⟩
      · exact Or.inr h
    · rw [f.1 6 (by omega) (by omega)]; exact r.1.2.1
theorem text74 (tf : TF I k S P) (tp : TP y1 k S P) (ti : ∀ t u, SR t u → I t → I u) (tl : ∀ t, (∃ M, PB M t) → I t → ok (L t) (fun u => LN t u ∧ I u)) (tb : ∀ r98 r272 t, Rtext_113 r98 r272 t y1 y2 y1 = (L t).bind fun u => r98 u y1 y2) (t0 : ∀ u : SG, (y1 = 0 → R0 u) → (¬ y1 = 0 → ∀ i, i < 201 → u 67 i = 0) → I u) {t : SG} {sz : Nat} (e2 : t 64 2 = nI sz) (hs : sz ≤ 600) (ty : TY y2 k t) (r : RI t) (q : QA s t) : ok (Rtext_74 (Rtext_R xF).1 (Rtext_R xF).2 t y1 y2) (fun p => RI p.2 ∧ QA s p.2) := by
  unfold Rtext_74
  refine ok_b clears_ok (fun u hu => ?_)
  obtain ⟨h1, h2, h3⟩ := hu
  have i0 := t0 u h2 h3
  have e64 := h1 64 (by decide)
  have p : PB 601 u := by
    refine ⟨sz, 0, ?_, hs, ?_, by omega, fun c => ?_, fun _ => ?_⟩
    · rw [e64, up_bn (by decide), up_bn (by decide), up_bn (by decide)]; exact e2
    · rw [e64, up_bn (by decide), up_bn (by decide), up_a]; rfl
    · rw [e64, up_bn (by decide), up_a] at c; exact absurd rfl c
    · split <;> omega
  have e65 : u 65 = t 65 := by rw [h1 65 (by decide), up_n (by decide), up_n (by decide), up_n (by decide)]
  refine ok_b (advance_ok ⟨_, p⟩) (fun v hv => ?_)
  have f := hv.1.1.2
  have v65 : v 65 = t 65 := by rw [hv.2.2.1, e65]
  have qv : QA t v := ⟨fun x _ => by rw [v65], by rw [f.2.1 66 (by decide) (by decide) (by decide), h1 66 (by decide), up_n (by decide), up_n (by decide), up_n (by decide)], fun c hc => by rw [f.2.1 c (by omega) (by omega) (by omega), h1 c (by omega), up_n (by omega), up_n (by omega), up_n (by omega)]⟩
  refine text98 tf tp ti tl tb 601 xF v (hv.1.1.1 _ p) ?_ (ti _ _ hv.1 i0) (QA_RI qv (by rw [v65]; exact r.1) r) (QA_tr q qv) (by have := xF_ge; omega)
  unfold TY
  rw [v65]; exact ty
end TX
end XRN
end
section
section XRO
variable {sc : Nat × (Nat → Int32)} {d : Nat} {K : List KD} {r q t a B m : Nat} {w : EW}
/-! the reference: told things -/
theorem TF0 : TF R0 0 118 (fun j => 610 + 118 * j) := by
  intro f g u j hj h i w q c
  refine GF_RB0 (P := 610 + 118 * j) (S := 118) (by omega) h q (fun b hb n => ?_) (fun b hb n => ?_) (fun b hb n => ?_) (fun b hb n => ?_) (fun b hb n => ?_)
  · obtain rfl : b = j := by omega
    exact RR_of (f := u 67) (r := 0) (fun i hi => by rw [Nat.zero_add]; exact c i hi) i
  all_goals exact absurd n (by omega)
theorem TF1 : TF C8 1 41 (fun j => 846 + 41 * j) := by
  intro f g u j hj h i w q c
  refine GF_RB0 (P := 846 + 41 * j) (S := 41) (by omega) h q (fun b hb n => ?_) (fun b hb n => ?_) (fun b hb n => ?_) (fun b hb n => ?_) (fun b hb n => ?_)
  · exact absurd n (by omega)
  · obtain rfl : b = j := by omega
    have := c 0 (by omega)
    rw [show g (846 + 41 * b) = u 67 0 from this]; exact i
  all_goals exact absurd n (by omega)
theorem TF2 : TF Y0 2 201 (fun j => 928 + 201 * j) := by
  intro f g u j hj h i w q c
  refine GF_RB0 (P := 928 + 201 * j) (S := 201) (by omega) h q (fun b hb n => ?_) (fun b hb n => ?_) (fun b hb n => ?_) (fun b hb n => ?_) (fun b hb n => ?_)
  · exact absurd n (by omega)
  · exact absurd n (by omega)
  · obtain rfl : b = j := by omega
    refine RYd_of (f := u 67) (r := 0) (fun i hi => by rw [Nat.zero_add]; exact c i hi) ?_
    have y := i.2 w
    unfold RYd
    simp only [Nat.zero_add]
    exact ⟨i.1, y⟩
  all_goals exact absurd n (by omega)
theorem TF3 : TF C8 3 17 (fun j => 1330 + 17 * j) := by
  intro f g u j hj h i w q c
  refine GF_RB0 (P := 1330 + 17 * j) (S := 17) (by omega) h q (fun b hb n => ?_) (fun b hb n => ?_) (fun b hb n => ?_) (fun b hb n => ?_) (fun b hb n => ?_)
  · exact absurd n (by omega)
  · exact absurd n (by omega)
  · exact absurd n (by omega)
  · obtain rfl : b = j := by omega
    have := c 0 (by omega)
    rw [show g (1330 + 17 * b) = u 67 0 from this]; exact i
  · exact absurd n (by omega)
theorem TF4 : TF S0 4 33 (fun j => 1364 + 33 * j) := by
  intro f g u j hj h i w q c
  refine GF_RB0 (P := 1364 + 33 * j) (S := 33) (by omega) h q (fun b hb n => ?_) (fun b hb n => ?_) (fun b hb n => ?_) (fun b hb n => ?_) (fun b hb n => ?_)
  · exact absurd n (by omega)
  · exact absurd n (by omega)
  · exact absurd n (by omega)
  · exact absurd n (by omega)
  · obtain rfl : b = j := by omega
    refine RSu_of (f := u 67) (r := 0) (fun i hi => by rw [Nat.zero_add]; exact c i hi) ?_
    have y := i.2 w
    unfold RSu
    simp only [Nat.zero_add]
    exact ⟨i.1, y⟩
theorem TF5 : TF (fun _ => True) 5 6 (fun j => 1430 + 6 * j) := by
  intro f g u j hj h i w q c
  refine GF_RB0 (P := 1430 + 6 * j) (S := 6) (by omega) h q (fun b hb n => ?_) (fun b hb n => ?_) (fun b hb n => ?_) (fun b hb n => ?_) (fun b hb n => ?_)
  all_goals exact absurd n (by omega)
theorem k0 {u : SG} (h : ∀ i, i < 201 → u 67 i = 0) (i n : Nat) (hi : i < 201) : NB (u 67 i) n := ⟨0, h i hi, by omega⟩
theorem textk {y1 y2 : Int32} {k sz : Nat} {s t : SG} (hk : k < 6) (e1 : y1 = nI k) (e2 : t 64 2 = nI sz) (hs : sz ≤ 600) (ty : TY y2 k t) (r : RI t) (q : QA s t) : ok (Rtext_74 (Rtext_R xF).1 (Rtext_R xF).2 t y1 y2) (fun p => RI p.2 ∧ QA s p.2) := by
  have hk2 : k = 0 ∨ k = 1 ∨ k = 2 ∨ k = 3 ∨ k = 4 ∨ k = 5 := by omega
  rcases hk2 with rfl | rfl | rfl | rfl | rfl | rfl <;> subst e1
  · exact text74 TF0 ⟨rfl, by omega, by decide, by omega, fun j hj => ⟨place0, by dsimp only; omega, by dsimp only; omega⟩⟩ (fun _ _ => R0_SR) (fun _ p i => republicLine_ok p i) (fun _ _ _ => rfl) (fun u h _ => h rfl) e2 hs ty r q
  · exact text74 TF1 ⟨rfl, by omega, by decide, by omega, fun j hj => ⟨place1, by dsimp only; omega, by dsimp only; omega⟩⟩ (fun _ _ => C8_SR) (fun _ p i => orderLine_ok p i) (fun _ _ _ => rfl) (fun u _ h => k0 (h (by decide)) 0 8 (by omega)) e2 hs ty r q
  · refine text74 TF2 ⟨rfl, by omega, by decide, by omega, fun j hj => ⟨place2, by dsimp only; omega, by dsimp only; omega⟩⟩ (fun _ _ => Y0_SR) (fun _ p i => yearLine_ok p i) (fun _ _ _ => rfl) (fun u _ h => ?_) e2 hs ty r q
    have z := h (by decide)
    exact ⟨k0 z 0 40 (by omega), fun _ j hj => ⟨fun _ => k0 z _ 3 (by omega), fun _ => k0 z _ 2 (by omega)⟩⟩
  · exact text74 TF3 ⟨rfl, by omega, by decide, by omega, fun j hj => ⟨place3, by dsimp only; omega, by dsimp only; omega⟩⟩ (fun _ _ => C8_SR) (fun _ p i => leakLine_ok p i) (fun _ _ _ => rfl) (fun u _ h => k0 (h (by decide)) 0 8 (by omega)) e2 hs ty r q
  · refine text74 TF4 ⟨rfl, by omega, by decide, by omega, fun j hj => ⟨place4, by dsimp only; omega, by dsimp only; omega⟩⟩ (fun _ _ => S0_SR) (fun _ p i => summerLine_ok p i) (fun _ _ _ => rfl) (fun u _ h => ?_) e2 hs ty r q
    have z := h (by decide)
    exact ⟨k0 z 0 8 (by omega), fun _ j hj => ⟨k0 z _ 3 (by omega), k0 z _ 9 (by omega), k0 z _ 9 (by omega), k0 z _ 9 (by omega)⟩⟩
  · exact text74 TF5 ⟨rfl, by omega, by decide, by omega, fun j hj => ⟨place5, by dsimp only; omega, by dsimp only; omega⟩⟩ (fun _ _ _ _ => trivial) (fun _ p _ => ok_w (bargainLine_ok p) (fun _ h => ⟨h, trivial⟩)) (fun _ _ _ => rfl) (fun _ _ _ => trivial) e2 hs ty r q
theorem text_ok {s : SG} {x y : Int32} (r : RI s) : ok (Rtext s x y) (fun p => RI p.2 ∧ QA s p.2) := by
  unfold Rtext
  refine ok_be (rd_nI (e := 6) rfl (by omega) (by decide)) ?_
  obtain ⟨sz, es, hs⟩ := r.1.2.1
  rw [es]
  refine ok_be (wr_nI (e := 6) rfl (by omega) (by decide)) (ok_be (wr_nI (e := 7) rfl (by omega) (by decide)) (ok_be (wr_nI (e := 8) rfl (by omega) (by decide)) ?_))
  have q : QA s (up (up (up (up s 64 2 (nI sz)) 65 6 0) 65 7 0) 65 8 (-1)) := by
    refine QA_tr (QA_tr (QA_tr (QA_QI (QI_up QI_rfl (by omega) (by omega))) (QA_65 (by omega))) (QA_65 (by omega))) (QA_65 (by omega))
  have b : RB0 (up (up (up (up s 64 2 (nI sz)) 65 6 0) 65 7 0) 65 8 (-1) 65) := by
    refine RB0_of (f := s 65) (fun j hj => ?_) ⟨0, ?_, by omega⟩ r.1
    · rw [up_bn (by omega), up_bn (by omega), up_bn (by omega), up_n (by decide)]
    · rw [up_bn (by decide), up_bn (by decide), up_a]; rfl
  have e2 : up (up (up (up s 64 2 (nI sz)) 65 6 0) 65 7 0) 65 8 (-1) 64 2 = nI sz := by
    rw [up_n (by decide), up_n (by decide), up_n (by decide), up_a]
  generalize up (up (up (up s 64 2 (nI sz)) 65 6 0) 65 7 0) 65 8 (-1) = t at q b e2 ⊢
  have rt : RI t := QA_RI q b r
  refine ok_i (fun _ => ok_s ⟨rt, q⟩) (fun c => ?_)
  obtain ⟨k, ek, hk⟩ := inI_nI (b := 5) (by decide) c
  refine ok_i (fun ey => ?_) (fun ny => ?_)
  · refine ok_be (rd_nI ek (by omega) (by decide)) (ok_i (fun h => ?_) (fun _ => ok_s ⟨rt, q⟩))
    obtain ⟨n, en, hn⟩ := rt.1.1 k (by omega)
    refine textk (by omega) ek e2 hs (Or.inl ⟨ey, n, en, ?_⟩) rt q
    rw [en] at h
    have : n ≠ 2 := fun e => by subst e; exact absurd h (by decide)
    omega
  · refine ok_be (q_isOf ek (by omega)) (ok_i (fun _ => ok_s ⟨rt, q⟩) (fun h => ?_))
    exact textk (by omega) ek e2 hs (Or.inr ⟨ny, isOf_k rt (by omega) h⟩) rt q
end XRO
end
section
section XRP
variable {sc : Nat × (Nat → Int32)} {d : Nat} {K : List KD} {r q t a B m : Nat} {w : EW}
/-! the law: what every call leaves standing -/
def cq (K : List KD) (s : SG) (o : XR) : Prop := ∃ v s2, o = some (some (.inl v), wl K s2) ∧ ∀ c, (c < 42 ∨ 64 ≤ c) → s2 c = s c
def rq (K : List KD) (s : SG) (o : XR) : Prop := ∃ v s2, o = some (some (.inl v), wl K s2) ∧ RI s2 ∧ s2 66 = s 66 ∧ ∀ c, (c < 64 ∨ 72 ≤ c) → s2 c = s c
theorem cq_s {K : List KD} {s : SG} {o : XR} {v : Int32} (h : o = some (some (.inl v), wl K s)) : cq K s o := ⟨v, s, h, fun _ _ => rfl⟩
theorem cq_w {K : List KD} {s s2 : SG} {o : XR} {v : Int32} (h : o = some (some (.inl v), wl K s2)) (f : ∀ c, (c < 42 ∨ 64 ≤ c) → s2 c = s c) : cq K s o := ⟨v, s2, h, f⟩
theorem rq_a {K : List KD} {s : SG} {o : XR} {p : Option (Int32 × SG)} (h : o = oP K p) (k : ok p (fun p => RI p.2 ∧ QA s p.2)) : rq K s o := by
  obtain ⟨a, rfl, r, q⟩ := k
  exact ⟨a.1, a.2, h, r, q.2.1, q.2.2⟩
theorem rq_i {K : List KD} {s : SG} {o : XR} {p : Option (Int32 × SG)} (h : o = oP K p) (r : RI s) (k : ok p (fun p => QI s p.2)) : rq K s o :=
  rq_a h (ok_w k fun _ q => ⟨QI_RI q r, QA_QI q⟩)
theorem rq_v {K : List KD} {s : SG} {o : XR} {p : Option Int32} (h : o = oV p (wl K s)) (r : RI s) (k : ok p (fun _ => True)) : rq K s o := by
  obtain ⟨a, rfl, _⟩ := k
  exact ⟨a, s, h, r, rfl, fun _ _ => rfl⟩
section LW
variable {sc : Nat × (Nat → Int32)} {d : Nat} {K : List KD}
theorem LC_republic {s : SG} {x y : Int32} (h : SH K) (tv : TV s) : cq K s (xN sc (d + 11) 84 [.inr (.inr (.inl (some 0))), .inl x, .inl y] (wl K s)) := by
  rcases repO_c (x := x) h tv with e1 | ⟨r, e1, hr, br, zr⟩
  · skip
    exact cq_s (c_repI_a (d := d + 8) (h := h) (e1 := e1))
  · skip
    exact cq_s (c_repI_b (d := d + 8) (hr := hr) (h := h) (e1 := e1))
theorem LC_minister {s : SG} {x y z : Int32} (h : SH K) (tv : TV s) : cq K s (xN sc (d + 11) 85 [.inr (.inr (.inl (some 0))), .inl x, .inl y, .inl z] (wl K s)) := by
  rcases repO_c (x := x) h tv with e1 | ⟨r, e1, hr, br, zr⟩
  · skip
    exact cq_s (c_mniI_a (d := d + 8) (h := h) (e1 := e1))
  · skip
    exact cq_s (c_mniI_b (d := d + 8) (hr := hr) (h := h) (e1 := e1))
theorem LC_order {s : SG} {x k v : Int32} (h : SH K) (tv : TV s) : cq K s (xN sc (d + 11) 86 [.inr (.inr (.inl (some 0))), .inl x, .inl k, .inl v] (wl K s)) := by
  rcases rowO_c (so := 1) (x := x) h tv with e1 | ⟨q, e1, hq, bq, zq⟩
  · skip
    exact cq_s (c_ordI_a (d := d + 8) (h := h) (e1 := e1))
  · skip
    exact cq_s (c_ordI_b (d := d + 7) (hq := hq) (h := h) (e1 := e1))
theorem LC_deed {s : SG} {x k v : Int32} (h : SH K) (tv : TV s) : cq K s (xN sc (d + 11) 87 [.inr (.inr (.inl (some 0))), .inl x, .inl k, .inl v] (wl K s)) := by
  rcases rowO_c (so := 2) (x := x) h tv with e1 | ⟨q, e1, hq, bq, zq⟩
  · skip
    exact cq_s (c_deeI_a (d := d + 8) (h := h) (e1 := e1))
  · skip
    exact cq_s (c_deeI_b (d := d + 7) (hq := hq) (h := h) (e1 := e1))
theorem LC_leak {s : SG} {x k v : Int32} (h : SH K) (tv : TV s) : cq K s (xN sc (d + 11) 88 [.inr (.inr (.inl (some 0))), .inl x, .inl k, .inl v] (wl K s)) := by
  rcases rowO_c (so := 3) (x := x) h tv with e1 | ⟨q, e1, hq, bq, zq⟩
  · skip
    exact cq_s (c_leaI_a (d := d + 8) (h := h) (e1 := e1))
  · skip
    exact cq_s (c_leaI_b (d := d + 7) (hq := hq) (h := h) (e1 := e1))
theorem LC_was {s : SG} {x k v : Int32} (h : SH K) (tv : TV s) : cq K s (xN sc (d + 11) 89 [.inr (.inr (.inl (some 0))), .inl x, .inl k, .inl v] (wl K s)) := by
  rcases rowO_c (so := 4) (x := x) h tv with e1 | ⟨q, e1, hq, bq, zq⟩
  · skip
    exact cq_s (c_wasI_a (d := d + 8) (h := h) (e1 := e1))
  · skip
    exact cq_s (c_wasI_b (d := d + 7) (hq := hq) (h := h) (e1 := e1))
theorem LC_off {s : SG} {x y se u v z : Int32} (h : SH K) (tv : TV s) : cq K s (xN sc (d + 11) 92 [.inr (.inr (.inl (some 0))), .inl x, .inl y, .inl se, .inl u, .inl v, .inl z] (wl K s)) := by
  rcases movF_c (a := x) (who := y) (se := se) (day := (dayI u v z)) h tv with e1 | ⟨r, e1, hr, br, zr⟩
  · skip
    exact cq_s (c_offI_a (d := d + 7) (h := h) (tv := tv) (e1 := e1))
  · skip
    exact cq_s (c_offI_b (d := d + 7) (hr := hr) (h := h) (tv := tv) (e1 := e1))
theorem LC_vote {s : SG} {x y se u v z g : Int32} (h : SH K) (tv : TV s) : cq K s (xN sc (d + 11) 93 [.inr (.inr (.inl (some 0))), .inl x, .inl y, .inl se, .inl u, .inl v, .inl z, .inl g] (wl K s)) := by
  rcases movF_c (a := x) (who := y) (se := se) (day := (dayI u v z)) h tv with e1 | ⟨r, e1, hr, br, zr⟩
  · skip
    exact cq_s (c_votq_a (d := d + 7) (h := h) (tv := tv) (e1 := e1))
  · skip
    exact cq_s (c_votq_b (d := d + 7) (hr := hr) (h := h) (tv := tv) (e1 := e1) (zr := zr))
theorem LC_broken {s : SG} {x se u v z g : Int32} (h : SH K) (tv : TV s) : cq K s (xN sc (d + 11) 94 [.inr (.inr (.inl (some 0))), .inl x, .inl se, .inl u, .inl v, .inl z, .inl g] (wl K s)) := by
  rcases rowO_c (so := 1) (x := x) h tv with e1 | ⟨q, e1, hq, bq, zq⟩
  · skip
    exact cq_s (c_bkeI_a (d := d + 8) (h := h) (e1 := e1))
  · skip
    exact cq_s (c_bkeI_b (d := d + 6) (hq := hq) (h := h) (e1 := e1) (zq := zq))
theorem LC_stop {s : SG} {x y z : Int32} (h : SH K) (tv : TV s) : cq K s (xN sc (d + 11) 97 [.inr (.inr (.inl (some 0))), .inl x, .inl y, .inl z] (wl K s)) := by
  rcases repO_c (x := x) h tv with e1 | ⟨r, e1, hr, br, zr⟩
  · skip
    exact cq_s (c_stoP_a (d := d + 8) (h := h) (e1 := e1))
  · skip
    rcases rowO_c (so := 1) (x := y) h tv with e2 | ⟨q, e2, hq, bq, zq⟩
    · skip
      exact cq_s (c_stoP_b (d := d + 8) (hr := hr) (h := h) (e1 := e1) (e2 := e2))
    · skip
      rcases rowO_c (so := 2) (x := z) h tv with e3 | ⟨t, e3, ht, bt, zt⟩
      · skip
        exact cq_s (c_stoP_c (d := d + 8) (hr := hr) (hq := hq) (h := h) (e1 := e1) (e2 := e2) (e3 := e3))
      · skip
        exact cq_w (c_stoP_d (d := d + 3) (hr := hr) (hq := hq) (ht := ht) (h := h) (br := br) (bq := bq) (bt := bt) (e1 := e1) (e2 := e2) (e3 := e3) (zr := zr) (zq := zq) (zt := zt)) (fun c hc => stoPd_lo hc)
theorem LC_state {s : SG} {x y z n v : Int32} (h : SH K) (tv : TV s) : cq K s (xN sc (d + 11) 98 [.inr (.inr (.inl (some 0))), .inl x, .inl y, .inl z, .inl n, .inl v] (wl K s)) := by
  rcases repO_c (x := x) h tv with e1 | ⟨r, e1, hr, br, zr⟩
  · skip
    exact cq_s (c_state_a (d := d + 8) (h := h) (e1 := e1))
  · skip
    rcases rowO_c (so := 1) (x := y) h tv with e2 | ⟨q, e2, hq, bq, zq⟩
    · skip
      exact cq_s (c_state_b (d := d + 8) (hr := hr) (h := h) (e1 := e1) (e2 := e2))
    · skip
      rcases rowO_c (so := 2) (x := z) h tv with e3 | ⟨t, e3, ht, bt, zt⟩
      · skip
        exact cq_s (c_state_c (d := d + 8) (hr := hr) (hq := hq) (h := h) (e1 := e1) (e2 := e2) (e3 := e3))
      · skip
        by_cases p1 : n < 0
        · skip
          exact cq_s (c_state_d (d := d + 8) (hr := hr) (hq := hq) (ht := ht) (h := h) (e1 := e1) (e2 := e2) (e3 := e3) (p1 := p1))
        by_cases p2 : n ≤ s t 0
        · obtain ⟨m, hm0, rfl⟩ := nat_of (n := 41) p1 (Int32.lt_of_le_of_lt p2 (by rw [zt.1]; exact nI_lt2 (by have := zt.2; omega) (by decide))) (by decide)
          have hm : m ≤ 1000 := by omega
          exact cq_w (c_state_f (d := d + 3) (hr := hr) (hq := hq) (ht := ht) (h := h) (br := br) (bq := bq) (bt := bt) (e1 := e1) (e2 := e2) (e3 := e3) (zr := zr) (zq := zq) (hm := hm) (p1 := p1) (p2 := p2)) (fun c hc => staP_lo hc)
        · skip
          exact cq_s (c_state_e (d := d + 8) (hr := hr) (hq := hq) (ht := ht) (h := h) (e1 := e1) (e2 := e2) (e3 := e3) (p1 := p1) (p2 := p2))
theorem LC_drawn {s : SG} {x y n v : Int32} (h : SH K) (tv : TV s) : cq K s (xN sc (d + 11) 100 [.inr (.inr (.inl (some 0))), .inl x, .inl y, .inl n, .inl v] (wl K s)) := by
  rcases repO_c (x := x) h tv with e1 | ⟨r, e1, hr, br, zr⟩
  · skip
    exact cq_s (c_drawn_a (d := d + 8) (h := h) (e1 := e1))
  · skip
    by_cases p1 : n < 0
    · skip
      exact cq_s (c_drawn_b (d := d + 8) (hr := hr) (h := h) (e1 := e1) (p1 := p1))
    by_cases p2 : n ≤ 60
    · obtain ⟨m, hm0, rfl⟩ := nat_of (n := 61) p1 (Int32.lt_of_le_of_lt p2 (by decide)) (by decide)
      have hm : m ≤ 1000 := by omega
      exact cq_w (c_drawn_d (d := d + 3) (hr := hr) (h := h) (br := br) (e1 := e1) (zr := zr) (hm := hm) (p1 := p1) (p2 := p2)) (fun c hc => drwP_lo hc)
    · skip
      exact cq_s (c_drawn_c (d := d + 8) (hr := hr) (h := h) (e1 := e1) (p1 := p1) (p2 := p2))
theorem LC_agreed {s : SG} {x y who se v : Int32} (h : SH K) (tv : TV s) : cq K s (xN sc (d + 11) 101 [.inr (.inr (.inl (some 0))), .inl x, .inl y, .inl who, .inl se, .inl v] (wl K s)) := by
  rcases movF_c (a := x) (who := who) (se := se) (day := 0) h tv with e1 | ⟨r, e1, hr, br, zr⟩
  · skip
    exact cq_s (c_agreed_a (d := d + 7) (h := h) (tv := tv) (e1 := e1))
  · skip
    rcases rowO_c (so := 1) (x := y) h tv with e2 | ⟨q, e2, hq, bq, zq⟩
    · skip
      exact cq_w (c_agreed_b (d := d + 5) (hr := hr) (h := h) (br := br) (tv := tv) (e1 := e1) (e2 := e2) (zr := zr)) (fun c hc => agdb_lo hc)
    · skip
      exact cq_w (c_agreed_c (d := d + 4) (hr := hr) (hq := hq) (h := h) (br := br) (bq := bq) (tv := tv) (e1 := e1) (e2 := e2) (zr := zr) (zq := zq)) (fun c hc => agdc_lo hc)
theorem LC_power {s : SG} {x y g : Int32} (h : SH K) (tv : TV s) : cq K s (xN sc (d + 11) 106 [.inr (.inr (.inl (some 0))), .inl x, .inl y, .inl g] (wl K s)) := by
  rcases repO_c (x := x) h tv with e1 | ⟨r, e1, hr, br, zr⟩
  · skip
    exact cq_s (c_powI_a (d := d + 8) (h := h) (e1 := e1))
  · skip
    exact cq_s (c_powI_b (d := d + 7) (hr := hr) (h := h) (e1 := e1) (zr := zr))
theorem LC_coalition {s : SG} {x v : Int32} (h : SH K) (tv : TV s) : cq K s (xN sc (d + 11) 108 [.inr (.inr (.inl (some 0))), .inl x, .inl v] (wl K s)) := by
  rcases repO_c (x := x) h tv with e1 | ⟨r, e1, hr, br, zr⟩
  · skip
    exact cq_s (c_coaI_a (d := d + 8) (h := h) (e1 := e1))
  · skip
    exact cq_s (c_coaI_b (d := d + 6) (hr := hr) (h := h) (e1 := e1) (zr := zr))
theorem LC_bribe {s : SG} {x who se u v z g : Int32} (h : SH K) (tv : TV s) : cq K s (xN sc (d + 11) 112 [.inr (.inr (.inl (some 0))), .inl x, .inl who, .inl se, .inl u, .inl v, .inl z, .inl g] (wl K s)) := by
  rcases movF_c (a := x) (who := who) (se := se) (day := (dayI u v z)) h tv with e1 | ⟨r, e1, hr, br, zr⟩
  · skip
    exact cq_s (c_brbI_a (d := d + 7) (h := h) (tv := tv) (e1 := e1))
  · skip
    exact cq_s (c_brbI_b (d := d + 7) (hr := hr) (h := h) (tv := tv) (e1 := e1) (zr := zr))
theorem LC_lobby {s : SG} {x who se u v z k : Int32} (h : SH K) (tv : TV s) : cq K s (xN sc (d + 11) 114 [.inr (.inr (.inl (some 0))), .inl x, .inl who, .inl se, .inl u, .inl v, .inl z, .inl k] (wl K s)) := by
  rcases movF_c (a := x) (who := who) (se := se) (day := (dayI u v z)) h tv with e1 | ⟨r, e1, hr, br, zr⟩
  · skip
    exact cq_s (c_lobby_a (d := d + 7) (h := h) (tv := tv) (e1 := e1))
  · skip
    exact cq_s (c_lobby_b (d := d + 5) (hr := hr) (h := h) (tv := tv) (e1 := e1) (zr := zr))
theorem LC_bargain {s : SG} {x y v : Int32} (h : SH K) (tv : TV s) : cq K s (xN sc (d + 11) 118 [.inr (.inr (.inl (some 0))), .inl x, .inl y, .inl v] (wl K s)) := by
  rcases repO_c (x := x) h tv with e1 | ⟨r, e1, hr, br, zr⟩
  · skip
    exact cq_s (c_bgnI_a (d := d + 8) (h := h) (e1 := e1))
  · skip
    rcases rowO_c (so := 5) (x := y) h tv with e2 | ⟨q, e2, hq, bq, zq⟩
    · skip
      exact cq_s (c_bgnI_b (d := d + 8) (hr := hr) (h := h) (e1 := e1) (e2 := e2))
    · skip
      exact cq_s (c_bgnI_c (d := d + 6) (hr := hr) (hq := hq) (h := h) (e1 := e1) (e2 := e2) (zr := zr))
theorem LC_nature {s : SG} {x y v : Int32} (h : SH K) (tv : TV s) : cq K s (xN sc (d + 11) 121 [.inr (.inr (.inl (some 0))), .inl x, .inl y, .inl v] (wl K s)) := by
  rcases repO_c (x := x) h tv with e1 | ⟨r, e1, hr, br, zr⟩
  · skip
    exact cq_s (c_natP_a (d := d + 8) (h := h) (e1 := e1))
  · skip
    rcases rowO_c (so := 4) (x := y) h tv with e2 | ⟨q, e2, hq, bq, zq⟩
    · skip
      exact cq_s (c_natP_b (d := d + 8) (hr := hr) (h := h) (e1 := e1) (e2 := e2))
    · skip
      exact cq_w (c_natP_c (d := d + 6) (hr := hr) (hq := hq) (h := h) (br := br) (bq := bq) (e1 := e1) (e2 := e2) (zq := zq)) (fun c hc => natPc_lo hc)
theorem LC_seats {s : SG} {x y v : Int32} (h : SH K) (tv : TV s) : cq K s (xN sc (d + 11) 124 [.inr (.inr (.inl (some 0))), .inl x, .inl y, .inl v] (wl K s)) := by
  rcases repO_c (x := x) h tv with e1 | ⟨r, e1, hr, br, zr⟩
  · skip
    exact cq_s (c_seats_a (d := d + 8) (h := h) (e1 := e1))
  · skip
    rcases rowO_c (so := 4) (x := y) h tv with e2 | ⟨q, e2, hq, bq, zq⟩
    · skip
      exact cq_s (c_seats_b (d := d + 8) (hr := hr) (h := h) (e1 := e1) (e2 := e2))
    · skip
      obtain ⟨m, hm0, ef⟩ := ffi_nat0 (s := s) (r := r) (q := q)
      have hm : m ≤ 1000 := by omega
      exact cq_w (c_seats_c (d := d + 5) (hr := hr) (hq := hq) (h := h) (br := br) (bq := bq) (e1 := e1) (e2 := e2) (zq := zq) (ef := ef) (hm := hm)) (fun c hc => seaP_lo hc)
theorem LC_reshuffle {s : SG} {x g : Int32} (h : SH K) (tv : TV s) : cq K s (xN sc (d + 11) 129 [.inr (.inr (.inl (some 0))), .inl x, .inl g] (wl K s)) := by
  rcases repO_c (x := x) h tv with e1 | ⟨r, e1, hr, br, zr⟩
  · skip
    exact cq_s (c_resI_a (d := d + 8) (h := h) (e1 := e1))
  · skip
    exact cq_s (c_resI_b (d := d + 6) (hr := hr) (h := h) (e1 := e1) (zr := zr))
theorem LC_fits {s : SG} {x y who se v : Int32} (h : SH K) (tv : TV s) : cq K s (xN sc (d + 11) 131 [.inr (.inr (.inl (some 0))), .inl x, .inl y, .inl who, .inl se, .inl v] (wl K s)) := by
  rcases movF_c (a := x) (who := who) (se := se) (day := 0) h tv with e1 | ⟨r, e1, hr, br, zr⟩
  · skip
    exact cq_s (c_fitI_a (d := d + 7) (h := h) (tv := tv) (e1 := e1))
  · skip
    rcases rowO_c (so := 3) (x := y) h tv with e2 | ⟨q, e2, hq, bq, zq⟩
    · skip
      exact cq_s (c_fitI_b (d := d + 7) (hr := hr) (h := h) (tv := tv) (e1 := e1) (e2 := e2))
    · skip
      exact cq_s (c_fitI_c (d := d + 4) (hr := hr) (hq := hq) (h := h) (tv := tv) (e1 := e1) (e2 := e2) (zr := zr) (zq := zq))
end LW
end XRP
end
