section XRN
variable {sc : Nat × (Nat → Int32)} {d : Nat} {K : List KD} {r q t a B m : Nat} {w : EW}
/-! the reference: a told thing -/
theorem RR_of {f g : Nat → Int32} {r r2 : Nat} (e : ∀ i, i < 118 → g (r2 + i) = f (r + i)) (h : RR f r) : RR g r2 := by
  refine ⟨?_, ?_, ?_, fun m i hm hi => ?_⟩
  · have := e 0 (by omega)
    rw [Nat.add_zero, Nat.add_zero] at this
    rw [this]; exact h.1
  · rw [e 3 (by omega)]; exact h.2.1
  · rw [e 4 (by omega)]; exact h.2.2.1
  · rw [show r2 + 16 + 18 * m + i = r2 + (16 + 18 * m + i) by omega, e _ (by omega), show r + (16 + 18 * m + i) = r + 16 + 18 * m + i by omega]
    exact h.2.2.2 m i hm hi
theorem RYd_of {f g : Nat → Int32} {r r2 : Nat} (e : ∀ i, i < 201 → g (r2 + i) = f (r + i)) (h : RYd f r) : RYd g r2 := by
  refine ⟨?_, fun j hj => ?_⟩
  · have := e 0 (by omega)
    rw [Nat.add_zero, Nat.add_zero] at this
    rw [this]; exact h.1
  · rw [show r2 + 1 + 5 * j + 1 = r2 + (1 + 5 * j + 1) by omega, show r2 + 1 + 5 * j = r2 + (1 + 5 * j) by omega, e _ (by omega), e _ (by omega), show r + (1 + 5 * j + 1) = r + 1 + 5 * j + 1 by omega, show r + (1 + 5 * j) = r + 1 + 5 * j by omega]
    exact h.2 j hj
theorem RSu_of {f g : Nat → Int32} {r r2 : Nat} (e : ∀ i, i < 33 → g (r2 + i) = f (r + i)) (h : RSu f r) : RSu g r2 := by
  have key : ∀ j a, j < 8 → a < 4 → g (r2 + 1 + 4 * j + a) = f (r + 1 + 4 * j + a) := by
    intro j a hj ha
    rw [show r2 + 1 + 4 * j + a = r2 + (1 + 4 * j + a) by omega, e _ (by omega), show r + (1 + 4 * j + a) = r + 1 + 4 * j + a by omega]
  refine ⟨?_, fun j hj => ⟨?_, ?_, ?_, ?_⟩⟩
  · have := e 0 (by omega)
    rw [Nat.add_zero, Nat.add_zero] at this
    rw [this]; exact h.1
  · have := key j 0 hj (by omega)
    rw [Nat.add_zero, Nat.add_zero] at this
    rw [this]; exact (h.2 j hj).1
  · rw [key j 1 hj (by omega)]; exact (h.2 j hj).2.1
  · rw [key j 2 hj (by omega)]; exact (h.2 j hj).2.2.1
  · rw [key j 3 hj (by omega)]; exact (h.2 j hj).2.2.2
def GF (f g : Nat → Int32) (k P S : Nat) : Prop := NB (g k) 2 ∧ (∀ i, i < 7 → i ≠ k → g i = f i) ∧ ∀ i, 610 ≤ i → i < 1442 → (i < P ∨ P + S ≤ i) → g i = f i
theorem GF_RB0 {f g : Nat → Int32} {k P S : Nat} (hk : k < 6) (h : RB0 f) (q : GF f g k P S)
    (h0 : ∀ b, b < 2 → ¬ (610 + 118 * b + 118 ≤ P ∨ P + S ≤ 610 + 118 * b) → RR g (610 + 118 * b))
    (h1 : ∀ b, b < 2 → ¬ (846 + 41 * b + 41 ≤ P ∨ P + S ≤ 846 + 41 * b) → NB (g (846 + 41 * b)) 8)
    (h2 : ∀ b, b < 2 → ¬ (928 + 201 * b + 201 ≤ P ∨ P + S ≤ 928 + 201 * b) → RYd g (928 + 201 * b))
    (h3 : ∀ b, b < 2 → ¬ (1330 + 17 * b + 17 ≤ P ∨ P + S ≤ 1330 + 17 * b) → NB (g (1330 + 17 * b)) 8)
    (h4 : ∀ b, b < 2 → ¬ (1364 + 33 * b + 33 ≤ P ∨ P + S ≤ 1364 + 33 * b) → RSu g (1364 + 33 * b)) : RB0 g := by
  refine ⟨fun i hi => ?_, ?_, fun b hb => ?_⟩
  · by_cases e : i = k
    · subst e; exact q.1
    · rw [q.2.1 i (by omega) e]; exact h.1 i hi
  · rw [q.2.1 6 (by omega) (by omega)]; exact h.2.1
  obtain ⟨a0, a1, a2, a3, a4⟩ := h.2.2 b hb
  refine ⟨?_, ?_, ?_, ?_, ?_⟩
  · by_cases c : 610 + 118 * b + 118 ≤ P ∨ P + S ≤ 610 + 118 * b
    · exact RR_of (fun i hi => q.2.2 _ (by omega) (by omega) (by omega)) a0
    · exact h0 b hb c
  · by_cases c : 846 + 41 * b + 41 ≤ P ∨ P + S ≤ 846 + 41 * b
    · rw [q.2.2 _ (by omega) (by omega) (by omega)]; exact a1
    · exact h1 b hb c
  · by_cases c : 928 + 201 * b + 201 ≤ P ∨ P + S ≤ 928 + 201 * b
    · exact RYd_of (fun i hi => q.2.2 _ (by omega) (by omega) (by omega)) a2
    · exact h2 b hb c
  · by_cases c : 1330 + 17 * b + 17 ≤ P ∨ P + S ≤ 1330 + 17 * b
    · rw [q.2.2 _ (by omega) (by omega) (by omega)]; exact a3
    · exact h3 b hb c
  · by_cases c : 1364 + 33 * b + 33 ≤ P ∨ P + S ≤ 1364 + 33 * b
    · exact RSu_of (fun i hi => q.2.2 _ (by omega) (by omega) (by omega)) a4
    · exact h4 b hb c
theorem copy272 {y1 y2 : Int32} {j P S : Nat} (hP : RplaceOf y1 (nI j) = nI P) (hS : RsizeOf y1 = nI S) (hb : P + S ≤ 1442) (hS2 : S ≤ 201) {w : SG} : ∀ (n i z : Nat) (t : SG), (∀ c, c ≠ 65 → t c = w c) → (∀ x, (x < P ∨ P + S ≤ x) → t 65 x = w 65 x) → (∀ x, x < i → t 65 (P + x) = w 67 x) → i + n = S → n ≤ z → ok (Rtext_272 (Rtext_R z).1 (Rtext_R z).2 t y1 y2 (nI j) (nI i)) (fun p => (∀ c, c ≠ 65 → p.2 c = w c) ∧ (∀ x, (x < P ∨ P + S ≤ x) → p.2 65 x = w 65 x) ∧ ∀ x, x < S → p.2 65 (P + x) = w 67 x) := by
  intro n
  induction n with
  | zero =>
    intro i z t a b c hi hz
    unfold Rtext_272
    rw [hS, if_pos (k_ge hi)]
    exact ok_s ⟨a, b, fun x hx => c x (by omega)⟩
  | succ n ih =>
    intro i z t a b c hi hz
    obtain ⟨z, rfl⟩ : ∃ z', z = z' + 1 := ⟨z - 1, by omega⟩
    unfold Rtext_272
    rw [hS, if_neg (k_lt hi (by omega))]
    refine ok_be (rd_nI (e := i) rfl (by omega) (by decide)) (ok_be (wr_nI (e := P + i) (by rw [hP, nI_add]) (by omega) (by decide)) ?_)
    show ok (Rtext_272 (Rtext_R z).1 (Rtext_R z).2 (up t 65 (P + i) (t 67 i)) y1 y2 (nI j) (nI i + 1)) _
    rw [← nI_succ]
    refine ih (i + 1) z _ (fun d hd => by rw [up_n hd]; exact a d hd) (fun x hx => by rw [up_bn (by omega)]; exact b x hx) (fun x hx => ?_) (by omega) (by omega)
    by_cases e : x = i
    · subst e; rw [up_a, a 67 (by decide)]
    · rw [up_bn (by omega)]; exact c x (by omega)
section TX
variable {I : SG → Prop} {L : SG → Option SG} {k S : Nat} {P : Nat → Nat} {y1 y2 : Int32} {s : SG}
def TF (I : SG → Prop) (k S : Nat) (P : Nat → Nat) : Prop := ∀ (f g : Nat → Int32) (u : SG) (j : Nat), j < 2 → RB0 f → I u → u 64 8 = 0 → GF f g k (P j) S → (∀ i, i < S → g (P j + i) = u 67 i) → RB0 g
def TP (y1 : Int32) (k S : Nat) (P : Nat → Nat) : Prop := y1 = nI k ∧ k < 6 ∧ RsizeOf y1 = nI S ∧ S ≤ 201 ∧ ∀ j, j < 2 → RplaceOf y1 (nI j) = nI (P j) ∧ 610 ≤ P j ∧ P j + S ≤ 1442
def TY (y2 : Int32) (k : Nat) (u : SG) : Prop := (y2 = -1 ∧ ∃ c, u 65 k = nI c ∧ c < 2) ∨ (¬ y2 = -1 ∧ ∃ j, y2 = nI j ∧ j < 2)
theorem text226 (tf : TF I k S P) (tp : TP y1 k S P) {u : SG} (ty : TY y2 k u) (p : ∃ M, PB M u) (i : I u) (r : RI u) (q : QA s u) {z : Nat} (hz : 201 ≤ z) : ok (Rtext_226 (Rtext_R z).1 (Rtext_R z).2 u y1 y2) (fun p => RI p.2 ∧ QA s p.2) := by
  obtain ⟨e1, hk, hS, hS2, hP⟩ := tp
  unfold Rtext_226
  refine ok_be (rd_nI (e := 7) rfl (by omega) (by decide)) (ok_i (fun c7 => ?_) (fun _ => ok_s ⟨r, q⟩))
  have w8 : u 64 8 = 0 := by
    obtain ⟨M, sz, nx, _, _, _, _, h, _⟩ := p
    exact Decidable.byContradiction (fun c => h c c7)
  have go : ∀ (j : Nat) (w : SG), j < 2 → (∀ c, c ≠ 65 → w c = u c) → (∀ x, x ≠ k → w 65 x = u 65 x) → NB (w 65 k) 2 → ok (Rtext_272 (Rtext_R z).1 (Rtext_R z).2 w y1 y2 (nI j) 0) (fun p => RI p.2 ∧ QA s p.2) := by
    intro j w hj hw hx hn
    obtain ⟨hp, hp1, hp2⟩ := hP j hj
    refine ok_w (copy272 (P := P j) hp hS hp2 hS2 (w := w) S 0 z w (fun _ _ => rfl) (fun _ _ => rfl) (fun x hx => absurd hx (by omega)) (by omega) (by omega)) (fun v hv => ?_)
    obtain ⟨h1, h2, h3⟩ := hv
    have qv : QA s v.2 := QA_tr q ⟨fun x hx2 => by rw [h2 x (by omega), hx x (by omega)], by rw [h1 66 (by decide), hw 66 (by decide)], fun c hc => by rw [h1 c (by omega), hw c (by omega)]⟩
    refine ⟨QA_RI (QA_tr QA_rfl (s := u) ⟨fun x hx2 => by rw [h2 x (by omega), hx x (by omega)], by rw [h1 66 (by decide), hw 66 (by decide)], fun c hc => by rw [h1 c (by omega), hw c (by omega)]⟩) ?_ r, qv⟩
    refine tf (u 65) (v.2 65) u j hj r.1 i w8 ⟨?_, fun x hx2 hne => ?_, fun x hx2 _ ho => ?_⟩ (fun x hx2 => ?_)
    · rw [h2 k (by omega)]; exact hn
    · rw [h2 x (by omega), hx x hne]
    · rw [h2 x ho, hx x (by omega)]
    · rw [h3 x hx2, hw 67 (by decide)]
  rcases ty with ⟨ey, c, ec, hc⟩ | ⟨ny, j, ey, hj⟩
  · rw [if_pos ey]
    refine ok_be (rd_nI (e := k) e1 (by omega) (by decide)) ?_
    rw [ec]
    unfold Rtext_253
    rw [if_pos ey]
    refine ok_be (rd_nI (e := k) e1 (by omega) (by decide)) ?_
    rw [ec]
    refine ok_be (wr_nI (e := k) e1 (by omega) (by decide)) ?_
    exact go c _ hc (fun d hd => up_n hd) (fun x hx => up_bn hx) ⟨c + 1, by rw [up_a, nI_succ], by omega⟩
  · rw [if_neg ny]
    unfold Rtext_253
    rw [if_neg ny]
    have g := go j u hj (fun _ _ => rfl) (fun _ _ => rfl) (r.1.1 k hk)
    rw [← ey] at g
    exact g
theorem text190 (tf : TF I k S P) (tp : TP y1 k S P) (ti : ∀ t u, SR t u → I t → I u) {u : SG} (ty : TY y2 k u) (p : ∃ M, PB M u) (i : I u) (r : RI u) (q : QA s u) {z : Nat} (hz : 201 ≤ z) : ok (Rtext_190 (Rtext_R z).1 (Rtext_R z).2 u y1 y2) (fun p => RI p.2 ∧ QA s p.2) := by
  have go := text226 tf tp ty p i r q hz
  unfold Rtext_190
  refine ok_be (rd_nI (e := 7) rfl (by omega) (by decide)) (ok_i (fun c7 => ok_i (fun _ => ?_) (fun _ => go)) (fun _ => go))
  refine ok_be (rd_nI (e := 0) rfl (by omega) (by decide)) (ok_i (fun _ => go) (fun _ => ok_b also_ok (fun v hv => ?_)))
  have f := hv.1.1.2
  have e65 : ∀ x, (x < 6 ∨ 610 ≤ x) → v 65 x = u 65 x := fun x hx => f.1 x (by omega) (by omega)
  have hk := tp.2.1
  have qv : QA u v := ⟨fun x hx => e65 x (by omega), f.2.1 66 (by decide) (by decide) (by decide), fun c hc => f.2.1 c (by omega) (by omega) (by omega)⟩
  refine text226 tf tp ?_ (PV_SR hv.1 p) (ti _ _ hv.1 i) (QA_RI qv (RB0_of (fun x hx => e65 x (by omega)) ?_ r.1) r) (QA_tr q qv) hz
  · rcases ty with ⟨ey, c, ec, hc⟩ | h
    · exact Or.inl ⟨ey, c, by rw [e65 k (by omega)]; exact ec, hc⟩
    · exact Or.inr h
  · rw [f.1 6 (by omega) (by omega)]; exact r.1.2.1
theorem text98 (tf : TF I k S P) (tp : TP y1 k S P) (ti : ∀ t u, SR t u → I t → I u) (tl : ∀ t, (∃ M, PB M t) → I t → ok (L t) (fun u => LN t u ∧ I u)) (tb : ∀ r98 r272 t, Rtext_113 r98 r272 t y1 y2 y1 = (L t).bind fun u => r98 u y1 y2) : ∀ (n z : Nat) (u : SG), PB n u → TY y2 k u → I u → RI u → QA s u → n + 201 ≤ z → ok (Rtext_98 (Rtext_R z).1 (Rtext_R z).2 u y1 y2) (fun p => RI p.2 ∧ QA s p.2) := by
  intro n
  induction n with
  | zero =>
    intro z u p ty i r q hz
    unfold Rtext_98
    have go := text190 tf tp ti ty ⟨0, p⟩ i r q (z := z) (by omega)
    refine ok_i (fun w => ok_i (fun _ => go) (fun c5 => ?_)) (fun _ => go)
    obtain ⟨sz, nx, _, _, _, _, _, h⟩ := p
    have := h w
    rw [if_neg c5] at this
    omega
  | succ n ih =>
    intro z u p ty i r q hz
    obtain ⟨z, rfl⟩ : ∃ z', z = z' + 1 := ⟨z - 1, by omega⟩
    unfold Rtext_98
    have go := text190 tf tp ti ty ⟨_, p⟩ i r q (z := z + 1) (by omega)
    refine ok_i (fun w => ok_i (fun _ => go) (fun c5 => ?_)) (fun _ => go)
    rw [tb]
    refine ok_b (tl u ⟨_, p⟩ i) (fun v hv => ?_)
    have f := hv.1.2
    have e65 : ∀ x, (x < 6 ∨ 610 ≤ x) → v 65 x = u 65 x := fun x hx => f.1 x (by omega) (by omega)
    have hk := tp.2.1
    have qv : QA u v := ⟨fun x hx => e65 x (by omega), f.2.1 66 (by decide) (by decide) (by decide), fun c hc => f.2.1 c (by omega) (by omega) (by omega)⟩
    refine ih z v (hv.1.1 n p) ?_ hv.2 (QA_RI qv (RB0_of (fun x hx => e65 x (by omega)) ?_ r.1) r) (QA_tr q qv) (by omega)
    · rcases ty with ⟨ey, c, ec, hc⟩ | h
      · exact Or.inl ⟨ey, c, by rw [e65 k (by omega)]; exact ec, hc⟩
      · exact Or.inr h
    · rw [f.1 6 (by omega) (by omega)]; exact r.1.2.1
theorem text74 (tf : TF I k S P) (tp : TP y1 k S P) (ti : ∀ t u, SR t u → I t → I u) (tl : ∀ t, (∃ M, PB M t) → I t → ok (L t) (fun u => LN t u ∧ I u)) (tb : ∀ r98 r272 t, Rtext_113 r98 r272 t y1 y2 y1 = (L t).bind fun u => r98 u y1 y2) (t0 : ∀ u : SG, (y1 = 0 → R0 u) → (¬ y1 = 0 → ∀ i, i < 201 → u 67 i = 0) → I u) {t : SG} {sz : Nat} (e2 : t 64 2 = nI sz) (hs : sz ≤ 600) (ty : TY y2 k t) (r : RI t) (q : QA s t) : ok (Rtext_74 (Rtext_R xF).1 (Rtext_R xF).2 t y1 y2) (fun p => RI p.2 ∧ QA s p.2) := by
  unfold Rtext_74
  refine ok_b clears_ok (fun u hu => ?_)
  obtain ⟨h1, h2, h3⟩ := hu
  have i0 := t0 u h2 h3
  have e64 := h1 64 (by decide)
  have p : PB 601 u := by
    refine ⟨sz, 0, ?_, hs, ?_, by omega, fun c => ?_, fun _ => ?_⟩
    · rw [e64, up_bn (by decide), up_bn (by decide), up_bn (by decide)]; exact e2
    · rw [e64, up_bn (by decide), up_bn (by decide), up_a]; rfl
    · rw [e64, up_bn (by decide), up_a] at c; exact absurd rfl c
    · split <;> omega
  have e65 : u 65 = t 65 := by rw [h1 65 (by decide), up_n (by decide), up_n (by decide), up_n (by decide)]
  refine ok_b (advance_ok ⟨_, p⟩) (fun v hv => ?_)
  have f := hv.1.1.2
  have v65 : v 65 = t 65 := by rw [hv.2.2.1, e65]
  have qv : QA t v := ⟨fun x _ => by rw [v65], by rw [f.2.1 66 (by decide) (by decide) (by decide), h1 66 (by decide), up_n (by decide), up_n (by decide), up_n (by decide)], fun c hc => by rw [f.2.1 c (by omega) (by omega) (by omega), h1 c (by omega), up_n (by omega), up_n (by omega), up_n (by omega)]⟩
  refine text98 tf tp ti tl tb 601 xF v (hv.1.1.1 _ p) ?_ (ti _ _ hv.1 i0) (QA_RI qv (by rw [v65]; exact r.1) r) (QA_tr q qv) (by have := xF_ge; omega)
  unfold TY
  rw [v65]; exact ty
end TX
end XRN
