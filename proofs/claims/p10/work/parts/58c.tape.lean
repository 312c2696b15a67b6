section XSC
variable {sc : Nat × (Nat → Int32)} {d : Nat} {K : List KD} {r q t a B m : Nat} {w : EW}
/-! the tape's length, on both sides -/
def QB (s t : SG) : Prop := t 65 6 = s 65 6 ∧ QA s t
theorem QB_rfl {s : SG} : QB s s := ⟨rfl, QA_rfl⟩
theorem QB_tr {s t u : SG} (h : QB s t) (g : QB t u) : QB s u := ⟨g.1.trans h.1, QA_tr h.2 g.2⟩
section TX
variable {I : SG → Prop} {L : SG → Option SG} {k S : Nat} {P : Nat → Nat} {y1 y2 : Int32} {s : SG}
theorem texl226 (tf : TF I k S P) (tp : TP y1 k S P) {u : SG} (ty : TY y2 k u) (p : ∃ M, PB M u) (i : I u) (r : RI u) (q : QB s u) {z : Nat} (hz : 201 ≤ z) : ok (Rtext_226 (Rtext_R z).1 (Rtext_R z).2 u y1 y2) (fun p => RI p.2 ∧ QB s p.2) := by
  obtain ⟨e1, hk, hS, hS2, hP⟩ := tp
  unfold Rtext_226
  refine ok_be (rd_nI (e := 7) rfl (by omega) (by decide)) (ok_i (fun c7 => ?_) (fun _ => ok_s ⟨r, q⟩))
  have w8 : u 64 8 = 0 := by
    obtain ⟨M, sz, nx, _, _, _, _, h, _⟩ := p
    exact Decidable.byContradiction (fun c => h c c7)
  have go : ∀ (j : Nat) (w : SG), j < 2 → (∀ c, c ≠ 65 → w c = u c) → (∀ x, x ≠ k → w 65 x = u 65 x) → NB (w 65 k) 2 → ok (Rtext_272 (Rtext_R z).1 (Rtext_R z).2 w y1 y2 (nI j) 0) (fun p => RI p.2 ∧ QB s p.2) := by
    intro j w hj hw hx hn
    obtain ⟨hp, hp1, hp2⟩ := hP j hj
    refine ok_w (copy272 (P := P j) hp hS hp2 hS2 (w := w) S 0 z w (fun _ _ => rfl) (fun _ _ => rfl) (fun x hx => absurd hx (by omega)) (by omega) (by omega)) (fun v hv => ?_)
    obtain ⟨h1, h2, h3⟩ := hv
    have qv : QB s v.2 := QB_tr q ⟨by rw [h2 6 (by omega), hx 6 (by omega)], fun x hx2 => by rw [h2 x (by omega), hx x (by omega)], by rw [h1 66 (by decide), hw 66 (by decide)], fun c hc => by rw [h1 c (by omega), hw c (by omega)]⟩
    refine ⟨QA_RI (QA_tr QA_rfl (s := u) ⟨fun x hx2 => by rw [h2 x (by omega), hx x (by omega)], by rw [h1 66 (by decide), hw 66 (by decide)], fun c hc => by rw [h1 c (by omega), hw c (by omega)]⟩) ?_ r, qv⟩
    refine tf (u 65) (v.2 65) u j hj r.1 i w8 ⟨?_, fun x hx2 hne => ?_, fun x hx2 _ ho => ?_⟩ (fun x hx2 => ?_)
    · rw [h2 k (by omega)]; exact hn
    · rw [h2 x (by omega), hx x hne]
    · rw [h2 x ho, hx x (by omega)]
    · rw [h3 x hx2, hw 67 (by decide)]
  rcases ty with ⟨ey, c, ec, hc⟩ | ⟨ny, j, ey, hj⟩
  · rw [if_pos ey]
    refine ok_be (rd_nI (e := k) e1 (by omega) (by decide)) ?_
    rw [ec]
    unfold Rtext_253
    rw [if_pos ey]
    refine ok_be (rd_nI (e := k) e1 (by omega) (by decide)) ?_
    rw [ec]
    refine ok_be (wr_nI (e := k) e1 (by omega) (by decide)) ?_
    exact go c _ hc (fun d hd => up_n hd) (fun x hx => up_bn hx) ⟨c + 1, by rw [up_a, nI_succ], by omega⟩
  · rw [if_neg ny]
    unfold Rtext_253
    rw [if_neg ny]
    have g := go j u hj (fun _ _ => rfl) (fun _ _ => rfl) (r.1.1 k hk)
    rw [← ey] at g
    exact g
theorem texl190 (tf : TF I k S P) (tp : TP y1 k S P) (ti : ∀ t u, SR t u → I t → I u) {u : SG} (ty : TY y2 k u) (p : ∃ M, PB M u) (i : I u) (r : RI u) (q : QB s u) {z : Nat} (hz : 201 ≤ z) : ok (Rtext_190 (Rtext_R z).1 (Rtext_R z).2 u y1 y2) (fun p => RI p.2 ∧ QB s p.2) := by
  have go := texl226 tf tp ty p i r q hz
  unfold Rtext_190
  refine ok_be (rd_nI (e := 7) rfl (by omega) (by decide)) (ok_i (fun c7 => ok_i (fun _ => ?_) (fun _ => go)) (fun _ => go))
  refine ok_be (rd_nI (e := 0) rfl (by omega) (by decide)) (ok_i (fun _ => go) (fun _ => ok_b also_ok (fun v hv => ?_)))
  have f := hv.1.1.2
  have e65 : ∀ x, (x < 6 ∨ 610 ≤ x) → v 65 x = u 65 x := fun x hx => f.1 x (by omega) (by omega)
  have hk := tp.2.1
  have qv : QA u v := ⟨fun x hx => e65 x (by omega), f.2.1 66 (by decide) (by decide) (by decide), fun c hc => f.2.1 c (by omega) (by omega) (by omega)⟩
  refine texl226 tf tp ?_ (PV_SR hv.1 p) (ti _ _ hv.1 i) (QA_RI qv (RB0_of (fun x hx => e65 x (by omega)) ?_ r.1) r) (QB_tr q ⟨f.1 6 (by omega) (by omega), qv⟩) hz
  · rcases ty with ⟨ey, c, ec, hc⟩ | h
    · exact Or.inl ⟨ey, c, by rw [e65 k (by omega)]; exact ec, hc⟩
    · exact Or.inr h
  · rw [f.1 6 (by omega) (by omega)]; exact r.1.2.1
theorem texl98 (tf : TF I k S P) (tp : TP y1 k S P) (ti : ∀ t u, SR t u → I t → I u) (tl : ∀ t, (∃ M, PB M t) → I t → ok (L t) (fun u => LN t u ∧ I u)) (tb : ∀ r98 r272 t, Rtext_113 r98 r272 t y1 y2 y1 = (L t).bind fun u => r98 u y1 y2) : ∀ (n z : Nat) (u : SG), PB n u → TY y2 k u → I u → RI u → QB s u → n + 201 ≤ z → ok (Rtext_98 (Rtext_R z).1 (Rtext_R z).2 u y1 y2) (fun p => RI p.2 ∧ QB s p.2) := by
  intro n
  induction n with
  | zero =>
    intro z u p ty i r q hz
    unfold Rtext_98
    have go := texl190 tf tp ti ty ⟨0, p⟩ i r q (z := z) (by omega)
    refine ok_i (fun w => ok_i (fun _ => go) (fun c5 => ?_)) (fun _ => go)
    obtain ⟨sz, nx, _, _, _, _, _, h⟩ := p
    have := h w
    rw [if_neg c5] at this
    omega
  | succ n ih =>
    intro z u p ty i r q hz
    obtain ⟨z, rfl⟩ : ∃ z', z = z' + 1 := ⟨z - 1, by omega⟩
    unfold Rtext_98
    have go := texl190 tf tp ti ty ⟨_, p⟩ i r q (z := z + 1) (by omega)
    refine ok_i (fun w => ok_i (fun _ => go) (fun c5 => ?_)) (fun _ => go)
    rw [tb]
    refine ok_b (tl u ⟨_, p⟩ i) (fun v hv => ?_)
    have f := hv.1.2
    have e65 : ∀ x, (x < 6 ∨ 610 ≤ x) → v 65 x = u 65 x := fun x hx => f.1 x (by omega) (by omega)
    have hk := tp.2.1
    have qv : QA u v := ⟨fun x hx => e65 x (by omega), f.2.1 66 (by decide) (by decide) (by decide), fun c hc => f.2.1 c (by omega) (by omega) (by omega)⟩
    refine ih z v (hv.1.1 n p) ?_ hv.2 (QA_RI qv (RB0_of (fun x hx => e65 x (by omega)) ?_ r.1) r) (QB_tr q ⟨f.1 6 (by omega) (by omega), qv⟩) (by omega)
    · rcases ty with ⟨ey, c, ec, hc⟩ | h
      · exact Or.inl ⟨ey, c, by rw [e65 k (by omega)]; exact ec, hc⟩
      · exact Or.inr h
    · rw [f.1 6 (by omega) (by omega)]; exact r.1.2.1
theorem texl74 (tf : TF I k S P) (tp : TP y1 k S P) (ti : ∀ t u, SR t u → I t → I u) (tl : ∀ t, (∃ M, PB M t) → I t → ok (L t) (fun u => LN t u ∧ I u)) (tb : ∀ r98 r272 t, Rtext_113 r98 r272 t y1 y2 y1 = (L t).bind fun u => r98 u y1 y2) (t0 : ∀ u : SG, (y1 = 0 → R0 u) → (¬ y1 = 0 → ∀ i, i < 201 → u 67 i = 0) → I u) {t : SG} {sz : Nat} (e2 : t 64 2 = nI sz) (hs : sz ≤ 600) (ty : TY y2 k t) (r : RI t) (q : QB s t) : ok (Rtext_74 (Rtext_R xF).1 (Rtext_R xF).2 t y1 y2) (fun p => RI p.2 ∧ QB s p.2) := by
  unfold Rtext_74
  refine ok_b clears_ok (fun u hu => ?_)
  obtain ⟨h1, h2, h3⟩ := hu
  have i0 := t0 u h2 h3
  have e64 := h1 64 (by decide)
  have p : PB 601 u := by
    refine ⟨sz, 0, ?_, hs, ?_, by omega, fun c => ?_, fun _ => ?_⟩
    · rw [e64, up_bn (by decide), up_bn (by decide), up_bn (by decide)]; exact e2
    · rw [e64, up_bn (by decide), up_bn (by decide), up_a]; rfl
    · rw [e64, up_bn (by decide), up_a] at c; exact absurd rfl c
    · split <;> omega
  have e65 : u 65 = t 65 := by rw [h1 65 (by decide), up_n (by decide), up_n (by decide), up_n (by decide)]
  refine ok_b (advance_ok ⟨_, p⟩) (fun v hv => ?_)
  have f := hv.1.1.2
  have v65 : v 65 = t 65 := by rw [hv.2.2.1, e65]
  have qv : QA t v := ⟨fun x _ => by rw [v65], by rw [f.2.1 66 (by decide) (by decide) (by decide), h1 66 (by decide), up_n (by decide), up_n (by decide), up_n (by decide)], fun c hc => by rw [f.2.1 c (by omega) (by omega) (by omega), h1 c (by omega), up_n (by omega), up_n (by omega), up_n (by omega)]⟩
  refine texl98 tf tp ti tl tb 601 xF v (hv.1.1.1 _ p) ?_ (ti _ _ hv.1 i0) (QA_RI qv (by rw [v65]; exact r.1) r) (QB_tr q ⟨by rw [v65], qv⟩) (by have := xF_ge; omega)
  unfold TY
  rw [v65]; exact ty
end TX
theorem texlk {y1 y2 : Int32} {k sz : Nat} {s t : SG} (hk : k < 6) (e1 : y1 = nI k) (e2 : t 64 2 = nI sz) (hs : sz ≤ 600) (ty : TY y2 k t) (r : RI t) (q : QB s t) : ok (Rtext_74 (Rtext_R xF).1 (Rtext_R xF).2 t y1 y2) (fun p => RI p.2 ∧ QB s p.2) := by
  have hk2 : k = 0 ∨ k = 1 ∨ k = 2 ∨ k = 3 ∨ k = 4 ∨ k = 5 := by omega
  rcases hk2 with rfl | rfl | rfl | rfl | rfl | rfl <;> subst e1
  · exact texl74 TF0 ⟨rfl, by omega, by decide, by omega, fun j hj => ⟨place0, by dsimp only; omega, by dsimp only; omega⟩⟩ (fun _ _ => R0_SR) (fun _ p i => republicLine_ok p i) (fun _ _ _ => rfl) (fun u h _ => h rfl) e2 hs ty r q
  · exact texl74 TF1 ⟨rfl, by omega, by decide, by omega, fun j hj => ⟨place1, by dsimp only; omega, by dsimp only; omega⟩⟩ (fun _ _ => C8_SR) (fun _ p i => orderLine_ok p i) (fun _ _ _ => rfl) (fun u _ h => k0 (h (by decide)) 0 8 (by omega)) e2 hs ty r q
  · refine texl74 TF2 ⟨rfl, by omega, by decide, by omega, fun j hj => ⟨place2, by dsimp only; omega, by dsimp only; omega⟩⟩ (fun _ _ => Y0_SR) (fun _ p i => yearLine_ok p i) (fun _ _ _ => rfl) (fun u _ h => ?_) e2 hs ty r q
    have z := h (by decide)
    exact ⟨k0 z 0 40 (by omega), fun _ j hj => ⟨fun _ => k0 z _ 3 (by omega), fun _ => k0 z _ 2 (by omega)⟩⟩
  · exact texl74 TF3 ⟨rfl, by omega, by decide, by omega, fun j hj => ⟨place3, by dsimp only; omega, by dsimp only; omega⟩⟩ (fun _ _ => C8_SR) (fun _ p i => leakLine_ok p i) (fun _ _ _ => rfl) (fun u _ h => k0 (h (by decide)) 0 8 (by omega)) e2 hs ty r q
  · refine texl74 TF4 ⟨rfl, by omega, by decide, by omega, fun j hj => ⟨place4, by dsimp only; omega, by dsimp only; omega⟩⟩ (fun _ _ => S0_SR) (fun _ p i => summerLine_ok p i) (fun _ _ _ => rfl) (fun u _ h => ?_) e2 hs ty r q
    have z := h (by decide)
    exact ⟨k0 z 0 8 (by omega), fun _ j hj => ⟨k0 z _ 3 (by omega), k0 z _ 9 (by omega), k0 z _ 9 (by omega), k0 z _ 9 (by omega)⟩⟩
  · exact texl74 TF5 ⟨rfl, by omega, by decide, by omega, fun j hj => ⟨place5, by dsimp only; omega, by dsimp only; omega⟩⟩ (fun _ _ _ _ => trivial) (fun _ p _ => ok_w (bargainLine_ok p) (fun _ h => ⟨h, trivial⟩)) (fun _ _ _ => rfl) (fun _ _ _ => trivial) e2 hs ty r q
theorem text_l {s : SG} {x y : Int32} (r : RI s) : ok (Rtext s x y) (fun p => p.2 65 6 = 0) := by
  unfold Rtext
  refine ok_be (rd_nI (e := 6) rfl (by omega) (by decide)) ?_
  obtain ⟨sz, es, hs⟩ := r.1.2.1
  rw [es]
  refine ok_be (wr_nI (e := 6) rfl (by omega) (by decide)) (ok_be (wr_nI (e := 7) rfl (by omega) (by decide)) (ok_be (wr_nI (e := 8) rfl (by omega) (by decide)) ?_))
  have q : QA s (up (up (up (up s 64 2 (nI sz)) 65 6 0) 65 7 0) 65 8 (-1)) := by
    refine QA_tr (QA_tr (QA_tr (QA_QI (QI_up QI_rfl (by omega) (by omega))) (QA_65 (by omega))) (QA_65 (by omega))) (QA_65 (by omega))
  have b : RB0 (up (up (up (up s 64 2 (nI sz)) 65 6 0) 65 7 0) 65 8 (-1) 65) := by
    refine RB0_of (f := s 65) (fun j hj => ?_) ⟨0, ?_, by omega⟩ r.1
    · rw [up_bn (by omega), up_bn (by omega), up_bn (by omega), up_n (by decide)]
    · rw [up_bn (by decide), up_bn (by decide), up_a]; rfl
  have e2 : up (up (up (up s 64 2 (nI sz)) 65 6 0) 65 7 0) 65 8 (-1) 64 2 = nI sz := by
    rw [up_n (by decide), up_n (by decide), up_n (by decide), up_a]
  have e6 : up (up (up (up s 64 2 (nI sz)) 65 6 0) 65 7 0) 65 8 (-1) 65 6 = 0 := by
    rw [up_bn (by decide), up_bn (by decide), up_a]
  generalize up (up (up (up s 64 2 (nI sz)) 65 6 0) 65 7 0) 65 8 (-1) = t at q b e2 e6 ⊢
  have rt : RI t := QA_RI q b r
  refine ok_i (fun _ => ok_s e6) (fun c => ?_)
  obtain ⟨k, ek, hk⟩ := inI_nI (b := 5) (by decide) c
  refine ok_i (fun ey => ?_) (fun ny => ?_)
  · refine ok_be (rd_nI ek (by omega) (by decide)) (ok_i (fun h => ?_) (fun _ => ok_s e6))
    obtain ⟨n, en, hn⟩ := rt.1.1 k (by omega)
    refine ok_w (texlk (by omega) ek e2 hs (Or.inl ⟨ey, n, en, ?_⟩) rt QB_rfl) (fun p h => h.2.1.trans e6)
    rw [en] at h
    have : n ≠ 2 := fun e => by subst e; exact absurd h (by decide)
    omega
  · refine ok_be (q_isOf ek (by omega)) (ok_i (fun _ => ok_s e6) (fun h => ?_))
    exact ok_w (texlk (by omega) ek e2 hs (Or.inr ⟨ny, isOf_k rt (by omega) h⟩) rt QB_rfl) (fun p h => h.2.1.trans e6)
theorem feed_k {y1 y2 y3 y4 y5 : Int32} {l : Nat} (hl : l + 20 ≤ 600) : ∀ (n j z : Nat) (t : SG), t 65 6 = nI (l + j) → j + n = 20 → n ≤ z → ok (Rfeed_21 (Rfeed_R z) t y1 y2 y3 y4 y5 (nI j)) (fun p => p.1 = nI (l + 20) ∧ p.2 65 6 = nI (l + 20)) := by
  intro n
  induction n with
  | zero =>
    intro j z t e hj hz
    unfold Rfeed_21
    rw [if_pos (show (20 : Int32) ≤ nI j from k_ge (m := 20) hj)]
    have e20 : t 65 6 = nI (l + 20) := by rw [e, show l + j = l + 20 by omega]
    exact ok_be (rd_nI (e := 6) rfl (by decide) (by decide)) (ok_s ⟨e20, e20⟩)
  | succ n ih =>
    intro j z t e hj hz
    obtain ⟨z, rfl⟩ : ∃ z', z = z' + 1 := ⟨z - 1, by omega⟩
    have e74 : ∀ v, ok (Rfeed_74 (Rfeed_R (z + 1)) t y1 y2 y3 y4 y5 (nI j) v) (fun p => p.1 = nI (l + 20) ∧ p.2 65 6 = nI (l + 20)) := by
      intro v
      unfold Rfeed_74
      generalize (v >>> (24 - 8 * (nI j - nI j / 4 * 4) &&& 31)) &&& 255 = w
      refine ok_be (rd_nI (e := 6) rfl (by decide) (by decide)) (ok_be (wr_nI (e := 10 + (l + j)) (by rw [e]; show nI 10 + nI (l + j) = _; rw [nI_add]) (by omega) (by decide)) ?_)
      refine ok_be (rd_nI (e := 6) rfl (by decide) (by decide)) (ok_be (wr_nI (e := 6) rfl (by decide) (by decide)) ?_)
      have e6 : up t 65 (10 + (l + j)) w 65 6 = nI (l + j) := by rw [up_bn (by omega)]; exact e
      rw [e6]
      show ok (Rfeed_21 (Rfeed_R z) (up (up t 65 (10 + (l + j)) w) 65 6 (nI (l + j) + 1)) y1 y2 y3 y4 y5 (nI j + 1)) _
      rw [← nI_succ, ← nI_succ]
      exact ih (j + 1) z _ (by rw [up_a]; rfl) (by omega) (by omega)
    unfold Rfeed_21
    rw [if_neg (show ¬ (20 : Int32) ≤ nI j from k_lt (m := 20) hj (by decide))]
    exact ok_i (fun _ => ok_i (fun _ => ok_i (fun _ => ok_i (fun _ => e74 _) (fun _ => e74 _)) (fun _ => e74 _)) (fun _ => e74 _)) (fun _ => e74 _)
theorem le600 {l : Nat} (hl : l ≤ 600) : (nI l + 20 ≤ 600) ↔ l + 20 ≤ 600 := by
  rw [show (nI l + 20 : Int32) = nI (l + 20) from nI_add l 20, Int32.le_iff_toInt_le, nI_toInt (by omega)]
  have : (600 : Int32).toInt = 600 := by decide
  omega
theorem feed_v {s : SG} {x y z u v : Int32} {l : Nat} (e : s 65 6 = nI l) (hl : l ≤ 600) : ok (Rfeed s x y z u v) (fun p => (l + 20 ≤ 600 → p.1 = nI (l + 20) ∧ p.2 65 6 = nI (l + 20)) ∧ (600 < l + 20 → p.1 = -1 ∧ p.2 = s)) := by
  unfold Rfeed
  refine ok_be (rd_nI (e := 6) rfl (by decide) (by decide)) ?_
  rw [e]
  refine ok_i (fun c => ?_) (fun c => ok_s ⟨fun h => absurd ((le600 hl).2 h) c, fun _ => ⟨rfl, rfl⟩⟩)
  have c := (le600 hl).1 c
  exact ok_w (feed_k c 20 0 xF s e rfl (by have := xF_ge; omega)) (fun p hp => ⟨fun _ => hp, fun h => by omega⟩)
theorem feeP_v {s : SG} {x y z u v : Int32} {l : Nat} (e : s 1 1 = nI l) (hl : l ≤ 600) : (l + 20 ≤ 600 → (feeP s x y z u v).1 = nI (l + 20) ∧ (feeP s x y z u v).2 1 1 = nI (l + 20)) ∧ (600 < l + 20 → (feeP s x y z u v).1 = -1 ∧ (feeP s x y z u v).2 = s) := by
  unfold feeP
  rw [e]
  refine ⟨fun h => ?_, fun h => ?_⟩
  · rw [if_pos ((le600 hl).2 h)]
    have q := fdnS_len (x := v) (fdnS_len (x := u) (fdnS_len (x := z) (fdnS_len (x := y) (fdnS_len (x := x) e))))
    exact ⟨q, q⟩
  · rw [if_neg (fun c => by have := (le600 hl).1 c; omega)]
    exact ⟨rfl, rfl⟩
theorem texP_l {s : SG} {so at_ : Int32} : (texP s so at_).2 1 1 = 0 := by
  have h2 : txt2 s so 1 1 = 0 := by
    unfold txt2 txt1
    simp (decide := true) only [up_b]
    rw [redS_lo (by omega)]
    simp (decide := true) only [up_a, up_b]
  unfold texP
  repeat' split
  · show (up (up (up s 1 1 0) 1 2 0) 1 3 (-1)) 1 1 = 0
    simp (decide := true) only [up_a, up_b]
  · show keeS _ _ _ 1 1 = 0
    rw [keeS_n (by omega)]; exact h2
  · exact h2
/-- the tape is as long on both sides -/
def TL (s : SG) (B o : Nat) : Prop := s B 1 = s 65 (o + 6)
theorem TL_loc : wLoc TL := by
  intro s t B B2 o o2 hc hj h
  have e1 := hc 0 1 (Or.inl ⟨rfl, by omega, by omega⟩)
  rw [Nat.add_zero, Nat.add_zero] at e1
  unfold TL at *
  rw [e1, hj 6 (by omega), h]
theorem TB_l {s : SG} (h : TB s 1) : ∃ l, s 1 1 = nI l ∧ l ≤ 600 := by
  obtain ⟨_, _, _, l, h4, h5⟩ := h
  exact ⟨l, h4, h5⟩
/-- what both answer to feed -/
theorem TL_feed {s : SG} {x1 x2 x3 x4 x5 : Int32} {p : Int32 × SG} (tb : TB s 1) (r : RI s) (h : s 1 1 = s 65 6) (e : Rfeed (feeP s x1 x2 x3 x4 x5).2 x1 x2 x3 x4 x5 = some p) : (feeP s x1 x2 x3 x4 x5).1 = p.1 ∧ TL p.2 1 0 := by
  obtain ⟨l, el, hl⟩ := TB_l tb
  have e65 : (feeP s x1 x2 x3 x4 x5).2 65 6 = nI l := by rw [feeP_n (by omega), ← h]; exact el
  have r1 : RI (feeP s x1 x2 x3 x4 x5).2 := RI_65 (feeP_n (by omega)) r
  obtain ⟨a, ea, k1, k2⟩ := feed_v (x := x1) (y := x2) (z := x3) (u := x4) (v := x5) e65 hl
  obtain ⟨b, eb, _, qa⟩ := feed_ok (x := x1) (y := x2) (z := x3) (u := x4) (v := x5) r1
  rw [e] at ea eb; cases ea; cases eb
  obtain ⟨c1, c2⟩ := feeP_v (x := x1) (y := x2) (z := x3) (u := x4) (v := x5) el hl
  unfold TL
  rw [qa.2.2 1 (by omega)]
  rcases Nat.lt_or_ge 600 (l + 20) with g | g
  · refine ⟨(c2 g).1.trans (k2 g).1.symm, ?_⟩
    rw [(k2 g).2]
    show (feeP s x1 x2 x3 x4 x5).2 1 1 = (feeP s x1 x2 x3 x4 x5).2 65 6
    rw [e65, (c2 g).2]; exact el
  · exact ⟨(c1 g).1.trans (k1 g).1.symm, (c1 g).2.trans (k1 g).2.symm⟩
theorem TL_end {s : SG} {x1 : Int32} {p : Int32 × SG} (h : s 1 1 = s 65 6) (e : Rend (endP s x1).2 x1 = some p) : (endP s x1).1 = p.1 ∧ TL p.2 1 0 := by
  have e65 : (endP s x1).2 65 = s 65 := endP_n (by omega)
  have rd : rdI (endP s x1).2 65 5768 6 = some (s 65 6) := by rw [rd_nI (x := 6) (e := 6) rfl (by decide) (by decide), e65]
  have wr : wrI (endP s x1).2 65 5768 6 x1 = some (up (endP s x1).2 65 6 x1) := wr_nI (e := 6) rfl (by decide) (by decide)
  unfold Rend at e
  rw [rd, wr] at e
  unfold endP at e ⊢
  unfold TL
  by_cases c1 : x1 < 0
  · simp only [if_pos c1] at e ⊢
    cases e
    exact ⟨rfl, h⟩
  · by_cases c2 : x1 ≤ s 65 6
    · simp only [if_neg c1, h, if_pos c2, Option.bind_some] at e ⊢
      cases e
      refine ⟨rfl, ?_⟩
      show up (up s 1 1 x1) 65 6 x1 1 1 = up (up s 1 1 x1) 65 6 x1 65 6
      rw [up_a, up_n (by decide), up_a]
    · simp only [if_neg c1, h, if_neg c2, Option.bind_some] at e ⊢
      cases e
      exact ⟨rfl, h⟩
theorem TL_gd : PGd TL := by
  refine ⟨TL_loc, fun s x1 x2 x3 x4 x5 p tb r h e => (TL_feed tb r h e).2, fun s x1 p _ _ h e => (TL_end h e).2, fun s x1 x2 p tb r h e => ?_⟩
  have r1 : RI (texP s x1 x2).2 := RI_65 (texP_n (by omega)) r
  obtain ⟨a, ea, k1⟩ := text_l (x := x1) (y := x2) r1
  obtain ⟨b, eb, _, qa⟩ := text_ok (x := x1) (y := x2) r1
  rw [e] at ea eb; cases ea; cases eb
  unfold TL
  rw [qa.2.2 1 (by omega)]
  exact texP_l.trans k1.symm
end XSC
