section XSB
variable {sc : Nat × (Nat → Int32)} {d : Nat} {K : List KD} {r q t a B m : Nat} {w : EW}
/-! the law: what every call keeps, for any relation P of what is told (the class's at B, the reference's from o on) -/
def wLoc (P : SG → Nat → Nat → Prop) : Prop := ∀ (s t : SG) (B B2 o o2 : Nat), (∀ c j, tD c j → t (B2 + c) j = s (B + c) j) → (∀ j, j < 1442 → t 65 (o2 + j) = s 65 (o + j)) → P s B o → P t B2 o2
def INVP (P : SG → Nat → Nat → Prop) (K : List KD) (s : SG) : Prop := ∃ f, KS K s f ∧ TB s 1 ∧ RI s ∧ (K.length + 41 * nn f = 195 ∧ kSL K + kT * nn f = kSL KZ + kT * 3) ∧ (∀ k, k < 3 → (f k = none ↔ s 66 k = 0)) ∧ (∀ i j C, i < 3 → j < 3 → f i = some C → f j = some C → i = j) ∧ P s 1 0 ∧ ∀ k C, k < 3 → f k = some C → P s C (1442 * (k + 1))
theorem KS_72 {s : SG} {f : Nat → Option Nat} {k C : Nat} (h : KS K s f) (hk : k < 3) (e : f k = some C) : 72 ≤ C := by
  rcases h.2 k hk with q | ⟨D, q, hD, _⟩
  · rw [q] at e; cases e
  · rw [q] at e; cases e; exact hD
theorem INVP_SH {P : SG → Nat → Nat → Prop} {s : SG} (h : INVP P K s) : SH K := by
  obtain ⟨f, ks, _⟩ := h
  exact KS_SH ks
theorem INVP_TB {P : SG → Nat → Nat → Prop} {s : SG} (h : INVP P K s) : TB s 1 := by
  obtain ⟨f, _, tb, _⟩ := h
  exact tb
theorem INVP_RI {P : SG → Nat → Nat → Prop} {s : SG} (h : INVP P K s) : RI s := by
  obtain ⟨f, _, _, r, _⟩ := h
  exact r
theorem INVP_P {P : SG → Nat → Nat → Prop} {s : SG} (h : INVP P K s) : P s 1 0 := by
  obtain ⟨f, _, _, _, _, _, _, p, _⟩ := h
  exact p
/-- a call that tells nothing -/
theorem INVP_q {P : SG → Nat → Nat → Prop} (hP : wLoc P) {s s1 s2 : SG} (h : INVP P K s) (fr : ∀ c, (c < 42 ∨ 64 ≤ c) → s1 c = s c) (q : QI s1 s2) : INVP P K s2 := by
  obtain ⟨f, ks, tb, r, n0, im, inj, p0, pk⟩ := h
  have e : ∀ c, (c < 42 ∨ 72 ≤ c) → s2 c = s c := fun c hc => by rw [q.2.2 c (by omega), fr c (by omega)]
  have e65 : s2 65 = s 65 := by rw [q.1, fr 65 (by omega)]
  have e66 : s2 66 = s 66 := by rw [q.2.1, fr 66 (by omega)]
  refine ⟨f, KS_of (fun c hc => e c (Or.inr hc)) ks, TB_of (fun c _ hc => e c (by omega)) tb, RI_65 e65 r, n0, fun k hk => by rw [e66]; exact im k hk, inj, hP s s2 1 1 0 0 (fun c j hc => ?_) (fun j _ => by rw [e65]) p0, fun k C hk hf => hP s s2 C C _ _ (fun c j hc => ?_) (fun j _ => by rw [e65]) (pk k C hk hf)⟩
  · have := tD_c hc
    rw [e (1 + c) (by omega)]
  · have := KS_72 ks hk hf
    rw [e (C + c) (by omega)]
/-- a call that tells: the class changes what is told below its images, the reference likewise -/
theorem INVP_t {P : SG → Nat → Nat → Prop} (hP : wLoc P) {s s1 s2 : SG} (h : INVP P K s) (tb1 : TB s1 1) (fr : ∀ c, 64 ≤ c → s1 c = s c) (r2 : RI s2) (q : QA s1 s2) (p : P s2 1 0) : INVP P K s2 := by
  obtain ⟨f, ks, tb, r, n0, im, inj, p0, pk⟩ := h
  have e : ∀ c, 72 ≤ c → s2 c = s c := fun c hc => by rw [q.2.2 c (by omega), fr c (by omega)]
  have e66 : s2 66 = s 66 := by rw [q.2.1, fr 66 (by omega)]
  refine ⟨f, KS_of e ks, TB_of (fun c _ hc => q.2.2 c (by omega)) tb1, r2, n0, fun k hk => by rw [e66]; exact im k hk, inj, p, fun k C hk hf => hP s s2 C C _ _ (fun c j hc => ?_) (fun j _ => ?_) (pk k C hk hf)⟩
  · have := KS_72 ks hk hf
    rw [e (C + c) (by omega)]
  · rw [q.1 _ (by omega), fr 65 (by omega)]
section INVC
variable {sc : Nat × (Nat → Int32)} {d : Nat} {K : List KD} {P : SG → Nat → Nat → Prop} {s : SG}
/-- both keep an image, with one answer -/
theorem CE_image {x1 : Int32} (hP : wLoc P) (h : INVP P K s) : ∃ v K1 s1 s2, xN sc (d + 11) 80 [.inr (.inr (.inl (some 0))), .inl x1] (wl K s) = some (some (.inl v), wl K1 s1) ∧ SH K1 ∧ xN sc (d + 11) 281 [.inr (.inr (.inl (some 64))), .inl x1] (wl K1 s1) = some (some (.inl v), wl K1 s2) ∧ INVP P K1 s2 := by
  obtain ⟨f, ks, tb, r, n0, im, inj, p0, pk⟩ := h
  obtain ⟨K1, s1, f1, e1, ks1, fr, cs⟩ := c_imageL (sc := sc) (d := d + 7) (x := x1) ks tb inj
  have hK1 := KS_SH ks1
  have tb1 : TB s1 1 := TB_of (fun c _ hc => fr c (by omega)) tb
  have r1 : RI s1 := RI_65 (fr 65 (by omega)) r
  obtain ⟨p, e2, ep, r2, fr2, cr⟩ := image_ok (s := s1) (x := x1) r1
  have q2 := r_image (sc := sc) (d := d + 9) (s := s1) (x1 := x1) hK1
  rw [e2] at q2
  have q3 : xN sc (d + 11) 281 [.inr (.inr (.inl (some 64))), .inl x1] (wl K1 s1) = some (some (.inl (imgI x1)), wl K1 p.2) := by
    rw [← ep]; exact q2
  refine ⟨imgI x1, K1, s1, p.2, e1, hK1, q3, ?_⟩
  have ks2 : KS K1 p.2 f1 := KS_of (fun c hc => fr2 c (by omega)) ks1
  have tb2 : TB p.2 1 := TB_of (fun c _ hc => fr2 c (by omega)) tb1
  have lo : ∀ c, c < 41 → p.2 (1 + c) = s (1 + c) := fun c hc => by rw [fr2 (1 + c) (by omega), fr (1 + c) (by omega)]
  rcases cs with ⟨z, rfl, rfl, rfl⟩ | ⟨k, hk, ex, z, oth, l1, l2, B, eB, _, cpy, apart⟩
  · rcases cr with ⟨_, e⟩ | ⟨k, hk, ex, _⟩
    · rw [e]; exact ⟨f1, ks, tb, r, n0, im, inj, p0, pk⟩
    · rw [ex] at z; exact absurd z (imgI_k hk)
  · rcases cr with ⟨z2, e⟩ | ⟨k2, hk2, ex2, cur, o2, o3, own, o4⟩
    · rw [z2] at z; exact absurd z (by decide)
    · have hkk : k2 = k := nI_inj (by omega) (by omega) (ex2.symm.trans ex)
      subst hkk
      have ne : ¬ f1 k2 = none := by rw [eB]; exact fun h => nomatch h
      have np := nn_put hk2 oth ne
      have B72 := KS_72 ks1 hk2 eB
      refine ⟨f1, ks2, tb2, r2, ?_, fun j hj => ?_, fun i j C hi hj ei ej => ?_, hP s p.2 1 1 0 0 (fun c j hc => by rw [lo c (tD_c hc)]) (fun j hj => ?_) p0, fun m C hm hf => ?_⟩
      · by_cases w : f k2 = none
        · obtain ⟨q1, q2⟩ := l1 w
          rw [np.1 w, Nat.mul_add, Nat.mul_add] at n0
          exact ⟨by omega, by rw [q2]; omega⟩
        · obtain ⟨q1, q2⟩ := l2 w
          rw [np.2 w] at n0
          exact ⟨by omega, by rw [q2]; omega⟩
      · by_cases w : j = k2
        · subst w
          rw [o3]
          exact ⟨fun h => absurd h ne, fun h => absurd h (by decide)⟩
        · rw [oth j w, o2 j w, fr 66 (by omega)]; exact im j hj
      · by_cases wi : i = k2
        · by_cases wj : j = k2
          · rw [wi, wj]
          · subst wi
            rw [oth j wj] at ej
            rw [eB] at ei; cases ei
            exact absurd rfl (apart j _ hj wj ej).1
        · rw [oth i wi] at ei
          by_cases wj : j = k2
          · subst wj
            rw [eB] at ej; cases ej
            exact absurd rfl (apart i _ hi wi ei).1
          · rw [oth j wj] at ej
            exact inj i j C hi hj ei ej
      · rw [Nat.zero_add, cur j hj, fr 65 (by omega)]
      · by_cases w : m = k2
        · subst w
          rw [eB] at hf; cases hf
          refine hP s p.2 1 B 0 _ (fun c j hc => ?_) (fun j hj => ?_) p0
          · rw [fr2 (B + c) (by omega)]; exact cpy c j hc
          · rw [own j hj, Nat.zero_add, fr 65 (by omega)]
        · rw [oth m w] at hf
          have := KS_72 ks hm hf
          refine hP s p.2 C C _ _ (fun c j hc => ?_) (fun j hj => ?_) (pk m C hm hf)
          · rw [fr2 (C + c) (by omega), (apart m C hm w hf).2 c (tD_c hc)]
          · rw [o4 m hm w j hj, fr 65 (by omega)]
theorem again_k {k : Nat} (hk : k < 3) {s0 : SG} : ∀ (n j z : Nat) (t : SG), QA s0 t → (∀ i, i < j → t 65 i = s0 65 (1442 * (k + 1) + i)) → j + n = 1442 → n ≤ z → ok (Ragain_22 (Ragain_R z) t (nI k) (nI j)) (fun p => p.1 = 1 ∧ QA s0 p.2 ∧ ∀ i, i < 1442 → p.2 65 i = s0 65 (1442 * (k + 1) + i)) := by
  intro n
  induction n with
  | zero =>
    intro j z t qa h hj hz
    unfold Ragain_22
    rw [if_pos (show (1442 : Int32) ≤ nI j from k_ge (m := 1442) hj)]
    exact ok_s ⟨rfl, qa, fun i hi => h i (by omega)⟩
  | succ n ih =>
    intro j z t qa h hj hz
    obtain ⟨z, rfl⟩ : ∃ z', z = z' + 1 := ⟨z - 1, by omega⟩
    unfold Ragain_22
    rw [if_neg (show ¬ (1442 : Int32) ≤ nI j from k_lt (m := 1442) hj (by decide))]
    refine ok_be (rd_nI (e := 1442 * (k + 1) + j) (by show nI 1442 * (nI k + nI 1) + nI j = _; rw [nI_add, nI_mulx, nI_add]) (by omega) (by decide)) (ok_be (wr_nI rfl (by omega) (by decide)) ?_)
    show ok (Ragain_22 (Ragain_R z) (up t 65 j (t 65 (1442 * (k + 1) + j))) (nI k) (nI j + 1)) _
    rw [← nI_succ]
    refine ih (j + 1) z _ (QA_tr qa (QA_65 (by omega))) (fun i hi => ?_) (by omega) (by omega)
    by_cases e : i = j
    · subst e; rw [up_a]; exact qa.1 _ (by omega)
    · rw [up_bn (by omega)]; exact h i (by omega)
theorem again_w {s : SG} {x : Int32} (r : RI s) : ok (Ragain s x) (fun p => RI p.2 ∧ QA s p.2 ∧ ((p.1 = 0 ∧ p.2 = s ∧ ∀ k, k < 3 → x = nI k → s 66 k = 0) ∨ ∃ k, k < 3 ∧ x = nI k ∧ ¬ s 66 k = 0 ∧ p.1 = 1 ∧ ∀ i, i < 1442 → p.2 65 i = s 65 (1442 * (k + 1) + i))) := by
  unfold Ragain
  refine ok_i (fun c => ok_s ⟨r, QA_rfl, Or.inl ⟨rfl, rfl, fun k hk ek => ?_⟩⟩) (fun c => ?_)
  · exfalso
    rw [ek] at c
    rcases (by omega : k = 0 ∨ k = 1 ∨ k = 2) with rfl | rfl | rfl <;> exact absurd c (by decide)
  obtain ⟨k, ek, hk⟩ := inI_nI (b := 2) (by decide) c
  refine ok_be (rd_nI ek (by omega) (by decide)) (ok_i (fun c2 => ok_s ⟨r, QA_rfl, Or.inl ⟨rfl, rfl, fun j hj ej => ?_⟩⟩) (fun c2 => ?_))
  · have : j = k := nI_inj (by omega) (by omega) (ej.symm.trans ek)
    rw [this]; exact c2
  rw [ek]
  refine ok_w (again_k (k := k) (by omega) (s0 := s) 1442 0 xF s QA_rfl (fun i hi => absurd hi (by omega)) rfl (by have := xF_ge; omega)) (fun p hp => ⟨QA_RI hp.2.1 ?_ r, hp.2.1, Or.inr ⟨k, by omega, rfl, c2, hp.1, hp.2.2⟩⟩)
  refine RB0_of (f := fun j => s 65 (1442 * (k + 1) + j)) (fun j hj => hp.2.2 j (by omega)) ?_ (r.2 k (by omega))
  rw [hp.2.2 6 (by omega)]; exact (r.2 k (by omega)).2.1
theorem agaI_k {f : Nat → Option Nat} {k : Nat} (hk : k < 3) : agaI f (nI k) = if (f k).isNone then 0 else 1 := by
  unfold agaI
  rw [if_neg (nI_pos (by omega)), if_neg (show ¬ (3 : Int32) ≤ nI k from Int32.not_le.mpr (nI_lt2 (a := k) (b := 3) (by omega) (by decide))), nI_clamp (by omega)]
theorem agaI_0 {f : Nat → Option Nat} {x : Int32} (h : ∀ k, k < 3 → x = nI k → f k = none) : agaI f x = 0 := by
  by_cases c1 : x < 0
  · unfold agaI; rw [if_pos c1]
  · by_cases c2 : x < nI 3
    · obtain ⟨k, hk, rfl⟩ := nat_of c1 c2 (by decide)
      rw [agaI_k hk, h k hk rfl]; rfl
    · unfold agaI
      rw [if_neg c1, if_pos (show (3 : Int32) ≤ x from Int32.not_lt.mp c2)]
/-- both go back, with one answer -/
theorem CE_again {x1 : Int32} (hP : wLoc P) (h : INVP P K s) : ∃ v s1 s2, xN sc (d + 11) 81 [.inr (.inr (.inl (some 0))), .inl x1] (wl K s) = some (some (.inl v), wl K s1) ∧ xN sc (d + 11) 282 [.inr (.inr (.inl (some 64))), .inl x1] (wl K s1) = some (some (.inl v), wl K s2) ∧ INVP P K s2 := by
  have h0 := h
  obtain ⟨f, ks, tb, r, n0, im, inj, p0, pk⟩ := h
  have hK := KS_SH ks
  have e1 := c_again (sc := sc) (d := d + 7) (s := s) (x := x1) ks
  have tb1 := agaS_TB (x := x1) ks tb
  have fr : ∀ c, 42 ≤ c → agaS s f x1 c = s c := fun c hc => agaS_n hc
  have r1 : RI (agaS s f x1) := RI_65 (fr 65 (by omega)) r
  obtain ⟨p, e2, r2, qa, cr⟩ := again_w (s := agaS s f x1) (x := x1) r1
  have q2 := r_again (sc := sc) (d := d + 9) (s := agaS s f x1) (x1 := x1) hK
  rw [e2] at q2
  have q2 : xN sc (d + 11) 282 [.inr (.inr (.inl (some 64))), .inl x1] (wl K (agaS s f x1)) = some (some (.inl p.1), wl K p.2) := q2
  have ev : p.1 = agaI f x1 ∧ P p.2 1 0 := by
    rcases cr with ⟨z1, z2, z3⟩ | ⟨k, hk, ek, nz, z1, z2⟩
    · have z : agaI f x1 = 0 := agaI_0 (fun k hk ek => (im k hk).2 (by rw [← fr 66 (by omega)]; exact z3 k hk ek))
      refine ⟨z1.trans z.symm, ?_⟩
      have e : agaS s f x1 = s := by unfold agaS; rw [if_pos z]
      rw [z2, e]; exact p0
    · subst ek
      have nf : ¬ f k = none := fun e => nz (by rw [fr 66 (by omega)]; exact (im k hk).1 e)
      obtain ⟨C, eC⟩ : ∃ C, f k = some C := by
        cases e : f k with
        | none => exact absurd e nf
        | some C => exact ⟨C, rfl⟩
      have z : agaI f (nI k) = 1 := by rw [agaI_k hk, eC]; rfl
      refine ⟨z1.trans z.symm, ?_⟩
      have e : agaS s f (nI k) = cpTS s 1 C := by
        unfold agaS
        rw [z, if_neg (by decide), nI_clamp (by omega), eC]
      have C72 := KS_72 ks hk eC
      rw [e] at z2 qa
      refine hP s p.2 C 1 _ 0 (fun c j hc => ?_) (fun j hj => ?_) (pk k C hk eC)
      · have := tD_c hc
        rw [qa.2.2 (1 + c) (by omega)]
        exact cpTS_e (by omega) hc
      · rw [Nat.zero_add, z2 j hj, cpTS_n (by omega)]
  refine ⟨agaI f x1, agaS s f x1, p.2, e1, ?_, INVP_t hP h0 tb1 (fun c hc => fr c (by omega)) r2 qa ev.2⟩
  rw [← ev.1]; exact q2
/-- what a relation has to keep when something is told -/
def PGd (P : SG → Nat → Nat → Prop) : Prop := wLoc P ∧ (∀ (s : SG) (x1 x2 x3 x4 x5 : Int32) (p : Int32 × SG), TB s 1 → RI s → P s 1 0 → Rfeed (feeP s x1 x2 x3 x4 x5).2 x1 x2 x3 x4 x5 = some p → P p.2 1 0) ∧ (∀ (s : SG) (x1 : Int32) (p : Int32 × SG), TB s 1 → RI s → P s 1 0 → Rend (endP s x1).2 x1 = some p → P p.2 1 0) ∧ ∀ (s : SG) (x1 x2 : Int32) (p : Int32 × SG), TB s 1 → RI s → P s 1 0 → Rtext (texP s x1 x2).2 x1 x2 = some p → P p.2 1 0
theorem CQ_feed {x1 x2 x3 x4 x5 : Int32} (hP : PGd P) (h : INVP P K s) : ∃ p s2, xN sc (d + 11) 72 [.inr (.inr (.inl (some 0))), .inl x1, .inl x2, .inl x3, .inl x4, .inl x5] (wl K s) = some (some (.inl (feeP s x1 x2 x3 x4 x5).1), wl K (feeP s x1 x2 x3 x4 x5).2) ∧ xN sc (d + 11) 151 [.inr (.inr (.inl (some 64))), .inl x1, .inl x2, .inl x3, .inl x4, .inl x5] (wl K (feeP s x1 x2 x3 x4 x5).2) = some (some (.inl p), wl K s2) ∧ Rfeed (feeP s x1 x2 x3 x4 x5).2 x1 x2 x3 x4 x5 = some (p, s2) ∧ INVP P K s2 := by
  have hK := INVP_SH h
  have fr : ∀ c, 64 ≤ c → (feeP s x1 x2 x3 x4 x5).2 c = s c := fun c hc => feeP_n (by omega)
  have r1 : RI (feeP s x1 x2 x3 x4 x5).2 := RI_65 (fr 65 (by omega)) (INVP_RI h)
  obtain ⟨p, e2, r2, qa⟩ := feed_ok (x := x1) (y := x2) (z := x3) (u := x4) (v := x5) r1
  have q2 := r_feed (sc := sc) (d := d + 10) (s := (feeP s x1 x2 x3 x4 x5).2) (x1 := x1) (x2 := x2) (x3 := x3) (x4 := x4) (x5 := x5) hK
  rw [e2] at q2
  exact ⟨p.1, p.2, c_feed (sc := sc) (d := d + 8) (s := s) (x := x1) (y := x2) (z := x3) (u := x4) (v := x5) hK, q2, e2, INVP_t hP.1 h (feeP_TB (INVP_TB h)) fr r2 qa (hP.2.1 s x1 x2 x3 x4 x5 p (INVP_TB h) (INVP_RI h) (INVP_P h) e2)⟩
theorem CQ_end {x1 : Int32} (hP : PGd P) (h : INVP P K s) : ∃ p s2, xN sc (d + 11) 74 [.inr (.inr (.inl (some 0))), .inl x1] (wl K s) = some (some (.inl (endP s x1).1), wl K (endP s x1).2) ∧ xN sc (d + 11) 152 [.inr (.inr (.inl (some 64))), .inl x1] (wl K (endP s x1).2) = some (some (.inl p), wl K s2) ∧ Rend (endP s x1).2 x1 = some (p, s2) ∧ INVP P K s2 := by
  have hK := INVP_SH h
  have fr : ∀ c, 64 ≤ c → (endP s x1).2 c = s c := fun c hc => endP_n (by omega)
  have r1 : RI (endP s x1).2 := RI_65 (fr 65 (by omega)) (INVP_RI h)
  obtain ⟨p, e2, r2, qa⟩ := end_ok (x := x1) r1
  have q2 := r_end (sc := sc) (d := d + 10) (s := (endP s x1).2) (x1 := x1) hK
  rw [e2] at q2
  exact ⟨p.1, p.2, c_end (sc := sc) (d := d + 10) (s := s) (n := x1) hK, q2, e2, INVP_t hP.1 h (endP_TB (INVP_TB h)) fr r2 qa (hP.2.2.1 s x1 p (INVP_TB h) (INVP_RI h) (INVP_P h) e2)⟩
theorem CQ_text {x1 x2 : Int32} (hP : PGd P) (h : INVP P K s) : ∃ p s2, xN sc (d + 11) 75 [.inr (.inr (.inl (some 0))), .inl x1, .inl x2] (wl K s) = some (some (.inl (texP s x1 x2).1), wl K (texP s x1 x2).2) ∧ xN sc (d + 11) 185 [.inr (.inr (.inl (some 64))), .inl x1, .inl x2] (wl K (texP s x1 x2).2) = some (some (.inl p), wl K s2) ∧ Rtext (texP s x1 x2).2 x1 x2 = some (p, s2) ∧ INVP P K s2 := by
  have hK := INVP_SH h
  have fr : ∀ c, 64 ≤ c → (texP s x1 x2).2 c = s c := fun c hc => texP_n hc
  have r1 : RI (texP s x1 x2).2 := RI_65 (fr 65 (by omega)) (INVP_RI h)
  obtain ⟨p, e2, r2, qa⟩ := text_ok (x := x1) (y := x2) r1
  have q2 := r_text (sc := sc) (d := d) (s := (texP s x1 x2).2) (x1 := x1) (x2 := x2) hK
  rw [e2] at q2
  exact ⟨p.1, p.2, c_text (sc := sc) (d := d + 1) (s := s) (so := x1) (at_ := x2) hK (INVP_TB h), q2, e2, INVP_t hP.1 h (texP_TB (INVP_TB h)) fr r2 qa (hP.2.2.2 s x1 x2 p (INVP_TB h) (INVP_RI h) (INVP_P h) e2)⟩
end INVC
end XSB
