section XRJ
variable {sc : Nat × (Nat → Int32)} {d : Nat} {K : List KD} {r q t a B m : Nat} {w : EW}
/-! the reference: decades, the tape, images -/
theorem shr16 (u : UInt32) : ∃ x, x < 65536 ∧ (u >>> (Int32.toUInt32 16 &&& Int32.toUInt32 31)).toInt32 = nI x := by
  have e : (Int32.toUInt32 16 &&& Int32.toUInt32 31) = 16 := by decide
  rw [e]
  have h : (u >>> 16).toNat = u.toNat / 65536 := by
    rw [UInt32.toNat_shiftRight, Nat.shiftRight_eq_div_pow]
    rfl
  have hl : (u >>> 16).toNat < 65536 := by
    rw [h]
    have := u.toNat_lt
    omega
  refine ⟨(u >>> 16).toNat, hl, ?_⟩
  apply Int32.toInt_inj.mp
  rw [nI_toInt (by omega)]
  show (u >>> 16).toBitVec.toInt = _
  have hb : (u >>> 16).toBitVec.toNat = (u >>> 16).toNat := rfl
  rw [BitVec.toInt_eq_toNat_of_lt (by rw [hb]; omega), hb]
theorem below_ok {t : SG} {n : Nat} {x : Int32} (ex : x = nI n) (h0 : 0 < n) (hn : n ≤ 40000) : ok (Rbelow t x) (fun p => (∃ k, p.1 = nI k ∧ k < n) ∧ QI t p.2 ∧ ∀ j, j ≠ 34 → p.2 64 j = t 64 j) := by
  subst ex
  unfold Rbelow
  rw [if_neg (fun h => by have := nI_inj (by omega) (by decide : (0 : Nat) < 2 ^ 31) h; omega)]
  obtain ⟨x, hx, ex⟩ := shr16 (Int32.toUInt32 (t 64 34 * 1103515245 + 12345))
  rw [ex]
  refine ok_s ⟨⟨x % n, nI_mod (by omega) h0 (by omega), Nat.mod_lt _ h0⟩, QI_up QI_rfl (by omega) (by omega), fun j hj => (up_bn hj : up t 64 34 (t 64 34 * 1103515245 + 12345) 64 j = t 64 j)⟩
def thL (x : Int32) : Nat → Int32 → Nat → Option Nat
  | 0, _, _ => none
  | n + 1, y, m => if (x >>> (nI m &&& 31)) &&& 1 = 0 then thL x n (y - ((x >>> (nI m &&& 31)) &&& 1)) (m + 1) else if y ≤ 0 then some m else thL x n (y - ((x >>> (nI m &&& 31)) &&& 1)) (m + 1)
theorem thereAt_l {t : SG} {y1 : Int32} : ∀ (n m k r : Nat) (y : Int32), thL (t 64 18) n y m = some r → n ≤ k → RthereAt_4 (RthereAt_R k) t y1 y (nI m) = some (nI r) := by
  intro n
  induction n with
  | zero => intro m k r y h; cases h
  | succ n ih =>
    intro m k r y h hk
    obtain ⟨k, rfl⟩ : ∃ k', k = k' + 1 := ⟨k - 1, by omega⟩
    have next : thL (t 64 18) n (y - ((t 64 18 >>> (nI m &&& 31)) &&& 1)) (m + 1) = some r → RthereAt_19 (RthereAt_R (k + 1)) t y1 y (nI m) = some (nI r) := by
      intro h2
      unfold RthereAt_19
      show RthereAt_4 (RthereAt_R k) t y1 _ (nI m + 1) = _
      rw [← nI_succ]
      exact ih (m + 1) k r _ h2 (by omega)
    rw [thL] at h
    unfold RthereAt_4
    by_cases c1 : (t 64 18 >>> (nI m &&& 31)) &&& 1 = 0
    · rw [if_pos c1] at h
      rw [if_pos c1]; exact next h
    · rw [if_neg c1] at h
      rw [if_neg c1]
      by_cases c2 : y ≤ 0
      · rw [if_pos c2] at h
        rw [if_pos c2]
        cases h; rfl
      · rw [if_neg c2] at h
        rw [if_neg c2]; exact next h
theorem th_all0 : ((List.range 64).all fun a => (List.range 7).all fun k => (List.range 7).all fun b => !(bsL (nI a) 31 0 0 == nI b) || !(decide (k < b)) || (match thL (nI a) 6 (nI k) 0 with
    | some m => decide (m < 6)
    | none => false)) = true := by decide +kernel
theorem th_all (a : Nat) (ha : a < 64) (k : Nat) (hk : k < 7) (b : Nat) (hb : b < 7) (e : bsL (nI a) 31 0 0 = nI b) (hkb : k < b) : ∃ m, m < 6 ∧ thL (nI a) 6 (nI k) 0 = some m := by
  have h := List.all_eq_true.mp (List.all_eq_true.mp (List.all_eq_true.mp th_all0 a (List.mem_range.mpr ha)) k (List.mem_range.mpr hk)) b (List.mem_range.mpr hb)
  have e1 : (bsL (nI a) 31 0 0 == nI b) = true := by rw [e]; exact beq_self_eq_true _
  rw [e1, decide_eq_true hkb] at h
  simp only [Bool.not_true, Bool.false_or] at h
  cases g : thL (nI a) 6 (nI k) 0 with
  | none => rw [g] at h; cases h
  | some m => rw [g] at h; exact ⟨m, of_decide_eq_true h, rfl⟩
theorem thereAt_ok {t : SG} {a k b : Nat} {x : Int32} (ea : t 64 18 = nI a) (ha : a ≤ 63) (hb : b ≤ 6) (eb : bsL (nI a) 31 0 0 = nI b) (hk : k < b) (ex : x = nI k) : ∃ m, m < 6 ∧ RthereAt t x = some (nI m) := by
  obtain ⟨m, hm, e⟩ := th_all a (by omega) k (by omega) b (by omega) eb hk
  refine ⟨m, hm, ?_⟩
  unfold RthereAt
  rw [ex]
  exact thereAt_l 6 0 xF m (nI k) (by rw [ea]; exact e) (by have := xF_ge; omega)
theorem bits_ok2 {a : Nat} (ha : a ≤ 63) : ∃ b, b ≤ 6 ∧ Rbits (nI a) = some (nI b) ∧ (0 < a → 0 < b) ∧ bsL (nI a) 31 0 0 = nI b := by
  obtain ⟨b, hb, e, h⟩ := bits_all a (by omega)
  refine ⟨b, by omega, ?_, h, e⟩
  unfold Rbits
  have l := bits_l (x := nI a) 31 0 xF 0 rfl (by have := xF_ge; omega)
  rw [e] at l
  exact l
/-- a decade goes on -/
def DQ (t u : SG) : Prop := QI t u ∧ (QS t → QS u)
theorem drawn147 {y1 y2 y3 y4 y5 y6 y7 y8 y9 : Int32} {r49 : SG → Int32 → Int32 → Int32 → Int32 → Int32 → Int32 → Int32 → Int32 → Option (Int32 × SG)} {t : SG} {P : Int32 × SG → Prop} (r : RI t) (q : QS t) (next : ∀ (u : SG) (a b c : Int32), QI t u → QS u → ok (r49 u y1 y2 y3 y4 a b c (y8 + 1)) P) : ok (Rdrawn_147 r49 t y1 y2 y3 y4 y5 y6 y7 y8 y9) P := by
  have e163 : ∀ u, QI t u → QS u → ok (Rdrawn_163 r49 u y1 y2 y3 y4 y5 y6 y7 y8 y9) P := by
    intro u hu qu
    have e192 : ∀ a v0, ok (Rdrawn_192 r49 u y1 y2 y3 y4 a y6 y7 y8 y9 v0) P := by
      intro a v0
      unfold Rdrawn_192
      exact ok_i (fun _ => next u _ _ _ hu qu) (fun _ => next u _ _ _ hu qu)
    unfold Rdrawn_163
    exact ok_i (fun _ => e192 _ _) (fun _ => e192 _ _)
  unfold Rdrawn_147
  refine ok_i (fun _ => e163 _ comm_KQ.1 (KQ_QS comm_KQ q)) (fun _ => ok_b (moves_ok r q) (fun u hu => e163 u hu.1 (MV_QS hu q)))
theorem drawn77 {y1 y2 y3 y4 y5 y6 y7 y8 v0 : Int32} {r49 : SG → Int32 → Int32 → Int32 → Int32 → Int32 → Int32 → Int32 → Int32 → Option (Int32 × SG)} {t : SG} {P : Int32 × SG → Prop} (r : RI t) (q : QS t) (h0 : ¬ v0 = 0 → ¬ t 64 18 = 0) (next : ∀ (u : SG) (a b c : Int32), QI t u → QS u → ok (r49 u y1 y2 y3 y4 a b c (y8 + 1)) P) : ok (Rdrawn_77 r49 t y1 y2 y3 y4 y5 y6 y7 y8 v0) P := by
  unfold Rdrawn_77
  refine ok_i (fun _ => drawn147 r q next) (fun c => ?_)
  obtain ⟨a, ea, ha⟩ := q.2.2
  have a0 : 0 < a := by
    rcases Nat.eq_zero_or_pos a with g | g
    · exact absurd (by rw [ea, g]; rfl) (h0 c)
    · exact g
  obtain ⟨b, hb, eb, hb0, ebs⟩ := bits_ok2 ha
  rw [ea]
  refine ok_be eb (ok_b (below_ok rfl (hb0 a0) (by omega)) (fun p hp => ?_))
  obtain ⟨⟨k, ek, hk⟩, qi, kp⟩ := hp
  obtain ⟨m, hm, em⟩ := thereAt_ok (t := p.2) (x := p.1) (by rw [kp 18 (by omega)]; exact ea) ha hb ebs hk ek
  refine ok_be em ?_
  have keep : ∀ {u w : SG}, QI t u → QS u → QI u w → (∀ j, j ≠ 34 → w 64 j = u 64 j) → QI t w ∧ QS w := by
    intro u w h1 h2 h3 h4
    refine ⟨QI_tr h1 h3, ?_⟩
    unfold QS at *
    rw [h4 11 (by omega), h4 16 (by omega), h4 18 (by omega)]; exact h2
  have k1 := keep QI_rfl q qi kp
  have q1 : QS (up p.2 64 15 (nI m)) := by
    have := k1.2
    unfold QS at *
    rw [up_b (by decide), up_b (by decide), up_b (by decide)]; exact this
  have qi1 : QI t (up p.2 64 15 (nI m)) := QI_up k1.1 (by omega) (by omega)
  refine ok_b (below_ok (n := 10) rfl (by decide) (by decide)) (fun p2 hp2 => ?_)
  have k2 := keep qi1 q1 hp2.2.1 hp2.2.2
  refine ok_b (below_ok (n := 10) rfl (by decide) (by decide)) (fun p3 hp3 => ?_)
  have k3 := keep k2.1 k2.2 hp3.2.1 hp3.2.2
  refine ok_b (below_ok (n := 10) rfl (by decide) (by decide)) (fun p4 hp4 => ?_)
  have k4 := keep k3.1 k3.2 hp4.2.1 hp4.2.2
  generalize 100 * p2.1 + 10 * p3.1 + p4.1 = day
  have kq : KQ p4.2 (RtalksOf p4.2 day) := talks_KQ
  have qz := QI_tr k4.1 kq.1
  exact drawn147 (QI_RI qz r) (KQ_QS kq k4.2) (fun u a b c hu hq => next u a b c (QI_tr qz hu) hq)
theorem drawn49 {y1 y2 y4 : Int32} {N : Nat} (hN : N ≤ 60) : ∀ (n j z : Nat) (t : SG) (a b c : Int32), RI t → QS t → j + n = N → n ≤ z → ok (Rdrawn_49 (Rdrawn_R z) t y1 y2 (nI N) y4 a b c (nI j)) (fun p => QI t p.2) := by
  intro n
  induction n with
  | zero =>
    intro j z t a b c r q hj hz
    unfold Rdrawn_49
    rw [if_pos (k_ge hj)]
    unfold Rdrawn_218
    repeat' (first | exact ok_s QI_rfl | refine ok_i (fun _ => ?_) (fun _ => ?_))
  | succ n ih =>
    intro j z t a b c r q hj hz
    obtain ⟨z, rfl⟩ : ∃ z', z = z' + 1 := ⟨z - 1, by omega⟩
    unfold Rdrawn_49
    rw [if_neg (k_lt hj (by omega))]
    have hs : nI j / 5 - nI j / 5 / 4 * 4 = nI (j / 5 % 4) := by
      have e : nI j / 5 = nI (j / 5) := nI_div (b := 5) (by omega) (by decide) (by decide)
      rw [e]
      exact nI_mod (b := 4) (by omega) (by decide) (by decide)
    rw [hs]
    have qi : QI t (up t 64 16 (nI (j / 5 % 4))) := QI_up QI_rfl (by omega) (by omega)
    have r2 := QI_RI qi r
    have q2 : QS (up t 64 16 (nI (j / 5 % 4))) := by
      refine ⟨?_, ?_, ?_⟩
      · rw [up_b (by decide)]; exact q.1
      · rw [up_a]; exact ⟨_, rfl, by omega⟩
      · rw [up_b (by decide)]; exact q.2.2
    have next : ∀ (u : SG) (a b c : Int32), QI (up t 64 16 (nI (j / 5 % 4))) u → QS u → ok (Rdrawn_R (z + 1) u y1 y2 (nI N) y4 a b c (nI j + 1)) (fun p => QI t p.2) := by
      intro u a b c hu qu
      show ok (Rdrawn_49 (Rdrawn_R z) u y1 y2 (nI N) y4 a b c (nI j + 1)) _
      rw [← nI_succ]
      exact ok_w (ih (j + 1) z u a b c (QI_RI hu r2) qu (by omega) (by omega)) (fun p hp => QI_tr qi (QI_tr hu hp))
    refine ok_i (fun c0 => drawn77 r2 q2 (fun h => absurd rfl h) next) (fun c0 => drawn77 r2 q2 (fun _ => ?_) next)
    rw [up_b (by decide)]; exact c0
theorem drawn_ok {s : SG} {x y z u : Int32} (r : RI s) : ok (Rdrawn s x y z u) (fun p => QI s p.2) := by
  unfold Rdrawn
  refine ok_b (isRepublic_ok r) (fun p hp => ok_i (fun _ => ok_s hp.1) (fun c => ?_))
  have q : QS p.2 := (hp.2.resolve_left c).1
  refine ok_i (fun _ => ok_s hp.1) (fun c2 => ok_i (fun _ => ok_s hp.1) (fun _ => ?_))
  obtain ⟨N, eN, hN⟩ := inI_nI (b := 60) (by decide) c2
  rw [eN]
  have qi : QI p.2 (up p.2 64 34 y) := QI_up QI_rfl (by omega) (by omega)
  refine ok_w (drawn49 hN N 0 xF _ 0 0 0 (QI_RI qi (QI_RI hp.1 r)) ?_ (by omega) (by have := xF_ge; omega)) (fun v hv => QI_tr hp.1 (QI_tr qi hv))
  unfold QS at *
  rw [up_b (by decide), up_b (by decide), up_b (by decide)]; exact q
theorem count_ok {s : SG} {x : Int32} : ok (Rcount s x) (fun _ => True) := by
  unfold Rcount
  refine ok_i (fun _ => ok_s trivial) (fun c => ?_)
  obtain ⟨a, ea, ha⟩ := inI_nI (b := 5) (by decide) c
  exact ok_be (rd_nI ea (by omega) (by decide)) (ok_s trivial)
theorem fault_ok {s : SG} {x : Int32} : ok (Rfault s x) (fun _ => True) := by
  unfold Rfault
  exact ok_i (fun _ => ok_be (rd_nI (e := 7) rfl (by decide) (by decide)) (ok_s trivial)) (fun _ => ok_i (fun _ => ok_be (rd_nI (e := 8) rfl (by decide) (by decide)) (ok_s trivial)) (fun _ => ok_s trivial))
/-! writes to what is told -/
theorem RB0_of {f g : Nat → Int32} (e : ∀ j, j < 6 ∨ (610 ≤ j ∧ j < 1442) → g j = f j) (h6 : NB (g 6) 600) (h : RB0 f) : RB0 g := by
  obtain ⟨h1, _, h3⟩ := h
  refine ⟨fun i hi => by rw [e i (by omega)]; exact h1 i hi, h6, fun k hk => ?_⟩
  obtain ⟨⟨a1, a2, a3, a4⟩, b, ⟨c1, c2⟩, d, ⟨e1, e2⟩⟩ := h3 k hk
  refine ⟨⟨?_, ?_, ?_, fun m i hm hi => ?_⟩, ?_, ⟨?_, fun j hj => ?_⟩, ?_, ⟨?_, fun j hj => ?_⟩⟩
  · rw [e _ (by omega)]; exact a1
  · rw [e _ (by omega)]; exact a2
  · rw [e _ (by omega)]; exact a3
  · rw [e _ (by omega)]; exact a4 m i hm hi
  · rw [e _ (by omega)]; exact b
  · rw [e _ (by omega)]; exact c1
  · rw [e _ (by omega), e _ (by omega)]; exact c2 j hj
  · rw [e _ (by omega)]; exact d
  · rw [e _ (by omega)]; exact e1
  · rw [e _ (by omega), e _ (by omega), e _ (by omega), e _ (by omega)]; exact e2 j hj
/-- off what is told now, nothing is changed -/
def QA (s t : SG) : Prop := (∀ j, 1442 ≤ j → t 65 j = s 65 j) ∧ t 66 = s 66 ∧ ∀ c, (c < 64 ∨ 72 ≤ c) → t c = s c
theorem QA_rfl {s : SG} : QA s s := ⟨fun _ _ => rfl, rfl, fun _ _ => rfl⟩
theorem QA_tr {s t u : SG} (h : QA s t) (g : QA t u) : QA s u := ⟨fun j hj => (g.1 j hj).trans (h.1 j hj), g.2.1.trans h.2.1, fun c hc => (g.2.2 c hc).trans (h.2.2 c hc)⟩
theorem QA_65 {s : SG} {j : Nat} {x : Int32} (hj : j < 1442) : QA s (up s 65 j x) := ⟨fun i hi => up_bn (by omega), up_n (by omega), fun c hc => up_n (by omega)⟩
theorem QA_QI {s t : SG} (h : QI s t) : QA s t := ⟨fun j _ => by rw [h.1], h.2.1, h.2.2⟩
theorem QA_RI {s t : SG} (h : QA s t) (b : RB0 (t 65)) (r : RI s) : RI t := by
  refine ⟨b, fun k hk => ?_⟩
  have e : (fun j => t 65 (1442 * (k + 1) + j)) = (fun j => s 65 (1442 * (k + 1) + j)) := by
    funext j
    exact h.1 _ (by omega)
  rw [e]; exact r.2 k hk
theorem end_ok {s : SG} {x : Int32} (r : RI s) : ok (Rend s x) (fun p => RI p.2 ∧ QA s p.2) := by
  obtain ⟨l, el, hl⟩ := r.1.2.1
  have rd : rdI s 65 5768 6 = some (nI l) := by rw [rd_nI (x := 6) (e := 6) rfl (by decide) (by decide), el]
  unfold Rend
  refine ok_i (fun _ => ok_s ⟨r, QA_rfl⟩) (fun c => ok_be rd (ok_i (fun c2 => ?_) (fun _ => ok_s ⟨r, QA_rfl⟩)))
  have qa : QA s (up s 65 6 x) := QA_65 (by decide)
  refine ok_be (wr_nI (e := 6) rfl (by decide) (by decide)) (ok_s ⟨QA_RI qa ?_ r, qa⟩)
  show RB0 (up s 65 6 x 65)
  refine RB0_of (f := s 65) (fun j hj => by rw [up_bn (by omega)]) ?_ r.1
  rw [up_a]
  have e := Int32.ofNat_toNatClampNeg x (Int32.not_lt.mp c)
  have e2 := Int32.cast_toNatClampNeg x (Int32.not_lt.mp c)
  refine ⟨x.toNatClampNeg, e.symm, ?_⟩
  rw [Int32.le_iff_toInt_le, nI_toInt (by omega)] at c2
  omega
theorem feed_l {y1 y2 y3 y4 y5 : Int32} {l : Nat} (hl : l + 20 ≤ 600) : ∀ (n j z : Nat) (t : SG), RI t → t 65 6 = nI (l + j) → j + n = 20 → n ≤ z → ok (Rfeed_21 (Rfeed_R z) t y1 y2 y3 y4 y5 (nI j)) (fun p => RI p.2 ∧ QA t p.2 ∧ p.2 65 6 = nI (l + 20)) := by
  intro n
  induction n with
  | zero =>
    intro j z t r e hj hz
    unfold Rfeed_21
    rw [if_pos (show (20 : Int32) ≤ nI j from k_ge (m := 20) hj)]
    refine ok_be (rd_nI (e := 6) rfl (by decide) (by decide)) (ok_s ⟨r, QA_rfl, ?_⟩)
    show t 65 6 = _
    rw [e, show l + j = l + 20 by omega]
  | succ n ih =>
    intro j z t r e hj hz
    obtain ⟨z, rfl⟩ : ∃ z', z = z' + 1 := ⟨z - 1, by omega⟩
    have e74 : ∀ v, ok (Rfeed_74 (Rfeed_R (z + 1)) t y1 y2 y3 y4 y5 (nI j) v) (fun p => RI p.2 ∧ QA t p.2 ∧ p.2 65 6 = nI (l + 20)) := by
      intro v
      unfold Rfeed_74
      generalize (v >>> (24 - 8 * (nI j - nI j / 4 * 4) &&& 31)) &&& 255 = w
      refine ok_be (rd_nI (e := 6) rfl (by decide) (by decide)) (ok_be (wr_nI (e := 10 + (l + j)) (by rw [e]; show nI 10 + nI (l + j) = _; rw [nI_add]) (by omega) (by decide)) ?_)
      refine ok_be (rd_nI (e := 6) rfl (by decide) (by decide)) (ok_be (wr_nI (e := 6) rfl (by decide) (by decide)) ?_)
      have e6 : up t 65 (10 + (l + j)) w 65 6 = nI (l + j) := by rw [up_bn (by omega)]; exact e
      rw [e6]
      have qa : QA t (up (up t 65 (10 + (l + j)) w) 65 6 (nI (l + j) + 1)) := QA_tr (QA_65 (by omega)) (QA_65 (by omega))
      show ok (Rfeed_21 (Rfeed_R z) (up (up t 65 (10 + (l + j)) w) 65 6 (nI (l + j) + 1)) y1 y2 y3 y4 y5 (nI j + 1)) _
      rw [← nI_succ, ← nI_succ] at *
      refine ok_w (ih (j + 1) z _ (QA_RI qa ?_ r) (by rw [up_a]; rfl) (by omega) (by omega)) (fun p hp => ⟨hp.1, QA_tr qa hp.2.1, hp.2.2⟩)
      refine RB0_of (f := t 65) (fun i hi => ?_) ?_ r.1
      · rw [up_bn (by omega), up_bn (by omega)]
      · rw [up_a]; exact ⟨_, rfl, by omega⟩
    unfold Rfeed_21
    rw [if_neg (show ¬ (20 : Int32) ≤ nI j from k_lt (m := 20) hj (by decide))]
    exact ok_i (fun _ => ok_i (fun _ => ok_i (fun _ => ok_i (fun _ => e74 _) (fun _ => e74 _)) (fun _ => e74 _)) (fun _ => e74 _)) (fun _ => e74 _)
theorem feed_ok {s : SG} {x y z u v : Int32} (r : RI s) : ok (Rfeed s x y z u v) (fun p => RI p.2 ∧ QA s p.2) := by
  obtain ⟨l, el, hl⟩ := r.1.2.1
  unfold Rfeed
  refine ok_be (rd_nI (e := 6) rfl (by decide) (by decide)) (ok_i (fun c => ?_) (fun _ => ok_s ⟨r, QA_rfl⟩))
  have hl2 : l + 20 ≤ 600 := by
    rw [el] at c
    have e : nI l + 20 = nI (l + 20) := by show nI l + nI 20 = _; rw [nI_add]
    rw [e, Int32.le_iff_toInt_le, nI_toInt (by omega)] at c
    have : (600 : Int32).toInt = 600 := by decide
    omega
  exact ok_w (feed_l hl2 20 0 xF s r el rfl (by have := xF_ge; omega)) (fun p hp => ⟨hp.1, hp.2.1⟩)
/-- off the images' rows, nothing is changed -/
def QM (s t : SG) (k : Nat) : Prop := (∀ j, (j < 1442 * (k + 1) ∨ 1442 * (k + 2) ≤ j) → t 65 j = s 65 j) ∧ ∀ c, (c < 64 ∨ 72 ≤ c) → t c = s c
theorem image_l {k : Nat} (hk : k < 3) {s0 : SG} : ∀ (n j z : Nat) (t : SG), QM s0 t k → t 66 = s0 66 → (∀ i, i < j → t 65 (1442 * (k + 1) + i) = s0 65 i) → j + n = 1442 → n ≤ z → ok (Rimage_20 (Rimage_R z) t (nI k) (nI j)) (fun p => p.1 = 1 ∧ QM s0 p.2 k ∧ p.2 66 = s0 66 ∧ ∀ i, i < 1442 → p.2 65 (1442 * (k + 1) + i) = s0 65 i) := by
  intro n
  induction n with
  | zero =>
    intro j z t qm e66 h hj hz
    unfold Rimage_20
    rw [if_pos (show (1442 : Int32) ≤ nI j from k_ge (m := 1442) hj)]
    exact ok_s ⟨rfl, qm, e66, fun i hi => h i (by omega)⟩
  | succ n ih =>
    intro j z t qm e66 h hj hz
    obtain ⟨z, rfl⟩ : ∃ z', z = z' + 1 := ⟨z - 1, by omega⟩
    unfold Rimage_20
    rw [if_neg (show ¬ (1442 : Int32) ≤ nI j from k_lt (m := 1442) hj (by decide))]
    refine ok_be (rd_nI rfl (by omega) (by decide)) (ok_be (wr_nI (e := 1442 * (k + 1) + j) (by show nI 1442 * (nI k + nI 1) + nI j = _; rw [nI_add, nI_mulx, nI_add]) (by omega) (by decide)) ?_)
    show ok (Rimage_20 (Rimage_R z) (up t 65 (1442 * (k + 1) + j) (t 65 j)) (nI k) (nI j + 1)) _
    rw [← nI_succ]
    refine ih (j + 1) z _ ⟨fun i hi => ?_, fun c hc => ?_⟩ ?_ (fun i hi => ?_) (by omega) (by omega)
    · rw [up_bn (by omega)]; exact qm.1 i hi
    · rw [up_n (by omega)]; exact qm.2 c hc
    · rw [up_n (by omega)]; exact e66
    · by_cases e : i = j
      · subst e; rw [up_a]; exact qm.1 i (by omega)
      · rw [up_bn (by omega)]; exact h i (by omega)
theorem image_ok {s : SG} {x : Int32} (r : RI s) : ok (Rimage s x) (fun p => p.1 = imgI x ∧ RI p.2 ∧ (∀ c, (c < 64 ∨ 72 ≤ c) → p.2 c = s c) ∧ ((imgI x = 0 ∧ p.2 = s) ∨ ∃ k, k < 3 ∧ x = nI k ∧ (∀ j, j < 1442 → p.2 65 j = s 65 j) ∧ (∀ j, j ≠ k → p.2 66 j = s 66 j) ∧ p.2 66 k = 1 ∧ (∀ i, i < 1442 → p.2 65 (1442 * (k + 1) + i) = s 65 i) ∧ ∀ m, m < 3 → m ≠ k → ∀ i, i < 1442 → p.2 65 (1442 * (m + 1) + i) = s 65 (1442 * (m + 1) + i))) := by
  unfold Rimage
  refine ok_i (fun c => ?_) (fun c => ?_)
  · have e : imgI x = 0 := by
      unfold inI at c
      unfold imgI
      by_cases c1 : x < 0
      · rw [if_pos c1]
      · rw [if_neg c1] at c ⊢
        by_cases c2 : 2 < x
        · rw [if_neg]
          rw [Int32.lt_iff_toInt_lt] at c2 ⊢
          have z2 : (2 : Int32).toInt = 2 := by decide
          have z3 : (3 : Int32).toInt = 3 := by decide
          omega
        · rw [if_neg c2] at c; exact absurd c (by decide)
    exact ok_s ⟨e.symm, r, fun _ _ => rfl, Or.inl ⟨e, rfl⟩⟩
  · obtain ⟨k, ek, hk⟩ := inI_nI (b := 2) (by decide) c
    have e : imgI x = 1 := by
      unfold imgI
      rw [ek, if_neg (nI_pos (by omega)), if_pos (show nI k < 3 from nI_lt2 (a := k) (b := 3) (by omega) (by decide))]
    have wb : wrB s 66 3 x 1 = some (up s 66 k 1) := by
      unfold wrB
      rw [ek, xvb_nI (by omega : k < 3) (by decide), nI_clamp (by omega)]; rfl
    refine ok_be wb ?_
    rw [ek]
    refine ok_w (image_l (k := k) (by omega) (s0 := up s 66 k 1) 1442 0 xF _ ⟨fun _ _ => rfl, fun _ _ => rfl⟩ rfl (fun i hi => absurd hi (by omega)) rfl (by have := xF_ge; omega)) (fun p hp => ?_)
    obtain ⟨h1, qm, e66, cp⟩ := hp
    have e65 : up s 66 k 1 65 = s 65 := up_n (by omega)
    rw [e65] at cp
    have other : ∀ j, (j < 1442 * (k + 1) ∨ 1442 * (k + 2) ≤ j) → p.2 65 j = s 65 j := fun j hj => by rw [qm.1 j hj, e65]
    refine ⟨by rw [h1, ← ek, e], ?_, fun c hc => by rw [qm.2 c hc, up_n (by omega)], Or.inr ⟨k, by omega, rfl, fun j hj => other j (by omega), fun j hj => by rw [e66, up_bn hj], by rw [e66, up_a], cp, fun m hm hne i hi => other _ (by omega)⟩⟩
    refine ⟨?_, fun m hm => ?_⟩
    · refine RB0_of (f := s 65) (fun j hj => other j (by omega)) ?_ r.1
      rw [other 6 (by omega)]; exact r.1.2.1
    · by_cases e : m = k
      · subst e
        refine RB0_of (f := s 65) (fun j hj => cp j (by omega)) ?_ r.1
        show NB (p.2 65 (1442 * (m + 1) + 6)) 600
        rw [cp 6 (by omega)]; exact r.1.2.1
      · refine RB0_of (f := fun j => s 65 (1442 * (m + 1) + j)) (fun j hj => other _ (by omega)) ?_ (r.2 m hm)
        show NB (p.2 65 (1442 * (m + 1) + 6)) 600
        rw [other _ (by omega)]; exact (r.2 m hm).2.1
theorem again_l {k : Nat} (hk : k < 3) {s0 : SG} : ∀ (n j z : Nat) (t : SG), QA s0 t → (∀ i, i < j → t 65 i = s0 65 (1442 * (k + 1) + i)) → j + n = 1442 → n ≤ z → ok (Ragain_22 (Ragain_R z) t (nI k) (nI j)) (fun p => QA s0 p.2 ∧ ∀ i, i < 1442 → p.2 65 i = s0 65 (1442 * (k + 1) + i)) := by
  intro n
  induction n with
  | zero =>
    intro j z t qa h hj hz
    unfold Ragain_22
    rw [if_pos (show (1442 : Int32) ≤ nI j from k_ge (m := 1442) hj)]
    exact ok_s ⟨qa, fun i hi => h i (by omega)⟩
  | succ n ih =>
    intro j z t qa h hj hz
    obtain ⟨z, rfl⟩ : ∃ z', z = z' + 1 := ⟨z - 1, by omega⟩
    unfold Ragain_22
    rw [if_neg (show ¬ (1442 : Int32) ≤ nI j from k_lt (m := 1442) hj (by decide))]
    refine ok_be (rd_nI (e := 1442 * (k + 1) + j) (by show nI 1442 * (nI k + nI 1) + nI j = _; rw [nI_add, nI_mulx, nI_add]) (by omega) (by decide)) (ok_be (wr_nI rfl (by omega) (by decide)) ?_)
    show ok (Ragain_22 (Ragain_R z) (up t 65 j (t 65 (1442 * (k + 1) + j))) (nI k) (nI j + 1)) _
    rw [← nI_succ]
    refine ih (j + 1) z _ (QA_tr qa (QA_65 (by omega))) (fun i hi => ?_) (by omega) (by omega)
    by_cases e : i = j
    · subst e; rw [up_a]; exact qa.1 _ (by omega)
    · rw [up_bn (by omega)]; exact h i (by omega)
theorem again_ok {s : SG} {x : Int32} (r : RI s) : ok (Ragain s x) (fun p => RI p.2 ∧ QA s p.2 ∧ (p.2 = s ∨ ∃ k, k < 3 ∧ x = nI k ∧ ¬ s 66 k = 0 ∧ ∀ i, i < 1442 → p.2 65 i = s 65 (1442 * (k + 1) + i))) := by
  unfold Ragain
  refine ok_i (fun _ => ok_s ⟨r, QA_rfl, Or.inl rfl⟩) (fun c => ?_)
  obtain ⟨k, ek, hk⟩ := inI_nI (b := 2) (by decide) c
  refine ok_be (rd_nI ek (by omega) (by decide)) (ok_i (fun _ => ok_s ⟨r, QA_rfl, Or.inl rfl⟩) (fun c2 => ?_))
  rw [ek]
  refine ok_w (again_l (k := k) (by omega) (s0 := s) 1442 0 xF s QA_rfl (fun i hi => absurd hi (by omega)) rfl (by have := xF_ge; omega)) (fun p hp => ⟨QA_RI hp.1 ?_ r, hp.1, Or.inr ⟨k, by omega, rfl, c2, hp.2⟩⟩)
  refine RB0_of (f := fun j => s 65 (1442 * (k + 1) + j)) (fun j hj => hp.2 j (by omega)) ?_ (r.2 k (by omega))
  rw [hp.2 6 (by omega)]; exact (r.2 k (by omega)).2.1
end XRJ
