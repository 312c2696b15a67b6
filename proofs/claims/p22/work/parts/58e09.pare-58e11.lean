section
section XTI
variable {sc : Nat × (Nat → Int32)} {d : Nat} {K : List KD} {r q t a B m : Nat} {w : EW}
/-! the beginning of a line, seasons and kinds, rows -/
section KC2
variable {f : Nat → Int32} {L a e : Nat} {u v : SG}
/-- the first word, of a list without gaps -/
theorem key_c {z lo hi : Nat} (h : SM f L a e u v) (hz : z ∈ ZS) (ok_ : zOK z lo hi = true) (hh : hi ≤ 32) (h1 : 1 ≤ lo) (hlo : lo ≤ hi) : pc (Rtakes v (nI lo) (nI hi)) (fun p => (choI u z = -1 ∧ WE u p.2) ∨ ∃ k, a < e ∧ k ≤ hi - lo ∧ choI u z = nI k ∧ p.1 = nI (lo + k) ∧ ∀ u1 : SG, u1 43 6 = u 43 6 → u1 43 9 = u 43 9 → u1 54 = u 54 → KY f L a (advS u1) v p.2) := by
  intro p hp
  rcases TK_w h hz ok_ hh h1 hlo with ⟨t1, t2⟩ | ⟨k, ae, hk, hkl, t1, t2, t3, t4⟩
  · exact Or.inl ⟨t1, WE_of (pc_ok (tak_n h t2) p hp).2⟩
  · have y := pc_ok (tak_y (u1 := u) h ae t2 t4 rfl rfl rfl) p hp
    exact Or.inr ⟨k, ae, hk, t1, y.1.trans t3, fun u1 e6 e9 e54 => (pc_ok (tak_y h ae t2 t4 e6 e9 e54) p hp).2⟩
/-- the class's state behind the first word -/
theorem rl0_f {so : Int32} {u1 : SG} (e : u1 = couS u so (choI u (worZ so))) (fr : ∀ c, c ≠ 43 → u1 c = u c) : (∀ c, c ≠ 43 → c ≠ 55 → rl0 u so c = u c) ∧ (∀ j, j < 5 → rl0 u so 55 j = -1) ∧ (∀ j, rl0 u so 43 j = advS u1 43 j) := by
  have h54 : rl0 u so = flS 5 (advS u1) 55 (-1) := by rw [e]; rfl
  rw [h54]
  have c3 : ∀ c, c ≠ 43 → advS u1 c = u1 c := by
    intro c hc
    unfold advS adv1
    repeat' split
    all_goals simp only [up_n hc]
  refine ⟨fun c h43 h55 => by rw [fl_n h55, c3 c h43, fr c h43], fun j hj => ?_, fun j => by rw [fl_n (by decide)]⟩
  unfold flS
  rw [sF_s]; exact if_pos hj
/-- the class's state behind the first word of a line that counts -/
def RL0 (u t : SG) : Prop := (∀ c, c ≠ 43 → c ≠ 55 → t c = u c) ∧ t 43 10 = u 43 10 + 1 ∧ t 43 11 = u 43 11 ∧ ∀ j, j < 5 → t 55 j = -1
/-- a line of a sort that may have so many lines: the count, the fault if there are more -/
theorem sta_2 {so : Int32} {M : Nat} {w : SG} {P : SG → Prop} {X Y : SG → Option SG} (h : SM f L a e u v) (hM : mosI so = nI M) (hM2 : M ≤ 40) (cnt : couS u so (choI u (worZ so)) = cntS u so) (ky : KY f L a (advS (cntS u so)) v w) (ct : v 65 7 = 0 → ∃ n, n ≤ M ∧ u 43 10 = nI n ∧ v 67 0 = nI n)
    (g : ∀ (w0 : SG) (a2 e2 : Nat), a < a2 → SM f L a2 e2 (rl0 u so) w0 → RL0 u (rl0 u so) → (∀ c, c ≠ 64 → c ≠ 65 → w0 c = v c) → (∀ j, j ≠ 7 → j ≠ 8 → w0 65 j = v 65 j) → (∀ j, (j < 3 ∨ 8 ≤ j) → w0 64 j = v 64 j) → (w0 65 7 = 0 → v 65 7 = 0 ∧ ∃ n, n < M ∧ u 43 10 = nI n ∧ v 67 0 = nI n) → pc (X w0) P)
    (g2 : ∀ (w0 : SG) (a2 e2 : Nat), a < a2 → SM f L a2 e2 (rl0 u so) w0 → RL0 u (rl0 u so) → (∀ c, c ≠ 64 → c ≠ 65 → w0 c = v c) → (∀ j, j ≠ 7 → j ≠ 8 → w0 65 j = v 65 j) → (∀ j, (j < 3 ∨ 8 ≤ j) → w0 64 j = v 64 j) → ¬ w0 65 7 = 0 → pc (Y w0) P) :
    pc (if (w 64 8) = 0 then ((rdI w 67 201 0).bind fun g2 => if g2 < nI M then X w else (Ralso w 3 (v 64 4)).bind fun s3 => Y s3) else X w) P := by
  obtain ⟨⟨a2, e2, ha, cb, rt, w8, tk⟩, k1, k2⟩ := ky
  obtain ⟨hc, hr, h8, tk0, hf⟩ := h
  have hL := hr.2.1
  have hl := tk0.2.2.2.2.1
  have h9 : u 43 9 = nI e := tk0.2.1
  have al : a ≤ 600 := by
    rcases tk0.2.2.2.2.2 with ⟨q, _⟩ | ⟨q, _⟩ <;> omega
  obtain ⟨n1, n2, n3⟩ := cnt_f (u := u) (so := so)
  have e65 : w 65 = v 65 := k1 65 (by decide)
  have r0 := rl0_f (u := u) (so := so) cnt.symm n1
  have adv : ∀ j, j ≠ 7 → j ≠ 8 → j ≠ 9 → advS (cntS u so) 43 j = cntS u so 43 j := by
    intro j a1 a2 a3
    unfold advS adv1
    repeat' split
    all_goals simp only [up_bn a1, up_bn a2, up_bn a3]
  have fin : ∀ w0 : SG, FL a2 (cntS u so) w0 → (∀ c, c ≠ 65 → w0 c = w c) → (∀ j, j ≠ 7 → j ≠ 8 → w0 65 j = w 65 j) → SM f L a2 e2 (rl0 u so) w0 ∧ RL0 u (rl0 u so) ∧ (∀ c, c ≠ 64 → c ≠ 65 → w0 c = v c) ∧ (∀ j, j ≠ 7 → j ≠ 8 → w0 65 j = v 65 j) ∧ (∀ j, (j < 3 ∨ 8 ≤ j) → w0 64 j = v 64 j) := by
    intro w0 fl q1 q2
    have sm : SM f L a2 e2 (advS (cntS u so)) w0 := ⟨cb, RTt_of rt (by rw [q1 64 (by decide)]) (fun j hj => q2 j (by omega) (by omega)), by rw [q1 64 (by decide)]; exact w8, TK_g tk rfl rfl rfl rfl (fun j _ _ => by rw [q1 64 (by decide)]), FL_lo fl (Nat.le_refl _) (adv 2 (by decide) (by decide) (by decide)) (adv 3 (by decide) (by decide) (by decide)) rfl rfl⟩
    have f0 : RL0 u (rl0 u so) := ⟨r0.1, by rw [r0.2.2, adv 10 (by decide) (by decide) (by decide), n3], by rw [r0.2.2, adv 11 (by decide) (by decide) (by decide), n2 11 (by decide) (by decide) (by decide)], r0.2.1⟩
    have a54 : advS (cntS u so) 54 = cntS u so 54 := by
      unfold advS adv1
      repeat' split
      all_goals simp (disch := decide) only [up_n]
    exact ⟨SM_g sm (fun j _ => r0.2.2 j) (by rw [r0.1 54 (by decide) (by decide), a54, n1 54 (by decide)]) (fun _ _ => rfl) (fun _ _ => rfl), f0, fun c b1 b2 => by rw [q1 c b2, k1 c b1], fun j b1 b2 => by rw [q2 j b1 b2, e65], fun j b => by rw [q1 64 (by decide), k2 j b]⟩
  rw [if_pos w8]
  refine pc_rdv (e := 0) rfl (by decide) (by decide) ?_
  have w67 : w 67 0 = v 67 0 := by rw [k1 67 (by decide)]
  rw [w67]
  refine pc_i (fun c => ?_) (fun c => ?_)
  · have z : v 65 7 = 0 → (u 43 10 + 1 ≤ mosI so) ∧ ∃ n, n < M ∧ u 43 10 = nI n ∧ v 67 0 = nI n := by
      intro z
      obtain ⟨n, hn, en, en2⟩ := ct z
      rw [en2, Int32.lt_iff_toInt_lt, nI_toInt (by omega), nI_toInt (by omega)] at c
      refine ⟨?_, n, by omega, en, en2⟩
      rw [en, hM, ← nI_succ]
      exact nI_le2 (by omega) (by omega)
    obtain ⟨s1, s2, s3, s4, s5⟩ := fin w (lim_a hf (Nat.le_of_lt ha) (by rw [e65]) (by rw [e65]) (fun y => (z y).1)) (fun _ _ => rfl) (fun _ _ _ => rfl)
    refine g w a2 e2 ha s1 s2 s3 s4 s5 (fun y => ?_)
    rw [e65] at y
    exact ⟨y, (z y).2⟩
  · rw [tk0.2.2.1]
    have z : v 65 7 = 0 → ¬ (u 43 10 + 1 ≤ mosI so) := by
      intro z
      obtain ⟨n, hn, en, en2⟩ := ct z
      rw [en2, Int32.lt_iff_toInt_lt, nI_toInt (by omega), nI_toInt (by omega)] at c
      rw [en, hM, ← nI_succ, Int32.le_iff_toInt_le, nI_toInt (by omega), nI_toInt (by omega)]
      omega
    refine pc_b (pc_ok (lim_b (w := w) hf ha al tk0.1 w8 (by rw [e65]) (by rw [e65]) z)) (fun x hx => ?_)
    obtain ⟨s1, s2, s3, s4, s5⟩ := fin x hx.1 hx.2.2.1 hx.2.2.2
    exact g2 x a2 e2 ha s1 s2 s3 s4 s5 hx.2.1
/-- a line of a sort that may have so many lines: the count, the fault if there are more -/
theorem sta_l {so : Int32} {M : Nat} {w : SG} {P : SG → Prop} {X : SG → Option SG} (h : SM f L a e u v) (hM : mosI so = nI M) (hM2 : M ≤ 40) (cnt : couS u so (choI u (worZ so)) = cntS u so) (ky : KY f L a (advS (cntS u so)) v w) (ct : v 65 7 = 0 → ∃ n, n ≤ M ∧ u 43 10 = nI n ∧ v 67 0 = nI n)
    (g : ∀ (w0 : SG) (a2 e2 : Nat), a < a2 → SM f L a2 e2 (rl0 u so) w0 → RL0 u (rl0 u so) → (∀ c, c ≠ 64 → c ≠ 65 → w0 c = v c) → (∀ j, j ≠ 7 → j ≠ 8 → w0 65 j = v 65 j) → (∀ j, (j < 3 ∨ 8 ≤ j) → w0 64 j = v 64 j) → (w0 65 7 = 0 → v 65 7 = 0 ∧ ∃ n, n < M ∧ u 43 10 = nI n ∧ v 67 0 = nI n) → pc (X w0) P) :
    pc (if (w 64 8) = 0 then ((rdI w 67 201 0).bind fun g2 => if g2 < nI M then X w else (Ralso w 3 (v 64 4)).bind fun s3 => X s3) else X w) P :=
  sta_2 h hM hM2 cnt ky ct g (fun w0 a2 e2 ha sm f0 f67 f65 f64 nz => g w0 a2 e2 ha sm f0 f67 f65 f64 (fun z => absurd z nz))
end KC2
section LX2
variable {f : Nat → Int32} {L a e part : Nat} {u v : SG} {so line : Int32} {l : List Int32} {Q : SG → SG → Prop}
theorem LX_sea {k : Int32 × SG → Option SG} (h : SM f L a e u v) (hp : part < 5)
    (g1 : ∀ (u2 w2 : SG) (a2 e2 j : Nat), a < a2 → j ≤ 3 → SM f L a2 e2 u2 w2 → FRc u u2 → u2 55 = upd (u 55) part (nI j) → FRr v w2 → w2 65 = v 65 → pc (k (nI j, w2)) (fun w => LE Q (rlC so line l u2 (part + 1)) w))
    (g2 : ∀ z w, WE u w → pc (k (z, w)) (fun w => WE u w)) : pc ((RseasonTold v).bind k) (fun w => LE Q (rlC so line (115 :: l) u part) w) := by
  have as : (RseasonTold v).bind k = (Rtakes v (nI 14) (nI 17)).bind (fun p => k (p.1 - 14, p.2)) := by
    unfold RseasonTold
    show ((Rtakes v (nI 14) (nI 17)).bind _).bind k = _
    cases Rtakes v (nI 14) (nI 17) <;> rfl
  rw [as]
  refine LX_wor (z := 15) h hp (by decide) (by decide +kernel) (by decide) (by decide) (by decide) (fun s => rpa_e) (fun u2 w2 a2 e2 j ha hj sm frc f55 frr e65 => ?_) (fun z w hw => g2 _ w hw)
  have ej : nI (14 + j) - 14 = nI j := nI_subl (a := 14) (c := j)
  show pc (k (nI (14 + j) - 14, w2)) _
  rw [ej]
  exact g1 u2 w2 a2 e2 j ha hj sm frc f55 frr e65
theorem LX_kin {k : Int32 × SG → Option SG} (h : SM f L a e u v) (hp : part < 5)
    (g1 : ∀ (u2 w2 : SG) (a2 e2 j : Nat), a < a2 → j ≤ 2 → SM f L a2 e2 u2 w2 → FRc u u2 → u2 55 = upd (u 55) part (nI j) → FRr v w2 → w2 65 = v 65 → pc (k (nI j, w2)) (fun w => LE Q (rlC so line l u2 (part + 1)) w))
    (g2 : ∀ z w, WE u w → pc (k (z, w)) (fun w => WE u w)) : pc ((RkindTold v).bind k) (fun w => LE Q (rlC so line (107 :: l) u part) w) := by
  have as : (RkindTold v).bind k = (Rtakes v (nI 11) (nI 13)).bind (fun p => k (p.1 - 11, p.2)) := by
    unfold RkindTold
    show ((Rtakes v (nI 11) (nI 13)).bind _).bind k = _
    cases Rtakes v (nI 11) (nI 13) <;> rfl
  rw [as]
  refine LX_wor (z := 14) h hp (by decide) (by decide +kernel) (by decide) (by decide) (by decide) (fun s => rpa_k) (fun u2 w2 a2 e2 j ha hj sm frc f55 frr e65 => ?_) (fun z w hw => g2 _ w hw)
  have ej : nI (11 + j) - 11 = nI j := nI_subl (a := 11) (c := j)
  show pc (k (nI (11 + j) - 11, w2)) _
  rw [ej]
  exact g1 u2 w2 a2 e2 j ha hj sm frc f55 frr e65
/-- a number of the form a, m, h, t, q or v -/
theorem LX_a {k : Int32 × SG → Option SG} (h : SM f L a e u v) (hp : part < 5)
    (g1 : ∀ (u2 : SG) (p : Int32 × SG) (a2 e2 : Nat) (x : Int32), a < a2 → SM f L a2 e2 u2 p.2 → FRc u u2 → u2 55 = upd (u 55) part x → FRr v p.2 → (p.2 65 7 = 0 → v 65 7 = 0 ∧ x = p.1) → NB p.1 9 → pc (k p) (fun w => LE Q (rlC so line l u2 (part + 1)) w))
    (g2 : ∀ z w, WE u w → pc (k (z, w)) (fun w => WE u w)) : pc ((Rnumbered v 0 9).bind k) (fun w => LE Q (rlC so line (97 :: l) u part) w) :=
  LX_num (lo := 0) (hi := 9) h hp (by decide) (by decide) (by decide) (by decide) (by decide) (by decide) (by decide) (by decide) g1 g2
theorem LX_m {k : Int32 × SG → Option SG} (h : SM f L a e u v) (hp : part < 5)
    (g1 : ∀ (u2 : SG) (p : Int32 × SG) (a2 e2 : Nat) (x : Int32), a < a2 → SM f L a2 e2 u2 p.2 → FRc u u2 → u2 55 = upd (u 55) part x → FRr v p.2 → (p.2 65 7 = 0 → v 65 7 = 0 ∧ x = p.1) → NB p.1 5 → pc (k p) (fun w => LE Q (rlC so line l u2 (part + 1)) w))
    (g2 : ∀ z w, WE u w → pc (k (z, w)) (fun w => WE u w)) : pc ((Rnumbered v 0 5).bind k) (fun w => LE Q (rlC so line (109 :: l) u part) w) :=
  LX_num (lo := 0) (hi := 5) h hp (by decide) (by decide) (by decide) (by decide) (by decide) (by decide) (by decide) (by decide) g1 g2
theorem LX_h {k : Int32 × SG → Option SG} (h : SM f L a e u v) (hp : part < 5)
    (g1 : ∀ (u2 : SG) (p : Int32 × SG) (a2 e2 : Nat) (x : Int32), a < a2 → SM f L a2 e2 u2 p.2 → FRc u u2 → u2 55 = upd (u 55) part x → FRr v p.2 → (p.2 65 7 = 0 → v 65 7 = 0 ∧ x = p.1) → NB p.1 99 → pc (k p) (fun w => LE Q (rlC so line l u2 (part + 1)) w))
    (g2 : ∀ z w, WE u w → pc (k (z, w)) (fun w => WE u w)) : pc ((Rnumbered v 0 99).bind k) (fun w => LE Q (rlC so line (104 :: l) u part) w) :=
  LX_num (lo := 0) (hi := 99) h hp (by decide) (by decide) (by decide) (by decide) (by decide) (by decide) (by decide) (by decide) g1 g2
theorem LX_t {k : Int32 × SG → Option SG} (h : SM f L a e u v) (hp : part < 5)
    (g1 : ∀ (u2 : SG) (p : Int32 × SG) (a2 e2 : Nat) (x : Int32), a < a2 → SM f L a2 e2 u2 p.2 → FRc u u2 → u2 55 = upd (u 55) part x → FRr v p.2 → (p.2 65 7 = 0 → v 65 7 = 0 ∧ x = p.1) → NB p.1 27 → pc (k p) (fun w => LE Q (rlC so line l u2 (part + 1)) w))
    (g2 : ∀ z w, WE u w → pc (k (z, w)) (fun w => WE u w)) : pc ((Rnumbered v 0 27).bind k) (fun w => LE Q (rlC so line (116 :: l) u part) w) :=
  LX_num (lo := 0) (hi := 27) h hp (by decide) (by decide) (by decide) (by decide) (by decide) (by decide) (by decide) (by decide) g1 g2
theorem LX_q {k : Int32 × SG → Option SG} (h : SM f L a e u v) (hp : part < 5)
    (g1 : ∀ (u2 : SG) (p : Int32 × SG) (a2 e2 : Nat) (x : Int32), a < a2 → SM f L a2 e2 u2 p.2 → FRc u u2 → u2 55 = upd (u 55) part x → FRr v p.2 → (p.2 65 7 = 0 → v 65 7 = 0 ∧ x = p.1) → NB p.1 60 → pc (k p) (fun w => LE Q (rlC so line l u2 (part + 1)) w))
    (g2 : ∀ z w, WE u w → pc (k (z, w)) (fun w => WE u w)) : pc ((Rnumbered v 1 60).bind k) (fun w => LE Q (rlC so line (113 :: l) u part) w) :=
  LX_num (lo := 1) (hi := 60) h hp (by decide) (by decide) (by decide) (by decide) (by decide) (by decide) (by decide) (by decide) g1 g2
theorem LX_v {k : Int32 × SG → Option SG} (h : SM f L a e u v) (hp : part < 5)
    (g1 : ∀ (u2 : SG) (p : Int32 × SG) (a2 e2 : Nat) (x : Int32), a < a2 → SM f L a2 e2 u2 p.2 → FRc u u2 → u2 55 = upd (u 55) part x → FRr v p.2 → (p.2 65 7 = 0 → v 65 7 = 0 ∧ x = p.1) → NB p.1 9 → pc (k p) (fun w => LE Q (rlC so line l u2 (part + 1)) w))
    (g2 : ∀ z w, WE u w → pc (k (z, w)) (fun w => WE u w)) : pc ((Rnumbered v 1 9).bind k) (fun w => LE Q (rlC so line (118 :: l) u part) w) :=
  LX_num (lo := 1) (hi := 9) h hp (by decide) (by decide) (by decide) (by decide) (by decide) (by decide) (by decide) (by decide) g1 g2
end LX2
/-! the class's rows -/
theorem stw_e {s : SG} {n i : Nat} {x y : Int32} (ex : x = nI n) (hn : n < 40) (hi : i < 5) : stwS s x (nI i) y = up s 53 (5 * n + i) y := by
  unfold stwS pt
  have e : x * 5 + nI i = nI (5 * n + i) := by
    rw [ex, show (5 : Int32) = nI 5 from rfl, nI_mulx, nI_add, Nat.mul_comm]
  rw [e, if_neg (nI_pos (by omega)), if_neg (nI_ge (by omega) (by decide)), nI_clamp (by omega)]
theorem adw_e {s : SG} {x : Int32} {y n : Nat} (en : s 52 0 = nI n) (hn : n < 40) (hy : y ≤ 1) : adwS s x (nI y) 52 0 = nI (n + 1) ∧ adwS s x (nI y) 53 (5 * n) = x ∧ (∀ i, 1 ≤ i → i ≤ 4 → adwS s x (nI y) 53 (5 * n + i) = cl 5 (s 55) (nI (y + i - 1))) ∧ (∀ j, j < 5 * n → adwS s x (nI y) 53 j = s 53 j) ∧ ∀ c, c ≠ 52 → c ≠ 53 → adwS s x (nI y) c = s c := by
  have key : adwS s x (nI y) = up (up (up (up (up (up s 53 (5 * n + 0) x) 53 (5 * n + 1) (cl 5 (s 55) (nI (y + 1 - 1)))) 53 (5 * n + 2) (cl 5 (s 55) (nI (y + 2 - 1)))) 53 (5 * n + 3) (cl 5 (s 55) (nI (y + 3 - 1)))) 53 (5 * n + 4) (cl 5 (s 55) (nI (y + 4 - 1)))) 52 0 (nI (n + 1)) := by
    unfold adwS
    rw [if_neg (show ¬ (40 : Int32) ≤ s 52 0 by rw [en]; exact nI_ge (b := 40) (by omega) (by decide))]
    rw [show stwS s (s 52 0) 0 x = up s 53 (5 * n + 0) x from stw_e (i := 0) en hn (by omega)]
    have idx : ∀ i, 1 ≤ i → nI y + nI i - 1 = nI (y + i - 1) := fun i hi => by rw [nI_add]; exact nI_subn (b := 1) (by omega)
    rw [adwSL, adwSL, adwSL, adwSL, adwSL, idx 1 (by omega), idx (1 + 1) (by omega), idx (1 + 1 + 1) (by omega), idx (1 + 1 + 1 + 1) (by omega)]
    have e52 : ∀ (t : SG) (j : Nat) (v : Int32), up t 53 j v 52 = t 52 := fun t j v => up_n (by decide)
    have e55 : ∀ (t : SG) (j : Nat) (v : Int32), up t 53 j v 55 = t 55 := fun t j v => up_n (by decide)
    have st : ∀ (t : SG) (i : Nat) (v : Int32), t 52 0 = nI n → i < 5 → stwS t (t 52 0) (nI i) v = up t 53 (5 * n + i) v := fun t i v h hi => stw_e h hn hi
    rw [st (up s 53 (5 * n + 0) x) 1 _ (by rw [e52]; exact en) (by omega), e55]
    rw [st (up (up s 53 (5 * n + 0) x) 53 (5 * n + 1) _) (1 + 1) _ (by rw [e52, e52]; exact en) (by omega), e55, e55]
    rw [st (up (up (up s 53 (5 * n + 0) x) 53 (5 * n + 1) _) 53 (5 * n + (1 + 1)) _) (1 + 1 + 1) _ (by rw [e52, e52, e52]; exact en) (by omega), e55, e55, e55]
    rw [st (up (up (up (up s 53 (5 * n + 0) x) 53 (5 * n + 1) _) 53 (5 * n + (1 + 1)) _) 53 (5 * n + (1 + 1 + 1)) _) (1 + 1 + 1 + 1) _ (by rw [e52, e52, e52, e52]; exact en) (by omega), e55, e55, e55, e55]
    rw [e52, e52, e52, e52, e52, en, ← nI_succ]
  rw [key]
  refine ⟨up_a, ?_, fun i h1 h4 => ?_, fun j hj => ?_, fun c h2 h3 => ?_⟩
  · rw [up_n (by decide), up_bn (by omega), up_bn (by omega), up_bn (by omega), up_bn (by omega)]; exact up_a
  · rw [up_n (by decide)]
    rcases (by omega : i = 1 ∨ i = 2 ∨ i = 3 ∨ i = 4) with rfl | rfl | rfl | rfl
    · rw [up_bn (by omega), up_bn (by omega), up_bn (by omega), up_a]
    · rw [up_bn (by omega), up_bn (by omega), up_a]
    · rw [up_bn (by omega), up_a]
    · rw [up_a]
  · rw [up_n (by decide), up_bn (by omega), up_bn (by omega), up_bn (by omega), up_bn (by omega), up_bn (by omega)]
  · rw [up_n h2, up_n h3, up_n h3, up_n h3, up_n h3, up_n h3]
end XTI
end
section
section XTJ
variable {sc : Nat × (Nat → Int32)} {d : Nat} {K : List KD} {r q t a B m : Nat} {w : EW}
/-! lines of leaks, summers and bargains, on both sides -/
/-- both go on behind a line, with R of what is told so far, if there is no fault -/
def QL (f : Nat → Int32) (L a : Nat) (R : SG → SG → Prop) (u w : SG) : Prop := ∃ a2 e2, a < a2 ∧ SM f L a2 e2 u w ∧ (w 65 7 = 0 → R u w)
/-- the greatest sort of an order, of a deed -/
def bnd (N : Nat) : Nat := if N = 8 then 3 else 5
/-- an order's, a deed's row: its sort; a motion's day -/
def ROK (N : Nat) (f : Nat → Int32) : Prop := NB (f 0) (bnd N) ∧ (N = 40 → f 0 = 0 → NB (f 2) 9 ∧ NB (f 3) 9 ∧ NB (f 4) 9)
theorem ROK_g {N : Nat} {f g : Nat → Int32} (h : ROK N f) (e : ∀ i, i < 5 → g i = f i) : ROK N g := by
  unfold ROK
  rw [e 0 (by omega), e 2 (by omega), e 3 (by omega), e 4 (by omega)]; exact h
/-- rows so far: c columns of each on the reference's side, at most N; the sorts of orders and deeds are bounded -/
def RWS (c N : Nat) (u v : SG) : Prop := ∃ n, n ≤ N ∧ u 52 0 = nI n ∧ u 43 10 = nI n ∧ v 67 0 = nI n ∧ (∀ j i, j < n → i < c → u 53 (5 * j + i) = v 67 (1 + c * j + i)) ∧ (c = 5 → ∀ j, j < n → ROK N (fun i => v 67 (1 + 5 * j + i)))
theorem fin_l {f : Nat → Int32} {L a a2 e2 y : Nat} {u2 w2 : SG} {so line : Int32} {R : SG → SG → Prop} (ha : a < a2) (sm : SM f L a2 e2 u2 w2) (hR : w2 65 7 = 0 → (∀ j, j ≠ 11 → tkeS u2 so line 43 j = u2 43 j) ∧ tkeS u2 so line 54 = u2 54 ∧ R (tkeS u2 so line) w2) : LE (QL f L a R) (rlC so line [] u2 y) w2 := by
  refine Or.inl ⟨rfl, ?_⟩
  show QL f L a R (rlT u2 so line) w2
  have fl := sm.2.2.2.2
  unfold rlT
  by_cases c : w2 65 7 = 0
  · obtain ⟨h1, h2, h3⟩ := hR c
    rw [if_pos ((FL_0 fl).2 c)]
    exact ⟨a2, e2, ha, SM_g sm (fun j hj => h1 j (by omega)) h2 (fun _ _ => rfl) (fun _ _ => rfl), fun _ => h3⟩
  · rw [if_neg (fun q => c ((FL_0 fl).1 q))]
    exact ⟨a2, e2, ha, sm, fun q => absurd q c⟩
theorem row_add {c N n y : Nat} {u2 v w2 : SG} {x : Int32} (hc : c ≤ 5) (hn : n < N) (hN : N ≤ 40) (hy : y ≤ 1) (en : u2 52 0 = nI n) (el : u2 43 10 = nI (n + 1)) (old : ∀ j i, j < n → i < c → u2 53 (5 * j + i) = v 67 (1 + c * j + i)) (w0 : w2 67 0 = nI (n + 1)) (wo : ∀ i, 1 ≤ i → i < 1 + c * n → w2 67 i = v 67 i) (bd : c = 5 → ROK N (fun i => w2 67 (1 + 5 * n + i)) ∧ ∀ j, j < n → ROK N (fun i => v 67 (1 + 5 * j + i))) (new : ∀ i, i < c → w2 67 (1 + c * n + i) = if i = 0 then x else cl 5 (u2 55) (nI (y + i - 1))) :
    (∀ j, adwS u2 x (nI y) 43 j = u2 43 j) ∧ adwS u2 x (nI y) 54 = u2 54 ∧ RWS c N (adwS u2 x (nI y)) w2 := by
  obtain ⟨h1, h2, h3, h4, h5⟩ := adw_e (x := x) en (by omega) hy
  refine ⟨fun j => by rw [h5 43 (by decide) (by decide)], h5 54 (by decide) (by decide), n + 1, by omega, h1, by rw [h5 43 (by decide) (by decide)]; exact el, w0, fun j i hj hi => ?_, fun c5 j hj => ?_⟩
  rotate_left
  · obtain ⟨b1, b2⟩ := bd c5
    subst c5
    by_cases q : j = n
    · subst q; exact b1
    · exact ROK_g (b2 j (by omega)) (fun i hi => wo (1 + 5 * j + i) (by omega) (by omega))
  by_cases q : j = n
  · subst q
    rw [new i hi]
    by_cases z : i = 0
    · subst z; rw [if_pos rfl]; exact h2
    · rw [if_neg z]; exact h3 i (by omega) (by omega)
  · have lt : c * j + i < c * n := by
      have : c * (j + 1) ≤ c * n := Nat.mul_le_mul_left c (by omega)
      rw [Nat.mul_add, Nat.mul_one] at this
      omega
    have lt5 : 5 * j + i < 5 * n := by omega
    rw [h4 _ lt5, old j i (by omega) hi, wo _ (by omega) (by omega)]
/-- yes or no, then the rest -/
theorem LX_yn {f : Nat → Int32} {L a e part : Nat} {u v : SG} {so line : Int32} {l : List Int32} {Q : SG → SG → Prop} {k : Int32 × SG → Option SG} (h : SM f L a e u v) (hp : part < 5)
    (g1 : ∀ (u2 w2 : SG) (a2 e2 : Nat) (b : Bool), a < a2 → SM f L a2 e2 u2 w2 → FRc u u2 → u2 55 = upd (u 55) part (bif b then 1 else 0) → FRr v w2 → w2 65 = v 65 → pc (k (bif b then 30 else 18, w2)) (fun w => LE Q (rlC so line l u2 (part + 1)) w))
    (g2 : ∀ z w, WE u w → pc (k (z, w)) (fun w => WE u w)) : pc (if (v 64 7) = 30 then (Rtakes v 30 30).bind k else (Rtakes v 18 18).bind k) (fun w => LE Q (rlC so line (121 :: l) u part) w) := by
  have t17 : ∀ c, c < 32 → tb 17 c = if c = 17 then 0 else if c = 29 then 1 else -1 := by decide +kernel
  have no : (choI u 17 = -1) → (¬ v 64 5 = 3 ∨ (¬ v 64 7 = 30 ∧ ¬ v 64 7 = 18)) → pc (if (v 64 7) = 30 then (Rtakes v 30 30).bind k else (Rtakes v 18 18).bind k) (fun w => LE Q (rlC so line (121 :: l) u part) w) := by
    intro c1 c2
    rw [rlC, rpa_y]
    unfold cwP
    rw [if_pos c1, if_pos rfl]
    have iz : ∀ x y : Int32, ¬ x = y → inI x y y = 0 := by
      intro x y hxy
      unfold inI
      by_cases q : x < y
      · rw [if_pos q]
      · rw [if_neg q, if_pos]
        have := Int32.not_lt.mp q
        rw [Int32.le_iff_toInt_le] at this
        rw [Int32.lt_iff_toInt_lt]
        have ne : x.toInt ≠ y.toInt := fun z => hxy (Int32.toInt_inj.mp z)
        omega
    refine pc_i (fun q => ?_) (fun q => ?_)
    · refine pc_b (pc_ok (tak_n (x := 30) (y := 30) h (c2.imp_right (fun z => iz _ _ z.1)))) (fun p hp2 => ?_)
      exact fun w hw => LE_w (g2 p.1 p.2 (WE_of hp2.2) w hw)
    · refine pc_b (pc_ok (tak_n (x := 18) (y := 18) h (c2.imp_right (fun z => iz _ _ z.2)))) (fun p hp2 => ?_)
      exact fun w hw => LE_w (g2 p.1 p.2 (WE_of hp2.2) w hw)
  rcases TK_c h with ⟨n5, hz⟩ | ⟨c, hc, ae, h5, h7, hz⟩
  · exact no (hz 17 (by decide)) (Or.inl n5)
  · have tz := hz 17 (by decide)
    rw [t17 c hc] at tz
    have ne : ∀ x, x ≤ 100 → c + 1 ≠ x → ¬ v 64 7 = nI x := fun x hx hne q => hne (nI_inj (by omega) (by omega) (h7.symm.trans q))
    have yes : ∀ b : Bool, choI u 17 = (bif b then 1 else 0) → v 64 7 = (bif b then 30 else 18) → ¬ inI (v 64 7) (bif b then 30 else 18) (bif b then 30 else 18) = 0 → pc ((Rtakes v (bif b then 30 else 18) (bif b then 30 else 18)).bind k) (fun w => LE Q (rlC so line (121 :: l) u part) w) := by
      intro b cb e7 hi
      have n1 : ¬ choI u 17 = -1 := by rw [cb]; cases b <;> decide
      rw [rlC, rpa_y]
      unfold cwP
      rw [if_neg n1, if_neg (show ¬ ((1 : Int32), advS (pt 5 u 55 (nI part) (choI u 17))).1 = 0 from (by decide : ¬ (1 : Int32) = 0)), cb, pt5 hp]
      have y0 := tak_y (u1 := up u 55 part (bif b then 1 else 0)) h ae h5 hi (by rw [up_n (by decide)]) (by rw [up_n (by decide)]) (by rw [up_n (by decide)])
      refine pc_b (pc_ok y0) (fun p hp2 => ?_)
      obtain ⟨p1, ⟨a2, e2, ha2, cb2, rt2, w8, tk2⟩, k1, k2⟩ := hp2
      obtain ⟨hcb, hr, h8, tk, hf⟩ := h
      have a1 : ∀ j, j ≠ 7 → j ≠ 8 → j ≠ 9 → advS (up u 55 part (bif b then 1 else 0)) 43 j = u 43 j := by
        intro j b1 b2 b3
        unfold advS adv1
        repeat' split
        all_goals simp (disch := decide) only [up_n, up_bn b1, up_bn b2, up_bn b3]
      have a3 : ∀ c, c ≠ 43 → advS (up u 55 part (bif b then 1 else 0)) c = up u 55 part (bif b then 1 else 0) c := by
        intro c hc
        unfold advS adv1
        repeat' split
        all_goals simp only [up_n hc]
      have sm : SM f L a2 e2 (advS (up u 55 part (bif b then 1 else 0))) p.2 := ⟨cb2, rt2, w8, tk2, FL_lo hf (Nat.le_of_lt ha2) (a1 2 (by decide) (by decide) (by decide)) (a1 3 (by decide) (by decide) (by decide)) (by rw [k1 65 (by decide)]) (by rw [k1 65 (by decide)])⟩
      have frc : FRc u (advS (up u 55 part (bif b then 1 else 0))) := ⟨fun c b1 b2 => by rw [a3 c b1, up_n b2], fun j b1 b2 b3 b4 b5 => a1 j b3 b4 b5⟩
      have frr : FRr v p.2 := ⟨fun c b1 b2 => k1 c b1, fun j b1 b2 => by rw [k1 65 (by decide)], k2⟩
      have := g1 _ p.2 a2 e2 b ha2 sm frc (by rw [a3 55 (by decide), up_s]) frr (k1 65 (by decide))
      rw [← e7, ← p1] at this
      exact this
    by_cases c17 : c = 17
    · subst c17
      rw [if_pos rfl] at tz
      have e7 : v 64 7 = 18 := h7
      rw [if_neg (by rw [e7]; decide)]
      exact yes false tz e7 (by rw [e7]; decide)
    · by_cases c29 : c = 29
      · subst c29
        rw [if_neg (by decide), if_pos rfl] at tz
        have e7 : v 64 7 = 30 := h7
        rw [if_pos e7]
        exact yes true tz e7 (by rw [e7]; decide)
      · rw [if_neg c17, if_neg c29] at tz
        exact no tz (Or.inr ⟨ne 30 (by decide) (by omega), ne 18 (by decide) (by omega)⟩)
/-- the semicolon of a line, and what the class takes then -/
theorem end_l {f : Nat → Int32} {L a a2 e2 y : Nat} {u3 w4 : SG} {so line : Int32} {R : SG → SG → Prop} (ha : a < a2) (sm : SM f L a2 e2 u3 w4) (hR : w4 65 7 = 0 → ∀ u4 w5 : SG, FRc u3 u4 → u4 55 = u3 55 → FRr w4 w5 → (∀ j, j ≠ 11 → tkeS u4 so line 43 j = u4 43 j) ∧ tkeS u4 so line 54 = u4 54 ∧ R (tkeS u4 so line) w5) : pc ((RendsLine w4).bind fun s1 => some s1) (fun w => LE (QL f L a R) (rlC so line [59] u3 y) w) := by
  refine LX_sem sm (fun u4 w5 a5 e5 ha5 sm5 frc5 f55 frr5 e655 => pc_s (fin_l (by omega) sm5 (fun z => ?_))) (fun w hw => pc_s hw)
  rw [e655] at z
  exact hR z u4 w5 frc5 f55 frr5
theorem SM_67 {f : Nat → Int32} {L a e : Nat} {u v v2 : SG} (h : SM f L a e u v) (q : ∀ c, c ≠ 67 → v2 c = v c) : SM f L a e u v2 :=
  SM_g h (fun _ _ => rfl) rfl (fun j _ => by rw [q 64 (by decide)]) (fun j _ => by rw [q 65 (by decide)])
theorem cl5 {g : Nat → Int32} {k : Nat} (h : k < 5) : cl 5 g (nI k) = g k := cl_nI h (by decide)
theorem upd_a {g : Nat → Int32} {k : Nat} {x : Int32} : upd g k x k = x := pk_us
theorem upd_b {g : Nat → Int32} {i k : Nat} {x : Int32} (h : i ≠ k) : upd g k x i = g i := pk_un h
/-- rows at the beginning of a line, if there is no fault -/
theorem rws_0 {c N : Nat} {u v u0 w0 : SG} (ct : v 65 7 = 0 → RWS c N u v) (hN : N ≤ 40) (f0 : RL0 u u0) (hz : w0 65 7 = 0 → v 65 7 = 0 ∧ ∃ n, n < N ∧ u 43 10 = nI n ∧ v 67 0 = nI n) (z : w0 65 7 = 0) : ∃ n, n < N ∧ u0 52 0 = nI n ∧ u0 43 10 = nI (n + 1) ∧ v 67 0 = nI n ∧ (∀ j i, j < n → i < c → u0 53 (5 * j + i) = v 67 (1 + c * j + i)) ∧ (c = 5 → ∀ j, j < n → ROK N (fun i => v 67 (1 + 5 * j + i))) := by
  obtain ⟨zv, n, hn, e10, e67⟩ := hz z
  obtain ⟨n2, hn2, r52, r10, r67, rows, bds⟩ := ct zv
  obtain rfl : n2 = n := nI_inj (by omega) (by omega) (r67.symm.trans e67)
  exact ⟨n2, hn, by rw [f0.1 52 (by decide) (by decide)]; exact r52, by rw [f0.2.1, e10, ← nI_succ], r67, fun j i hj hi => by rw [f0.1 53 (by decide) (by decide)]; exact rows j i hj hi, bds⟩
/-! leaks -/
theorem w_leak137 {u w : SG} {x y z : Int32} (hw : WE u w) : pc (RleakLine_137 w x y z) (fun w => WE u w) := by
  unfold RleakLine_137
  exact we_sem hw (pc_s hw)
theorem w_leak126 {u w : SG} {x y z g h : Int32} (hw : WE u w) : pc (RleakLine_126 w x y z g h) (fun w => WE u w) := by
  unfold RleakLine_126
  exact we_wri hw (fun w1 h1 => pc_rd (fun _ => we_wri h1 (fun w2 h2 => w_leak137 h2)))
theorem w_leak73 {u w : SG} {x y z : Int32} (hw : WE u w) : pc (RleakLine_73 w x y z) (fun w => WE u w) := by
  unfold RleakLine_73
  exact pc_rd (fun _ => pc_i (fun _ => w_leak137 hw) (fun _ => pc_rd (fun _ => we_wri hw (fun w1 h1 => pc_rd (fun _ => pc_i (fun _ => w_leak126 h1) (fun _ => w_leak126 h1))))))
theorem w_leak38 {u v : SG} {y1 : Int32} (h : WE u v) : pc (RleakLine_38 v y1) (fun w => WE u w) := by
  unfold RleakLine_38
  exact we_num h (fun z => pc_i (fun _ => we_tak h (fun _ => w_leak73 h)) (fun _ => we_tak h (fun _ => w_leak73 h)))
theorem lin_3 {f : Nat → Int32} {L a e : Nat} {u v : SG} (h : SM f L a e u v) (ct : v 65 7 = 0 → RWS 2 8 u v) : pc (RleakLine v) (fun w => LE (QL f L a (RWS 2 8)) (rliP u 3) w) := by
  unfold RleakLine
  refine pc_b (key_c (z := 3) (lo := 29) (hi := 29) h (by decide) (by decide +kernel) (by decide) (by decide) (by decide)) (fun p hp => ?_)
  rcases hp with ⟨c1, we⟩ | ⟨k, ae, hk, c1, ep, ky⟩
  · rw [rliP_n (so := 3) (show choI u (worZ 3) = -1 from c1)]
    exact pc_w (Q := fun w => WE u w) (pc_i (fun z => absurd z we.1) (fun _ => w_leak38 we)) (fun w hw => LE_w hw)
  · obtain rfl : k = 0 := by omega
    have c2 : choI u (worZ 3) = nI 0 := c1
    rw [rliP_c (so := 3) (by rw [c2]; decide), c2, show forms 3 (nI 0) = [109, 121, 59] by decide +kernel]
    obtain ⟨n1, n2, n3⟩ := cnt_f (u := u) (so := 3)
    refine sta_l (so := 3) (M := 8) (X := fun w => RleakLine_38 w (v 64 4)) h (by decide) (by decide) (cou_e (Or.inl (by decide))) (ky _ (n2 6 (by decide) (by decide) (by decide)) (n2 9 (by decide) (by decide) (by decide)) (n1 54 (by decide))) (fun z => by obtain ⟨n, hn, _, q1, q2, _⟩ := ct z; exact ⟨n, hn, q1, q2⟩) (fun w0 a2 e2 ha2 sm f0 f67 f65 f64 hz => ?_)
    show pc (RleakLine_38 w0 (v 64 4)) _
    unfold RleakLine_38
    refine LX_m sm (by omega) (fun u2 p1 a3 e3 x ha3 sm2 frc2 f552 frr2 hx nb => ?_) (fun z w hw => pc_i (fun _ => we_tak hw (fun _ => w_leak73 hw)) (fun _ => we_tak hw (fun _ => w_leak73 hw)))
    refine LX_yn (k := fun p2 => RleakLine_73 p2.2 (v 64 4) p1.1 p2.1) sm2 (by omega) (fun u3 w3 a4 e4 b ha4 sm3 frc3 f553 frr3 e653 => ?_) (fun z w hw => w_leak73 hw)
    show pc (RleakLine_73 w3 (v 64 4) p1.1 (bif b then 30 else 18)) _
    have fin : ∀ w4 : SG, (∀ c, c ≠ 67 → w4 c = w3 c) → (w3 65 7 = 0 → ∃ n, n < 8 ∧ u3 52 0 = nI n ∧ u3 43 10 = nI (n + 1) ∧ (∀ j i, j < n → i < 2 → u3 53 (5 * j + i) = v 67 (1 + 2 * j + i)) ∧ w4 67 0 = nI (n + 1) ∧ (∀ i, 1 ≤ i → i < 1 + 2 * n → w4 67 i = v 67 i) ∧ w4 67 (1 + 2 * n) = u3 55 0 ∧ w4 67 (1 + 2 * n + 1) = u3 55 1) → pc (RleakLine_137 w4 (v 64 4) p1.1 (bif b then 30 else 18)) (fun w => LE (QL f L a (RWS 2 8)) (rlC 3 (nI 0) [59] u3 (0 + 1 + 1)) w) := by
      intro w4 q1 q2
      unfold RleakLine_137
      refine end_l (by omega) (SM_67 sm3 q1) (fun z u4 w5 frc5 f55 frr5 => ?_)
      rw [q1 65 (by decide)] at z
      obtain ⟨n, hn, en, el, rows, g0, gi, gn, gn1⟩ := q2 z
      have et : tkeS u4 3 (nI 0) = adwS u4 (cl 5 (u4 55) 0) (nI 1) := by
        unfold tkeS tkeSW
        rw [if_neg (by decide), if_neg (by decide), if_neg (by decide), if_pos rfl]; rfl
      rw [et]
      have e67 : w5 67 = w4 67 := frr5.1 67 (by decide) (by decide)
      have rr := row_add (c := 2) (N := 8) (n := n) (y := 1) (u2 := u4) (v := v) (w2 := w5) (x := cl 5 (u4 55) 0) (by decide) hn (by decide) (by decide) (by rw [frc5.1 52 (by decide) (by decide)]; exact en) (by rw [frc5.2 10 (by decide) (by decide) (by decide) (by decide) (by decide)]; exact el) (fun j i hj hi => by rw [frc5.1 53 (by decide) (by decide)]; exact rows j i hj hi) (by rw [e67]; exact g0) (fun i h1 h2 => by rw [e67]; exact gi i h1 h2) (fun q => absurd q (by decide)) (fun i hi => ?_)
      · exact ⟨fun j _ => rr.1 j, rr.2.1, rr.2.2⟩
      · rw [e67, f55]
        rcases (by omega : i = 0 ∨ i = 1) with rfl | rfl
        · rw [if_pos rfl, Nat.add_zero, gn]; exact (cl5 (k := 0) (by decide)).symm
        · rw [if_neg (by decide), gn1]; exact (cl5 (k := 1) (by decide)).symm
    unfold RleakLine_73
    by_cases fz : w3 65 7 = 0
    · have fz2 : p1.2 65 7 = 0 := by rw [← e653]; exact fz
      obtain ⟨fz1, ex⟩ := hx fz2
      obtain ⟨n, hn, en, el, r67, rows, _⟩ := rws_0 ct (by decide) f0 hz fz1
      have g67 : w3 67 = v 67 := by rw [frr3.1 67 (by decide) (by decide), frr2.1 67 (by decide) (by decide), f67 67 (by decide) (by decide)]
      have d52 : u3 52 = rl0 u 3 52 := by rw [frc3.1 52 (by decide) (by decide), frc2.1 52 (by decide) (by decide)]
      have d53 : u3 53 = rl0 u 3 53 := by rw [frc3.1 53 (by decide) (by decide), frc2.1 53 (by decide) (by decide)]
      have d10 : u3 43 10 = rl0 u 3 43 10 := by rw [frc3.2 10 (by decide) (by decide) (by decide) (by decide) (by decide), frc2.2 10 (by decide) (by decide) (by decide) (by decide) (by decide)]
      have d0 : u3 55 0 = p1.1 := by rw [f553, upd_b (by decide), f552, upd_a]; exact ex
      have d1 : u3 55 1 = bif b then 1 else 0 := by rw [f553, upd_a]
      refine pc_rdv (e := 0) rfl (by decide) (by decide) ?_
      rw [g67, r67, if_neg (show ¬ (8 : Int32) ≤ nI n from nI_ge (b := 8) (by omega) (by decide))]
      refine pc_rdv (e := 0) rfl (by decide) (by decide) ?_
      rw [g67, r67]
      refine pc_wrv (e := 1 + 2 * n) (by rw [show (2 : Int32) * nI n = nI (2 * n) from nI_mulx 2 n]; exact nI_add 1 _) (by omega) (by decide) ?_
      refine pc_rdv (e := 0) rfl (by decide) (by decide) ?_
      rw [up_bn (by omega), g67, r67]
      have go : ∀ x, x = (bif b then (1 : Int32) else 0) → pc (RleakLine_126 (up w3 67 (1 + 2 * n) p1.1) (v 64 4) p1.1 (bif b then 30 else 18) x (2 + 2 * nI n)) (fun w => LE (QL f L a (RWS 2 8)) (rlC 3 (nI 0) [59] u3 (0 + 1 + 1)) w) := by
        intro x exb
        unfold RleakLine_126
        refine pc_wrv (e := 2 + 2 * n) (by rw [show (2 : Int32) * nI n = nI (2 * n) from nI_mulx 2 n]; exact nI_add 2 _) (by omega) (by decide) ?_
        refine pc_rdv (e := 0) rfl (by decide) (by decide) ?_
        refine pc_wrv (e := 0) rfl (by decide) (by decide) ?_
        rw [up_bn (by omega), up_bn (by omega), g67, r67, ← nI_succ]
        refine fin _ (fun c hc => by rw [up_n hc, up_n hc, up_n hc]) (fun _ => ⟨n, hn, by rw [d52]; exact en, by rw [d10]; exact el, fun j i hj hi => by rw [d53]; exact rows j i hj hi, up_a, fun i h1 h2 => ?_, ?_, ?_⟩)
        · rw [up_bn (by omega), up_bn (by omega), up_bn (by omega), g67]
        · rw [up_bn (by omega), up_bn (by omega), up_a, d0]
        · rw [up_bn (by omega), show 1 + 2 * n + 1 = 2 + 2 * n by omega, up_a, d1, exb]
      cases b
      · rw [if_neg (show ¬ (bif false then (30 : Int32) else 18) = 30 by decide)]; exact go 0 rfl
      · rw [if_pos (show (bif true then (30 : Int32) else 18) = 30 from rfl)]; exact go 1 rfl
    · have imp : ∀ w4 : SG, (∀ c, c ≠ 67 → w4 c = w3 c) → pc (RleakLine_137 w4 (v 64 4) p1.1 (bif b then 30 else 18)) (fun w => LE (QL f L a (RWS 2 8)) (rlC 3 (nI 0) [59] u3 (0 + 1 + 1)) w) := fun w4 q1 => fin w4 q1 (fun z => absurd z fz)
      have i126 : ∀ (w4 : SG) (x y : Int32), (∀ c, c ≠ 67 → w4 c = w3 c) → pc (RleakLine_126 w4 (v 64 4) p1.1 (bif b then 30 else 18) x y) (fun w => LE (QL f L a (RWS 2 8)) (rlC 3 (nI 0) [59] u3 (0 + 1 + 1)) w) := by
        intro w4 x y q1
        unfold RleakLine_126
        exact pc_wr (fun j1 => pc_rd (fun _ => pc_wr (fun j2 => imp _ (fun c hc => by rw [up_n hc, up_n hc, q1 c hc]))))
      exact pc_rd (fun _ => pc_i (fun _ => imp _ (fun _ _ => rfl)) (fun _ => pc_rd (fun _ => pc_wr (fun j => pc_rd (fun _ => pc_i (fun _ => i126 _ _ _ (fun c hc => up_n hc)) (fun _ => i126 _ _ _ (fun c hc => up_n hc)))))))
end XTJ
end
section
section XTK
variable {sc : Nat × (Nat → Int32)} {d : Nat} {K : List KD} {r q t a B m : Nat} {w : EW}
/-! lines of summers, bargains, years and orders, on both sides -/
section AL
variable {f : Nat → Int32} {L a a2 e2 y N : Nat} {u w : SG} {so line x0 x1 x2 x3 x4 : Int32}
/-- what the class takes of a line: a row more -/
def TKR (u4 : SG) (so line x0 x1 x2 x3 x4 : Int32) : Prop := ∃ (t : SG) (yy : Nat), yy ≤ 1 ∧ tkeS u4 so line = adwS t x0 (nI yy) ∧ (∀ c, c ≠ 55 → t c = u4 c) ∧ x1 = t 55 yy ∧ x2 = t 55 (yy + 1) ∧ x3 = t 55 (yy + 2) ∧ x4 = cl 5 (t 55) (nI (yy + 3))
/-- a row more of five numbers, the end of the line -/
theorem add_l (ha : a < a2) (sm : SM f L a2 e2 u w) (hN : N ≤ 40) (hx0 : NB x0 (bnd N) ∧ (N = 40 → x0 = 0 → NB x2 9 ∧ NB x3 9 ∧ NB x4 9))
    (hR : w 65 7 = 0 → (∃ n, n < N ∧ u 52 0 = nI n ∧ u 43 10 = nI (n + 1) ∧ w 67 0 = nI n ∧ (∀ j i, j < n → i < 5 → u 53 (5 * j + i) = w 67 (1 + 5 * j + i)) ∧ ∀ j, j < n → ROK N (fun i => w 67 (1 + 5 * j + i))) ∧ ∀ u4 : SG, u4 55 = u 55 → TKR u4 so line x0 x1 x2 x3 x4)
    : pc ((Radds w (nI N) x0 x1 x2 x3 x4).bind fun s => (RendsLine s).bind fun s1 => some s1) (fun w => LE (QL f L a (RWS 5 N)) (rlC so line [59] u y) w) := by
  by_cases z : w 65 7 = 0
  · obtain ⟨⟨n, hn, en, el, r67, rows, bds⟩, ht⟩ := hR z
    have i0 : (1 : Int32) + 5 * nI n = nI (1 + 5 * n) := by rw [show (5 : Int32) * nI n = nI (5 * n) from nI_mulx 5 n]; exact nI_add 1 _
    have ex : Radds w (nI N) x0 x1 x2 x3 x4 = some (up (up (up (up (up (up w 67 (1 + 5 * n) x0) 67 (1 + 5 * n + 1) x1) 67 (1 + 5 * n + 2) x2) 67 (1 + 5 * n + 3) x3) 67 (1 + 5 * n + 4) x4) 67 0 (nI (n + 1))) := by
      unfold Radds
      rw [rd_nI (x := 0) (e := 0) rfl (by decide) (by decide)]
      show (if w 67 0 < nI N then _ else _) = _
      rw [r67, if_pos (nI_lt2 hn (by omega))]
      show (wrI w 67 201 (1 + 5 * nI n) x0).bind _ = _
      rw [i0, wr_nI (e := 1 + 5 * n) rfl (by omega) (by decide)]
      show (wrI _ 67 201 (nI (1 + 5 * n) + 1) x1).bind _ = _
      rw [wr_nI (e := 1 + 5 * n + 1) (by rw [← nI_succ]) (by omega) (by decide)]
      show (wrI _ 67 201 (nI (1 + 5 * n) + 2) x2).bind _ = _
      rw [wr_nI (x := nI (1 + 5 * n) + 2) (e := 1 + 5 * n + 2) (nI_add _ 2) (by omega) (by decide)]
      show (wrI _ 67 201 (nI (1 + 5 * n) + 3) x3).bind _ = _
      rw [wr_nI (x := nI (1 + 5 * n) + 3) (e := 1 + 5 * n + 3) (nI_add _ 3) (by omega) (by decide)]
      show (wrI _ 67 201 (nI (1 + 5 * n) + 4) x4).bind _ = _
      rw [wr_nI (x := nI (1 + 5 * n) + 4) (e := 1 + 5 * n + 4) (nI_add _ 4) (by omega) (by decide)]
      rw [Option.bind_some, rd_nI (x := 0) (e := 0) rfl (by decide) (by decide), Option.bind_some, wr_nI (x := 0) (e := 0) rfl (by decide) (by decide), up_bn (by omega), up_bn (by omega), up_bn (by omega), up_bn (by omega), up_bn (by omega), r67, ← nI_succ]
      rfl
    rw [ex]
    refine end_l ha (SM_67 sm (fun c hc => by rw [up_n hc, up_n hc, up_n hc, up_n hc, up_n hc, up_n hc])) (fun _ u4 w5 frc5 f55 frr5 => ?_)
    obtain ⟨t, yy, hy, et, tc, y1, y2, y3, y4⟩ := ht u4 f55
    rw [et]
    have e67 := frr5.1 67 (by decide) (by decide)
    have k0 : w5 67 (1 + 5 * n + 0) = x0 := by
      rw [e67, up_bn (by omega), up_bn (by omega), up_bn (by omega), up_bn (by omega), up_bn (by omega)]; exact up_a
    have k2 : w5 67 (1 + 5 * n + 2) = x2 := by rw [e67, up_bn (by omega), up_bn (by omega), up_bn (by omega), up_a]
    have k3 : w5 67 (1 + 5 * n + 3) = x3 := by rw [e67, up_bn (by omega), up_bn (by omega), up_a]
    have k4 : w5 67 (1 + 5 * n + 4) = x4 := by rw [e67, up_bn (by omega), up_a]
    have ro : ROK N (fun i => w5 67 (1 + 5 * n + i)) := by
      unfold ROK
      show NB (w5 67 (1 + 5 * n + 0)) _ ∧ (_ → w5 67 (1 + 5 * n + 0) = 0 → NB (w5 67 (1 + 5 * n + 2)) 9 ∧ NB (w5 67 (1 + 5 * n + 3)) 9 ∧ NB (w5 67 (1 + 5 * n + 4)) 9)
      rw [k0, k2, k3, k4]; exact hx0
    have rr := row_add (c := 5) (N := N) (n := n) (y := yy) (u2 := t) (v := w) (w2 := w5) (x := x0) (by decide) hn hN hy (by rw [tc 52 (by decide), frc5.1 52 (by decide) (by decide)]; exact en) (by rw [tc 43 (by decide), frc5.2 10 (by decide) (by decide) (by decide) (by decide) (by decide)]; exact el) (fun j i hj hi => by rw [tc 53 (by decide), frc5.1 53 (by decide) (by decide)]; exact rows j i hj hi) (by rw [e67, up_a]) (fun i h1 h2 => by rw [e67, up_bn (by omega), up_bn (by omega), up_bn (by omega), up_bn (by omega), up_bn (by omega), up_bn (by omega)]) (fun _ => ⟨ro, bds⟩) (fun i hi => ?_)
    · exact ⟨fun j _ => by rw [rr.1 j, tc 43 (by decide)], by rw [rr.2.1, tc 54 (by decide)], rr.2.2⟩
    · rw [e67]
      rcases (by omega : i = 0 ∨ i = 1 ∨ i = 2 ∨ i = 3 ∨ i = 4) with rfl | rfl | rfl | rfl | rfl
      · rw [if_pos rfl, up_bn (by omega), up_bn (by omega), up_bn (by omega), up_bn (by omega), up_bn (by omega)]; exact up_a
      · rw [if_neg (by decide), up_bn (by omega), up_bn (by omega), up_bn (by omega), up_bn (by omega), up_a, y1, show yy + 1 - 1 = yy by omega, cl5 (by omega)]
      · rw [if_neg (by decide), up_bn (by omega), up_bn (by omega), up_bn (by omega), up_a, y2, show yy + 2 - 1 = yy + 1 by omega, cl5 (by omega)]
      · rw [if_neg (by decide), up_bn (by omega), up_bn (by omega), up_a, y3, show yy + 3 - 1 = yy + 2 by omega, cl5 (by omega)]
      · rw [if_neg (by decide), up_bn (by omega), up_a, y4, show yy + 4 - 1 = yy + 3 by omega]
  · have go : ∀ w4 : SG, (∀ c, c ≠ 67 → w4 c = w c) → pc ((RendsLine w4).bind fun s1 => some s1) (fun w => LE (QL f L a (RWS 5 N)) (rlC so line [59] u y) w) := fun w4 q1 => end_l ha (SM_67 sm q1) (fun z2 => absurd (by rw [← q1 65 (by decide)]; exact z2) z)
    have ad : pc (Radds w (nI N) x0 x1 x2 x3 x4) (fun w4 => ∀ c, c ≠ 67 → w4 c = w c) := by
      unfold Radds
      exact pc_rd (fun _ => pc_i (fun _ => pc_rd (fun _ => pc_wr (fun _ => pc_wr (fun _ => pc_wr (fun _ => pc_wr (fun _ => pc_wr (fun _ => pc_rd (fun _ => pc_wr (fun _ => pc_s (fun c hc => by rw [up_n hc, up_n hc, up_n hc, up_n hc, up_n hc, up_n hc])))))))))) (fun _ => pc_s (fun _ _ => rfl)))
    exact pc_b ad (fun w4 q1 => go w4 q1)
end AL
theorem w_su142 {u v : SG} {y1 y2 y3 y4 y5 : Int32} (hw : WE u v) : pc (RsummerLine_142 v y1 y2 y3 y4 y5) (fun w => WE u w) := by
  unfold RsummerLine_142
  repeat' first
    | exact pc_s (by assumption)
    | exact we_sem (by assumption) (pc_s (by assumption))
    | refine we_num (by assumption) (fun _ => ?_)
    | refine we_kin (by assumption) (fun _ => ?_)
    | refine we_sea (by assumption) (fun _ => ?_)
    | refine we_tak (by assumption) (fun _ => ?_)
    | refine we_add (by assumption) (fun _ _ => ?_)
    | refine we_als (by assumption) ?_
    | refine we_wri (by assumption) (fun _ _ => ?_)
    | refine we_min (by assumption) (fun _ _ _ => ?_)
    | refine pc_i (fun _ => ?_) (fun _ => ?_)
    | refine pc_rd (fun _ => ?_)
theorem w_su38 {u v : SG} {y1 : Int32} (hw : WE u v) : pc (RsummerLine_38 v y1) (fun w => WE u w) := by
  unfold RsummerLine_38
  repeat' first
    | exact w_su142 (by assumption)
    | exact pc_s (by assumption)
    | exact we_sem (by assumption) (pc_s (by assumption))
    | refine we_num (by assumption) (fun _ => ?_)
    | refine we_kin (by assumption) (fun _ => ?_)
    | refine we_sea (by assumption) (fun _ => ?_)
    | refine we_tak (by assumption) (fun _ => ?_)
    | refine we_add (by assumption) (fun _ _ => ?_)
    | refine we_als (by assumption) ?_
    | refine we_wri (by assumption) (fun _ _ => ?_)
    | refine we_min (by assumption) (fun _ _ _ => ?_)
    | refine pc_i (fun _ => ?_) (fun _ => ?_)
    | refine pc_rd (fun _ => ?_)
theorem w_ba38 {u v : SG} {y1 y2 : Int32} (hw : WE u v) : pc (RbargainLine_38 v y1 y2) (fun w => WE u w) := by
  unfold RbargainLine_38
  repeat' first
    | exact pc_s (by assumption)
    | exact we_sem (by assumption) (pc_s (by assumption))
    | refine we_num (by assumption) (fun _ => ?_)
    | refine we_kin (by assumption) (fun _ => ?_)
    | refine we_sea (by assumption) (fun _ => ?_)
    | refine we_tak (by assumption) (fun _ => ?_)
    | refine we_add (by assumption) (fun _ _ => ?_)
    | refine we_als (by assumption) ?_
    | refine we_wri (by assumption) (fun _ _ => ?_)
    | refine we_min (by assumption) (fun _ _ _ => ?_)
    | refine pc_i (fun _ => ?_) (fun _ => ?_)
    | refine pc_rd (fun _ => ?_)
theorem w_y201 {u v : SG} {y1 y2 : Int32} (hw : WE u v) : pc (RyearLine_201 v y1 y2) (fun w => WE u w) := by
  unfold RyearLine_201
  repeat' first
    | exact pc_s (by assumption)
    | exact we_sem (by assumption) (pc_s (by assumption))
    | refine we_num (by assumption) (fun _ => ?_)
    | refine we_kin (by assumption) (fun _ => ?_)
    | refine we_sea (by assumption) (fun _ => ?_)
    | refine we_tak (by assumption) (fun _ => ?_)
    | refine we_add (by assumption) (fun _ _ => ?_)
    | refine we_als (by assumption) ?_
    | refine we_wri (by assumption) (fun _ _ => ?_)
    | refine we_min (by assumption) (fun _ _ _ => ?_)
    | refine pc_i (fun _ => ?_) (fun _ => ?_)
    | refine pc_rd (fun _ => ?_)
theorem w_y184 {u v : SG} {y1 y2 : Int32} (hw : WE u v) : pc (RyearLine_184 v y1 y2) (fun w => WE u w) := by
  unfold RyearLine_184
  repeat' first
    | exact w_y201 (by assumption)
    | exact pc_s (by assumption)
    | exact we_sem (by assumption) (pc_s (by assumption))
    | refine we_num (by assumption) (fun _ => ?_)
    | refine we_kin (by assumption) (fun _ => ?_)
    | refine we_sea (by assumption) (fun _ => ?_)
    | refine we_tak (by assumption) (fun _ => ?_)
    | refine we_add (by assumption) (fun _ _ => ?_)
    | refine we_als (by assumption) ?_
    | refine we_wri (by assumption) (fun _ _ => ?_)
    | refine we_min (by assumption) (fun _ _ _ => ?_)
    | refine pc_i (fun _ => ?_) (fun _ => ?_)
    | refine pc_rd (fun _ => ?_)
theorem w_y163 {u v : SG} {y1 y2 : Int32} (hw : WE u v) : pc (RyearLine_163 v y1 y2) (fun w => WE u w) := by
  unfold RyearLine_163
  repeat' first
    | exact w_y184 (by assumption)
    | exact pc_s (by assumption)
    | exact we_sem (by assumption) (pc_s (by assumption))
    | refine we_num (by assumption) (fun _ => ?_)
    | refine we_kin (by assumption) (fun _ => ?_)
    | refine we_sea (by assumption) (fun _ => ?_)
    | refine we_tak (by assumption) (fun _ => ?_)
    | refine we_add (by assumption) (fun _ _ => ?_)
    | refine we_als (by assumption) ?_
    | refine we_wri (by assumption) (fun _ _ => ?_)
    | refine we_min (by assumption) (fun _ _ _ => ?_)
    | refine pc_i (fun _ => ?_) (fun _ => ?_)
    | refine pc_rd (fun _ => ?_)
theorem w_y151 {u v : SG} {y1 y2 : Int32} (hw : WE u v) : pc (RyearLine_151 v y1 y2) (fun w => WE u w) := by
  unfold RyearLine_151
  repeat' first
    | exact w_y163 (by assumption)
    | exact w_y184 (by assumption)
    | exact pc_s (by assumption)
    | exact we_sem (by assumption) (pc_s (by assumption))
    | refine we_num (by assumption) (fun _ => ?_)
    | refine we_kin (by assumption) (fun _ => ?_)
    | refine we_sea (by assumption) (fun _ => ?_)
    | refine we_tak (by assumption) (fun _ => ?_)
    | refine we_add (by assumption) (fun _ _ => ?_)
    | refine we_als (by assumption) ?_
    | refine we_wri (by assumption) (fun _ _ => ?_)
    | refine we_min (by assumption) (fun _ _ _ => ?_)
    | refine pc_i (fun _ => ?_) (fun _ => ?_)
    | refine pc_rd (fun _ => ?_)
theorem w_y125 {u v : SG} {y1 y2 : Int32} (hw : WE u v) : pc (RyearLine_125 v y1 y2) (fun w => WE u w) := by
  unfold RyearLine_125
  repeat' first
    | exact w_y151 (by assumption)
    | exact pc_s (by assumption)
    | exact we_sem (by assumption) (pc_s (by assumption))
    | refine we_num (by assumption) (fun _ => ?_)
    | refine we_kin (by assumption) (fun _ => ?_)
    | refine we_sea (by assumption) (fun _ => ?_)
    | refine we_tak (by assumption) (fun _ => ?_)
    | refine we_add (by assumption) (fun _ _ => ?_)
    | refine we_als (by assumption) ?_
    | refine we_wri (by assumption) (fun _ _ => ?_)
    | refine we_min (by assumption) (fun _ _ _ => ?_)
    | refine pc_i (fun _ => ?_) (fun _ => ?_)
    | refine pc_rd (fun _ => ?_)
theorem w_y105 {u v : SG} {y1 y2 : Int32} (hw : WE u v) : pc (RyearLine_105 v y1 y2) (fun w => WE u w) := by
  unfold RyearLine_105
  repeat' first
    | exact w_y125 (by assumption)
    | exact pc_s (by assumption)
    | exact we_sem (by assumption) (pc_s (by assumption))
    | refine we_num (by assumption) (fun _ => ?_)
    | refine we_kin (by assumption) (fun _ => ?_)
    | refine we_sea (by assumption) (fun _ => ?_)
    | refine we_tak (by assumption) (fun _ => ?_)
    | refine we_add (by assumption) (fun _ _ => ?_)
    | refine we_als (by assumption) ?_
    | refine we_wri (by assumption) (fun _ _ => ?_)
    | refine we_min (by assumption) (fun _ _ _ => ?_)
    | refine pc_i (fun _ => ?_) (fun _ => ?_)
    | refine pc_rd (fun _ => ?_)
theorem w_y55 {u v : SG} {y1 y2 : Int32} (hw : WE u v) : pc (RyearLine_55 v y1 y2) (fun w => WE u w) := by
  unfold RyearLine_55
  repeat' first
    | exact w_y105 (by assumption)
    | exact pc_s (by assumption)
    | exact we_sem (by assumption) (pc_s (by assumption))
    | refine we_num (by assumption) (fun _ => ?_)
    | refine we_kin (by assumption) (fun _ => ?_)
    | refine we_sea (by assumption) (fun _ => ?_)
    | refine we_tak (by assumption) (fun _ => ?_)
    | refine we_add (by assumption) (fun _ _ => ?_)
    | refine we_als (by assumption) ?_
    | refine we_wri (by assumption) (fun _ _ => ?_)
    | refine we_min (by assumption) (fun _ _ _ => ?_)
    | refine pc_i (fun _ => ?_) (fun _ => ?_)
    | refine pc_rd (fun _ => ?_)
theorem w_y30 {u v : SG} {y1 y2 : Int32} (hw : WE u v) : pc (RyearLine_30 v y1 y2) (fun w => WE u w) := by
  unfold RyearLine_30
  repeat' first
    | exact w_y55 (by assumption)
    | exact pc_s (by assumption)
    | exact we_sem (by assumption) (pc_s (by assumption))
    | refine we_num (by assumption) (fun _ => ?_)
    | refine we_kin (by assumption) (fun _ => ?_)
    | refine we_sea (by assumption) (fun _ => ?_)
    | refine we_tak (by assumption) (fun _ => ?_)
    | refine we_add (by assumption) (fun _ _ => ?_)
    | refine we_als (by assumption) ?_
    | refine we_wri (by assumption) (fun _ _ => ?_)
    | refine we_min (by assumption) (fun _ _ _ => ?_)
    | refine pc_i (fun _ => ?_) (fun _ => ?_)
    | refine pc_rd (fun _ => ?_)
theorem w_o140 {u v : SG} {y1 y2 : Int32} (hw : WE u v) : pc (RorderLine_140 v y1 y2) (fun w => WE u w) := by
  unfold RorderLine_140
  repeat' first
    | exact pc_s (by assumption)
    | exact we_sem (by assumption) (pc_s (by assumption))
    | refine we_num (by assumption) (fun _ => ?_)
    | refine we_kin (by assumption) (fun _ => ?_)
    | refine we_sea (by assumption) (fun _ => ?_)
    | refine we_tak (by assumption) (fun _ => ?_)
    | refine we_add (by assumption) (fun _ _ => ?_)
    | refine we_als (by assumption) ?_
    | refine we_wri (by assumption) (fun _ _ => ?_)
    | refine we_min (by assumption) (fun _ _ _ => ?_)
    | refine pc_i (fun _ => ?_) (fun _ => ?_)
    | refine pc_rd (fun _ => ?_)
theorem w_o91 {u v : SG} {y1 y2 : Int32} (hw : WE u v) : pc (RorderLine_91 v y1 y2) (fun w => WE u w) := by
  unfold RorderLine_91
  repeat' first
    | exact w_o140 (by assumption)
    | exact pc_s (by assumption)
    | exact we_sem (by assumption) (pc_s (by assumption))
    | refine we_num (by assumption) (fun _ => ?_)
    | refine we_kin (by assumption) (fun _ => ?_)
    | refine we_sea (by assumption) (fun _ => ?_)
    | refine we_tak (by assumption) (fun _ => ?_)
    | refine we_add (by assumption) (fun _ _ => ?_)
    | refine we_als (by assumption) ?_
    | refine we_wri (by assumption) (fun _ _ => ?_)
    | refine we_min (by assumption) (fun _ _ _ => ?_)
    | refine pc_i (fun _ => ?_) (fun _ => ?_)
    | refine pc_rd (fun _ => ?_)
theorem w_o68 {u v : SG} {y1 y2 : Int32} (hw : WE u v) : pc (RorderLine_68 v y1 y2) (fun w => WE u w) := by
  unfold RorderLine_68
  repeat' first
    | exact w_o91 (by assumption)
    | exact pc_s (by assumption)
    | exact we_sem (by assumption) (pc_s (by assumption))
    | refine we_num (by assumption) (fun _ => ?_)
    | refine we_kin (by assumption) (fun _ => ?_)
    | refine we_sea (by assumption) (fun _ => ?_)
    | refine we_tak (by assumption) (fun _ => ?_)
    | refine we_add (by assumption) (fun _ _ => ?_)
    | refine we_als (by assumption) ?_
    | refine we_wri (by assumption) (fun _ _ => ?_)
    | refine we_min (by assumption) (fun _ _ _ => ?_)
    | refine pc_i (fun _ => ?_) (fun _ => ?_)
    | refine pc_rd (fun _ => ?_)
theorem w_no62 {u v : SG} {y1 y2 y3 y4 : Int32} (hw : WE u v) : pc (RnoLine_62 v y1 y2 y3 y4) (fun w => WE u w) := by
  unfold RnoLine_62
  repeat' first
    | exact pc_s (by assumption)
    | exact we_sem (by assumption) (pc_s (by assumption))
    | refine we_num (by assumption) (fun _ => ?_)
    | refine we_kin (by assumption) (fun _ => ?_)
    | refine we_sea (by assumption) (fun _ => ?_)
    | refine we_tak (by assumption) (fun _ => ?_)
    | refine we_add (by assumption) (fun _ _ => ?_)
    | refine we_als (by assumption) ?_
    | refine we_wri (by assumption) (fun _ _ => ?_)
    | refine we_min (by assumption) (fun _ _ _ => ?_)
    | refine pc_i (fun _ => ?_) (fun _ => ?_)
    | refine pc_rd (fun _ => ?_)
theorem w_no {u v : SG} {β : Type} {P : β → Prop} {k : SG → Option β} (h : WE u v) (g : ∀ w, WE u w → pc (k w) P) : pc ((RnoLine v).bind k) P := by
  refine pc_b (Q := fun w => WE u w) ?_ (fun w hw => g w hw)
  unfold RnoLine
  refine we_kin h (fun _ => we_tak h (fun _ => we_num h (fun _ => pc_i (fun z => absurd z h.1) (fun _ => ?_))))
  exact w_no62 h
theorem w_o58 {u v : SG} {y1 y2 : Int32} (hw : WE u v) : pc (RorderLine_58 v y1 y2) (fun w => WE u w) := by
  unfold RorderLine_58
  repeat' first
    | exact w_o68 (by assumption)
    | refine w_no (by assumption) (fun _ _ => ?_)
    | exact pc_s (by assumption)
    | exact we_sem (by assumption) (pc_s (by assumption))
    | refine we_num (by assumption) (fun _ => ?_)
    | refine we_kin (by assumption) (fun _ => ?_)
    | refine we_sea (by assumption) (fun _ => ?_)
    | refine we_tak (by assumption) (fun _ => ?_)
    | refine we_add (by assumption) (fun _ _ => ?_)
    | refine we_als (by assumption) ?_
    | refine we_wri (by assumption) (fun _ _ => ?_)
    | refine we_min (by assumption) (fun _ _ _ => ?_)
    | refine pc_i (fun _ => ?_) (fun _ => ?_)
    | refine pc_rd (fun _ => ?_)
theorem w_o33 {u v : SG} {y1 y2 : Int32} (hw : WE u v) : pc (RorderLine_33 v y1 y2) (fun w => WE u w) := by
  unfold RorderLine_33
  repeat' first
    | exact w_o58 (by assumption)
    | exact pc_s (by assumption)
    | exact we_sem (by assumption) (pc_s (by assumption))
    | refine we_num (by assumption) (fun _ => ?_)
    | refine we_kin (by assumption) (fun _ => ?_)
    | refine we_sea (by assumption) (fun _ => ?_)
    | refine we_tak (by assumption) (fun _ => ?_)
    | refine we_add (by assumption) (fun _ _ => ?_)
    | refine we_als (by assumption) ?_
    | refine we_wri (by assumption) (fun _ _ => ?_)
    | refine we_min (by assumption) (fun _ _ _ => ?_)
    | refine pc_i (fun _ => ?_) (fun _ => ?_)
    | refine pc_rd (fun _ => ?_)
theorem yr_move {f : Nat → Int32} {L a a2 e2 : Nat} {u v u0 w0 : SG} {y1 : Int32} (ct : v 65 7 = 0 → RWS 5 40 u v) (ha2 : a < a2) (sm : SM f L a2 e2 u0 w0) (f0 : RL0 u u0) (f67 : w0 67 = v 67) (hz : w0 65 7 = 0 → v 65 7 = 0 ∧ ∃ n, n < 40 ∧ u 43 10 = nI n ∧ v 67 0 = nI n) : pc (RyearLine_55 w0 y1 24) (fun w => LE (QL f L a (RWS 5 40)) (rlC 2 (nI 0) [109, 97, 97, 97, 59] u0 0) w) := by
  unfold RyearLine_55
  rw [if_pos rfl]
  have ev : ∀ s : SG, RyearLine_105 s y1 24 = (RendsLine s).bind fun s1 => some s1 := by
    intro s
    unfold RyearLine_105 RyearLine_125 RyearLine_151 RyearLine_184 RyearLine_201
    rw [if_neg (by decide), if_neg (by decide), if_neg (by decide), if_neg (by decide), if_neg (by decide)]
  simp only [ev]
  refine LX_m sm (by omega) (fun u1 p1 b1 e1 x1 hb1 sm1 frc1 g1 frr1 hx1 nb1 => ?_) (fun _ _ hw => we_num hw (fun _ => we_num hw (fun _ => we_num hw (fun _ => we_add hw (fun _ h2 => we_sem h2 (pc_s h2))))))
  refine LX_a sm1 (by omega) (fun u2 p2 b2 e2 x2 hb2 sm2 frc2 g2 frr2 hx2 nb2 => ?_) (fun _ _ hw => we_num hw (fun _ => we_num hw (fun _ => we_add hw (fun _ h2 => we_sem h2 (pc_s h2)))))
  refine LX_a sm2 (by omega) (fun u3 p3 b3 e3 x3 hb3 sm3 frc3 g3 frr3 hx3 nb3 => ?_) (fun _ _ hw => we_num hw (fun _ => we_add hw (fun _ h2 => we_sem h2 (pc_s h2))))
  refine LX_a sm3 (by omega) (fun u4 p4 b4 e4 x4 hb4 sm4 frc4 g4 frr4 hx4 nb4 => ?_) (fun _ _ hw => we_add hw (fun _ h2 => we_sem h2 (pc_s h2)))
  refine add_l (N := 40) (by omega) sm4 (by decide) ⟨⟨0, rfl, by decide⟩, fun _ _ => ⟨nb2, nb3, nb4⟩⟩ (fun z => ?_)
  obtain ⟨z4, v4⟩ := hx4 z
  obtain ⟨z3, v3⟩ := hx3 z4
  obtain ⟨z2, v2⟩ := hx2 z3
  obtain ⟨z1, v1⟩ := hx1 z2
  obtain ⟨n, hn, en, el, r67, rows, bds⟩ := rws_0 ct (by decide) f0 hz z1
  have k67 : p4.2 67 = v 67 := by rw [frr4.1 67 (by decide) (by decide), frr3.1 67 (by decide) (by decide), frr2.1 67 (by decide) (by decide), frr1.1 67 (by decide) (by decide), f67]
  have k52 : u4 52 = u0 52 := by rw [frc4.1 52 (by decide) (by decide), frc3.1 52 (by decide) (by decide), frc2.1 52 (by decide) (by decide), frc1.1 52 (by decide) (by decide)]
  have k53 : u4 53 = u0 53 := by rw [frc4.1 53 (by decide) (by decide), frc3.1 53 (by decide) (by decide), frc2.1 53 (by decide) (by decide), frc1.1 53 (by decide) (by decide)]
  have k10 : u4 43 10 = u0 43 10 := by rw [frc4.2 10 (by decide) (by decide) (by decide) (by decide) (by decide), frc3.2 10 (by decide) (by decide) (by decide) (by decide) (by decide), frc2.2 10 (by decide) (by decide) (by decide) (by decide) (by decide), frc1.2 10 (by decide) (by decide) (by decide) (by decide) (by decide)]
  have d0 : u4 55 0 = p1.1 := by rw [g4, upd_b (by decide), g3, upd_b (by decide), g2, upd_b (by decide), g1, upd_a]; exact v1
  have d1 : u4 55 1 = p2.1 := by rw [g4, upd_b (by decide), g3, upd_b (by decide), g2, upd_a]; exact v2
  have d2 : u4 55 2 = p3.1 := by rw [g4, upd_b (by decide), g3, upd_a]; exact v3
  have d3 : u4 55 3 = p4.1 := by rw [g4, upd_a]; exact v4
  have d4 : u4 55 4 = -1 := by rw [g4, upd_b (by decide), g3, upd_b (by decide), g2, upd_b (by decide), g1, upd_b (by decide)]; exact f0.2.2.2 4 (by decide)
  refine ⟨⟨n, hn, by rw [k52]; exact en, by rw [k10]; exact el, by rw [k67]; exact r67, fun j i hj hi => by rw [k53, k67]; exact rows j i hj hi, fun j hj => ROK_g (bds rfl j hj) (fun i _ => by show _ = _; rw [k67])⟩, fun u4 e55 => ?_⟩
  have e : tkeS u4 2 (nI 0) = adwS u4 (nI 0) (nI 0) := by
    unfold tkeS tkeSW
    rw [if_neg (by decide), if_neg (by decide), if_pos rfl]; rfl
  refine ⟨u4, 0, by decide, e, fun _ _ => rfl, ?_, ?_, ?_, ?_⟩
  · rw [e55]; exact d0.symm
  · rw [e55]; exact d1.symm
  · rw [e55]; exact d2.symm
  · rw [e55, show 0 + 3 = 3 from rfl, cl5 (by decide)]; exact d3.symm
theorem yr_season {f : Nat → Int32} {L a a2 e2 : Nat} {u v u0 w0 : SG} {y1 : Int32} (ct : v 65 7 = 0 → RWS 5 40 u v) (ha2 : a < a2) (sm : SM f L a2 e2 u0 w0) (f0 : RL0 u u0) (f67 : w0 67 = v 67) (hz : w0 65 7 = 0 → v 65 7 = 0 ∧ ∃ n, n < 40 ∧ u 43 10 = nI n ∧ v 67 0 = nI n) : pc (RyearLine_55 w0 y1 25) (fun w => LE (QL f L a (RWS 5 40)) (rlC 2 (nI 1) [115, 59] u0 0) w) := by
  unfold RyearLine_55
  rw [if_neg (by decide)]
  unfold RyearLine_105
  rw [if_pos rfl]
  have ev : ∀ s : SG, RyearLine_125 s y1 25 = (RendsLine s).bind fun s1 => some s1 := by
    intro s
    unfold RyearLine_125 RyearLine_151 RyearLine_184 RyearLine_201
    rw [if_neg (by decide), if_neg (by decide), if_neg (by decide), if_neg (by decide)]
  simp only [ev]
  refine LX_sea sm (by omega) (fun u1 q1 b1 e1 j1 hb1 hj1 sm1 frc1 g1 frr1 h65_1 => ?_) (fun _ _ hw => we_add hw (fun _ h2 => we_sem h2 (pc_s h2)))
  try dsimp only
  refine add_l (N := 40) (by omega) sm1 (by decide) ⟨⟨1, rfl, by decide⟩, fun _ h => absurd h (by decide)⟩ (fun z => ?_)
  have z1 := z
  rw [h65_1] at z1
  obtain ⟨n, hn, en, el, r67, rows, bds⟩ := rws_0 ct (by decide) f0 hz z1
  have k67 : q1 67 = v 67 := by rw [frr1.1 67 (by decide) (by decide), f67]
  have k52 : u1 52 = u0 52 := by rw [frc1.1 52 (by decide) (by decide)]
  have k53 : u1 53 = u0 53 := by rw [frc1.1 53 (by decide) (by decide)]
  have k10 : u1 43 10 = u0 43 10 := by rw [frc1.2 10 (by decide) (by decide) (by decide) (by decide) (by decide)]
  have d0 : u1 55 0 = nI j1 := by rw [g1, upd_a]
  have d1 : u1 55 1 = -1 := by rw [g1, upd_b (by decide)]; exact f0.2.2.2 1 (by decide)
  have d2 : u1 55 2 = -1 := by rw [g1, upd_b (by decide)]; exact f0.2.2.2 2 (by decide)
  have d3 : u1 55 3 = -1 := by rw [g1, upd_b (by decide)]; exact f0.2.2.2 3 (by decide)
  have d4 : u1 55 4 = -1 := by rw [g1, upd_b (by decide)]; exact f0.2.2.2 4 (by decide)
  refine ⟨⟨n, hn, by rw [k52]; exact en, by rw [k10]; exact el, by rw [k67]; exact r67, fun j i hj hi => by rw [k53, k67]; exact rows j i hj hi, fun j hj => ROK_g (bds rfl j hj) (fun i _ => by show _ = _; rw [k67])⟩, fun u4 e55 => ?_⟩
  have e : tkeS u4 2 (nI 1) = adwS u4 (nI 1) (nI 0) := by
    unfold tkeS tkeSW
    rw [if_neg (by decide), if_neg (by decide), if_pos rfl]; rfl
  refine ⟨u4, 0, by decide, e, fun _ _ => rfl, ?_, ?_, ?_, ?_⟩
  · rw [e55]; exact d0.symm
  · rw [e55]; exact d1.symm
  · rw [e55]; exact d2.symm
  · rw [e55, show 0 + 3 = 3 from rfl, cl5 (by decide)]; exact d3.symm
theorem yr_office {f : Nat → Int32} {L a a2 e2 : Nat} {u v u0 w0 : SG} {y1 : Int32} (ct : v 65 7 = 0 → RWS 5 40 u v) (ha2 : a < a2) (sm : SM f L a2 e2 u0 w0) (f0 : RL0 u u0) (f67 : w0 67 = v 67) (hz : w0 65 7 = 0 → v 65 7 = 0 ∧ ∃ n, n < 40 ∧ u 43 10 = nI n ∧ v 67 0 = nI n) : pc (RyearLine_55 w0 y1 5) (fun w => LE (QL f L a (RWS 5 40)) (rlC 2 (nI 2) [107, 109, 59] u0 0) w) := by
  unfold RyearLine_55
  rw [if_neg (by decide)]
  unfold RyearLine_105
  rw [if_neg (by decide)]
  unfold RyearLine_125
  rw [if_pos rfl]
  have ev : ∀ s : SG, RyearLine_151 s y1 5 = (RendsLine s).bind fun s1 => some s1 := by
    intro s
    unfold RyearLine_151 RyearLine_184 RyearLine_201
    rw [if_neg (by decide), if_neg (by decide), if_neg (by decide)]
  simp only [ev]
  refine LX_kin sm (by omega) (fun u1 q1 b1 e1 j1 hb1 hj1 sm1 frc1 g1 frr1 h65_1 => ?_) (fun _ _ hw => we_num hw (fun _ => we_add hw (fun _ h2 => we_sem h2 (pc_s h2))))
  try dsimp only
  refine LX_m sm1 (by omega) (fun u2 p2 b2 e2 x2 hb2 sm2 frc2 g2 frr2 hx2 nb2 => ?_) (fun _ _ hw => we_add hw (fun _ h2 => we_sem h2 (pc_s h2)))
  refine add_l (N := 40) (by omega) sm2 (by decide) ⟨⟨2, rfl, by decide⟩, fun _ h => absurd h (by decide)⟩ (fun z => ?_)
  obtain ⟨z2, v2⟩ := hx2 z
  have z1 := z2
  rw [h65_1] at z1
  obtain ⟨n, hn, en, el, r67, rows, bds⟩ := rws_0 ct (by decide) f0 hz z1
  have k67 : p2.2 67 = v 67 := by rw [frr2.1 67 (by decide) (by decide), frr1.1 67 (by decide) (by decide), f67]
  have k52 : u2 52 = u0 52 := by rw [frc2.1 52 (by decide) (by decide), frc1.1 52 (by decide) (by decide)]
  have k53 : u2 53 = u0 53 := by rw [frc2.1 53 (by decide) (by decide), frc1.1 53 (by decide) (by decide)]
  have k10 : u2 43 10 = u0 43 10 := by rw [frc2.2 10 (by decide) (by decide) (by decide) (by decide) (by decide), frc1.2 10 (by decide) (by decide) (by decide) (by decide) (by decide)]
  have d0 : u2 55 0 = nI j1 := by rw [g2, upd_b (by decide), g1, upd_a]
  have d1 : u2 55 1 = p2.1 := by rw [g2, upd_a]; exact v2
  have d2 : u2 55 2 = -1 := by rw [g2, upd_b (by decide), g1, upd_b (by decide)]; exact f0.2.2.2 2 (by decide)
  have d3 : u2 55 3 = -1 := by rw [g2, upd_b (by decide), g1, upd_b (by decide)]; exact f0.2.2.2 3 (by decide)
  have d4 : u2 55 4 = -1 := by rw [g2, upd_b (by decide), g1, upd_b (by decide)]; exact f0.2.2.2 4 (by decide)
  refine ⟨⟨n, hn, by rw [k52]; exact en, by rw [k10]; exact el, by rw [k67]; exact r67, fun j i hj hi => by rw [k53, k67]; exact rows j i hj hi, fun j hj => ROK_g (bds rfl j hj) (fun i _ => by show _ = _; rw [k67])⟩, fun u4 e55 => ?_⟩
  have e : tkeS u4 2 (nI 2) = adwS u4 (nI 2) (nI 0) := by
    unfold tkeS tkeSW
    rw [if_neg (by decide), if_neg (by decide), if_pos rfl]; rfl
  refine ⟨u4, 0, by decide, e, fun _ _ => rfl, ?_, ?_, ?_, ?_⟩
  · rw [e55]; exact d0.symm
  · rw [e55]; exact d1.symm
  · rw [e55]; exact d2.symm
  · rw [e55, show 0 + 3 = 3 from rfl, cl5 (by decide)]; exact d3.symm
theorem yr_dismiss {f : Nat → Int32} {L a a2 e2 : Nat} {u v u0 w0 : SG} {y1 : Int32} (ct : v 65 7 = 0 → RWS 5 40 u v) (ha2 : a < a2) (sm : SM f L a2 e2 u0 w0) (f0 : RL0 u u0) (f67 : w0 67 = v 67) (hz : w0 65 7 = 0 → v 65 7 = 0 ∧ ∃ n, n < 40 ∧ u 43 10 = nI n ∧ v 67 0 = nI n) : pc (RyearLine_55 w0 y1 26) (fun w => LE (QL f L a (RWS 5 40)) (rlC 2 (nI 3) [109, 59] u0 0) w) := by
  unfold RyearLine_55
  rw [if_neg (by decide)]
  unfold RyearLine_105
  rw [if_neg (by decide)]
  unfold RyearLine_125
  rw [if_neg (by decide)]
  unfold RyearLine_151
  rw [if_pos rfl]
  unfold RyearLine_163
  have ev : ∀ s : SG, RyearLine_184 s y1 26 = (RendsLine s).bind fun s1 => some s1 := by
    intro s
    unfold RyearLine_184 RyearLine_201
    rw [if_neg (by decide)]
  simp only [ev]
  refine LX_m sm (by omega) (fun u1 p1 b1 e1 x1 hb1 sm1 frc1 g1 frr1 hx1 nb1 => ?_) (fun _ _ hw => we_add hw (fun _ h2 => we_sem h2 (pc_s h2)))
  rw [show (3 : Int32) + 26 - 26 = nI 3 from rfl]
  refine add_l (N := 40) (by omega) sm1 (by decide) ⟨⟨3, rfl, by decide⟩, fun _ h => absurd h (by decide)⟩ (fun z => ?_)
  obtain ⟨z1, v1⟩ := hx1 z
  obtain ⟨n, hn, en, el, r67, rows, bds⟩ := rws_0 ct (by decide) f0 hz z1
  have k67 : p1.2 67 = v 67 := by rw [frr1.1 67 (by decide) (by decide), f67]
  have k52 : u1 52 = u0 52 := by rw [frc1.1 52 (by decide) (by decide)]
  have k53 : u1 53 = u0 53 := by rw [frc1.1 53 (by decide) (by decide)]
  have k10 : u1 43 10 = u0 43 10 := by rw [frc1.2 10 (by decide) (by decide) (by decide) (by decide) (by decide)]
  have d0 : u1 55 0 = p1.1 := by rw [g1, upd_a]; exact v1
  have d1 : u1 55 1 = -1 := by rw [g1, upd_b (by decide)]; exact f0.2.2.2 1 (by decide)
  have d2 : u1 55 2 = -1 := by rw [g1, upd_b (by decide)]; exact f0.2.2.2 2 (by decide)
  have d3 : u1 55 3 = -1 := by rw [g1, upd_b (by decide)]; exact f0.2.2.2 3 (by decide)
  have d4 : u1 55 4 = -1 := by rw [g1, upd_b (by decide)]; exact f0.2.2.2 4 (by decide)
  refine ⟨⟨n, hn, by rw [k52]; exact en, by rw [k10]; exact el, by rw [k67]; exact r67, fun j i hj hi => by rw [k53, k67]; exact rows j i hj hi, fun j hj => ROK_g (bds rfl j hj) (fun i _ => by show _ = _; rw [k67])⟩, fun u4 e55 => ?_⟩
  have e : tkeS u4 2 (nI 3) = adwS u4 (nI 3) (nI 0) := by
    unfold tkeS tkeSW
    rw [if_neg (by decide), if_neg (by decide), if_pos rfl]; rfl
  refine ⟨u4, 0, by decide, e, fun _ _ => rfl, ?_, ?_, ?_, ?_⟩
  · rw [e55]; exact d0.symm
  · rw [e55]; exact d1.symm
  · rw [e55]; exact d2.symm
  · rw [e55, show 0 + 3 = 3 from rfl, cl5 (by decide)]; exact d3.symm
theorem yr_recall {f : Nat → Int32} {L a a2 e2 : Nat} {u v u0 w0 : SG} {y1 : Int32} (ct : v 65 7 = 0 → RWS 5 40 u v) (ha2 : a < a2) (sm : SM f L a2 e2 u0 w0) (f0 : RL0 u u0) (f67 : w0 67 = v 67) (hz : w0 65 7 = 0 → v 65 7 = 0 ∧ ∃ n, n < 40 ∧ u 43 10 = nI n ∧ v 67 0 = nI n) : pc (RyearLine_55 w0 y1 27) (fun w => LE (QL f L a (RWS 5 40)) (rlC 2 (nI 4) [109, 59] u0 0) w) := by
  unfold RyearLine_55
  rw [if_neg (by decide)]
  unfold RyearLine_105
  rw [if_neg (by decide)]
  unfold RyearLine_125
  rw [if_neg (by decide)]
  unfold RyearLine_151
  rw [if_neg (by decide), if_pos rfl]
  unfold RyearLine_163
  have ev : ∀ s : SG, RyearLine_184 s y1 27 = (RendsLine s).bind fun s1 => some s1 := by
    intro s
    unfold RyearLine_184 RyearLine_201
    rw [if_neg (by decide)]
  simp only [ev]
  refine LX_m sm (by omega) (fun u1 p1 b1 e1 x1 hb1 sm1 frc1 g1 frr1 hx1 nb1 => ?_) (fun _ _ hw => we_add hw (fun _ h2 => we_sem h2 (pc_s h2)))
  rw [show (3 : Int32) + 27 - 26 = nI 4 from rfl]
  refine add_l (N := 40) (by omega) sm1 (by decide) ⟨⟨4, rfl, by decide⟩, fun _ h => absurd h (by decide)⟩ (fun z => ?_)
  obtain ⟨z1, v1⟩ := hx1 z
  obtain ⟨n, hn, en, el, r67, rows, bds⟩ := rws_0 ct (by decide) f0 hz z1
  have k67 : p1.2 67 = v 67 := by rw [frr1.1 67 (by decide) (by decide), f67]
  have k52 : u1 52 = u0 52 := by rw [frc1.1 52 (by decide) (by decide)]
  have k53 : u1 53 = u0 53 := by rw [frc1.1 53 (by decide) (by decide)]
  have k10 : u1 43 10 = u0 43 10 := by rw [frc1.2 10 (by decide) (by decide) (by decide) (by decide) (by decide)]
  have d0 : u1 55 0 = p1.1 := by rw [g1, upd_a]; exact v1
  have d1 : u1 55 1 = -1 := by rw [g1, upd_b (by decide)]; exact f0.2.2.2 1 (by decide)
  have d2 : u1 55 2 = -1 := by rw [g1, upd_b (by decide)]; exact f0.2.2.2 2 (by decide)
  have d3 : u1 55 3 = -1 := by rw [g1, upd_b (by decide)]; exact f0.2.2.2 3 (by decide)
  have d4 : u1 55 4 = -1 := by rw [g1, upd_b (by decide)]; exact f0.2.2.2 4 (by decide)
  refine ⟨⟨n, hn, by rw [k52]; exact en, by rw [k10]; exact el, by rw [k67]; exact r67, fun j i hj hi => by rw [k53, k67]; exact rows j i hj hi, fun j hj => ROK_g (bds rfl j hj) (fun i _ => by show _ = _; rw [k67])⟩, fun u4 e55 => ?_⟩
  have e : tkeS u4 2 (nI 4) = adwS u4 (nI 4) (nI 0) := by
    unfold tkeS tkeSW
    rw [if_neg (by decide), if_neg (by decide), if_pos rfl]; rfl
  refine ⟨u4, 0, by decide, e, fun _ _ => rfl, ?_, ?_, ?_, ?_⟩
  · rw [e55]; exact d0.symm
  · rw [e55]; exact d1.symm
  · rw [e55]; exact d2.symm
  · rw [e55, show 0 + 3 = 3 from rfl, cl5 (by decide)]; exact d3.symm
theorem yr_pass {f : Nat → Int32} {L a a2 e2 : Nat} {u v u0 w0 : SG} {y1 : Int32} (ct : v 65 7 = 0 → RWS 5 40 u v) (ha2 : a < a2) (sm : SM f L a2 e2 u0 w0) (f0 : RL0 u u0) (f67 : w0 67 = v 67) (hz : w0 65 7 = 0 → v 65 7 = 0 ∧ ∃ n, n < 40 ∧ u 43 10 = nI n ∧ v 67 0 = nI n) : pc (RyearLine_55 w0 y1 28) (fun w => LE (QL f L a (RWS 5 40)) (rlC 2 (nI 5) [59] u0 0) w) := by
  unfold RyearLine_55
  rw [if_neg (by decide)]
  unfold RyearLine_105
  rw [if_neg (by decide)]
  unfold RyearLine_125
  rw [if_neg (by decide)]
  unfold RyearLine_151
  rw [if_neg (by decide), if_neg (by decide)]
  unfold RyearLine_184 RyearLine_201
  rw [if_pos rfl]
  refine add_l (N := 40) (by omega) sm (by decide) ⟨⟨5, rfl, by decide⟩, fun _ h => absurd h (by decide)⟩ (fun z => ?_)
  obtain ⟨n, hn, en, el, r67, rows, bds⟩ := rws_0 ct (by decide) f0 hz z
  have k67 : w0 67 = v 67 := f67
  have k52 : u0 52 = u0 52 := rfl
  have k53 : u0 53 = u0 53 := rfl
  have k10 : u0 43 10 = u0 43 10 := rfl
  have d0 : u0 55 0 = -1 := by exact f0.2.2.2 0 (by decide)
  have d1 : u0 55 1 = -1 := by exact f0.2.2.2 1 (by decide)
  have d2 : u0 55 2 = -1 := by exact f0.2.2.2 2 (by decide)
  have d3 : u0 55 3 = -1 := by exact f0.2.2.2 3 (by decide)
  have d4 : u0 55 4 = -1 := by exact f0.2.2.2 4 (by decide)
  refine ⟨⟨n, hn, by rw [k52]; exact en, by rw [k10]; exact el, by rw [k67]; exact r67, fun j i hj hi => by rw [k53, k67]; exact rows j i hj hi, fun j hj => ROK_g (bds rfl j hj) (fun i _ => by show _ = _; rw [k67])⟩, fun u4 e55 => ?_⟩
  have e : tkeS u4 2 (nI 5) = adwS u4 (nI 5) (nI 0) := by
    unfold tkeS tkeSW
    rw [if_neg (by decide), if_neg (by decide), if_pos rfl]; rfl
  refine ⟨u4, 0, by decide, e, fun _ _ => rfl, ?_, ?_, ?_, ?_⟩
  · rw [e55]; exact d0.symm
  · rw [e55]; exact d1.symm
  · rw [e55]; exact d2.symm
  · rw [e55, show 0 + 3 = 3 from rfl, cl5 (by decide)]; exact d3.symm
end XTK
end
