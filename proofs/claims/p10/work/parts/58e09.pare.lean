section XTI
variable {sc : Nat × (Nat → Int32)} {d : Nat} {K : List KD} {r q t a B m : Nat} {w : EW}
/-! the beginning of a line, seasons and kinds, rows -/
section KC2
variable {f : Nat → Int32} {L a e : Nat} {u v : SG}
/-- the first word, of a list without gaps -/
theorem key_c {z lo hi : Nat} (h : SM f L a e u v) (hz : z ∈ ZS) (ok_ : zOK z lo hi = true) (hh : hi ≤ 32) (h1 : 1 ≤ lo) (hlo : lo ≤ hi) : pc (Rtakes v (nI lo) (nI hi)) (fun p => (choI u z = -1 ∧ WE u p.2) ∨ ∃ k, a < e ∧ k ≤ hi - lo ∧ choI u z = nI k ∧ p.1 = nI (lo + k) ∧ ∀ u1 : SG, u1 43 6 = u 43 6 → u1 43 9 = u 43 9 → u1 54 = u 54 → KY f L a (advS u1) v p.2) := by
  intro p hp
  rcases TK_w h hz ok_ hh h1 hlo with ⟨t1, t2⟩ | ⟨k, ae, hk, hkl, t1, t2, t3, t4⟩
  · exact Or.inl ⟨t1, WE_of (pc_ok (tak_n h t2) p hp).2⟩
  · have y := pc_ok (tak_y (u1 := u) h ae t2 t4 rfl rfl rfl) p hp
    exact Or.inr ⟨k, ae, hk, t1, y.1.trans t3, fun u1 e6 e9 e54 => (pc_ok (tak_y h ae t2 t4 e6 e9 e54) p hp).2⟩
/-- the class's state behind the first word -/
theorem rl0_f {so : Int32} {u1 : SG} (e : u1 = couS u so (choI u (worZ so))) (fr : ∀ c, c ≠ 43 → u1 c = u c) : (∀ c, c ≠ 43 → c ≠ 55 → rl0 u so c = u c) ∧ (∀ j, j < 5 → rl0 u so 55 j = -1) ∧ (∀ j, rl0 u so 43 j = advS u1 43 j) := by
  have h54 : rl0 u so = flS 5 (advS u1) 55 (-1) := by rw [e]; rfl
  rw [h54]
  have c3 : ∀ c, c ≠ 43 → advS u1 c = u1 c := by
    intro c hc
    unfold advS adv1
    repeat' split
    all_goals simp only [up_n hc]
  refine ⟨fun c h43 h55 => by rw [fl_n h55, c3 c h43, fr c h43], fun j hj => ?_, fun j => by rw [fl_n (by decide)]⟩
  unfold flS
  rw [sF_s]; exact if_pos hj
/-- the class's state behind the first word of a line that counts -/
def RL0 (u t : SG) : Prop := (∀ c, c ≠ 43 → c ≠ 55 → t c = u c) ∧ t 43 10 = u 43 10 + 1 ∧ t 43 11 = u 43 11 ∧ ∀ j, j < 5 → t 55 j = -1
/-- a line of a sort that may have so many lines: the count, the fault if there are more -/
theorem sta_2 {so : Int32} {M : Nat} {w : SG} {P : SG → Prop} {X Y : SG → Option SG} (h : SM f L a e u v) (hM : mosI so = nI M) (hM2 : M ≤ 40) (cnt : couS u so (choI u (worZ so)) = cntS u so) (ky : KY f L a (advS (cntS u so)) v w) (ct : v 65 7 = 0 → ∃ n, n ≤ M ∧ u 43 10 = nI n ∧ v 67 0 = nI n)
    (g : ∀ (w0 : SG) (a2 e2 : Nat), a < a2 → SM f L a2 e2 (rl0 u so) w0 → RL0 u (rl0 u so) → (∀ c, c ≠ 64 → c ≠ 65 → w0 c = v c) → (∀ j, j ≠ 7 → j ≠ 8 → w0 65 j = v 65 j) → (∀ j, (j < 3 ∨ 8 ≤ j) → w0 64 j = v 64 j) → (w0 65 7 = 0 → v 65 7 = 0 ∧ ∃ n, n < M ∧ u 43 10 = nI n ∧ v 67 0 = nI n) → pc (X w0) P)
    (g2 : ∀ (w0 : SG) (a2 e2 : Nat), a < a2 → SM f L a2 e2 (rl0 u so) w0 → RL0 u (rl0 u so) → (∀ c, c ≠ 64 → c ≠ 65 → w0 c = v c) → (∀ j, j ≠ 7 → j ≠ 8 → w0 65 j = v 65 j) → (∀ j, (j < 3 ∨ 8 ≤ j) → w0 64 j = v 64 j) → ¬ w0 65 7 = 0 → pc (Y w0) P) :
    pc (if (w 64 8) = 0 then ((rdI w 67 201 0).bind fun g2 => if g2 < nI M then X w else (Ralso w 3 (v 64 4)).bind fun s3 => Y s3) else X w) P := by
  obtain ⟨⟨a2, e2, ha, cb, rt, w8, tk⟩, k1, k2⟩ := ky
  obtain ⟨hc, hr, h8, tk0, hf⟩ := h
  have hL := hr.2.1
  have hl := tk0.2.2.2.2.1
  have h9 : u 43 9 = nI e := tk0.2.1
  have al : a ≤ 600 := by
    rcases tk0.2.2.2.2.2 with ⟨q, _⟩ | ⟨q, _⟩ <;> omega
  obtain ⟨n1, n2, n3⟩ := cnt_f (u := u) (so := so)
  have e65 : w 65 = v 65 := k1 65 (by decide)
  have r0 := rl0_f (u := u) (so := so) cnt.symm n1
  have adv : ∀ j, j ≠ 7 → j ≠ 8 → j ≠ 9 → advS (cntS u so) 43 j = cntS u so 43 j := by
    intro j a1 a2 a3
    unfold advS adv1
    repeat' split
    all_goals simp only [up_bn a1, up_bn a2, up_bn a3]
  have fin : ∀ w0 : SG, FL a2 (cntS u so) w0 → (∀ c, c ≠ 65 → w0 c = w c) → (∀ j, j ≠ 7 → j ≠ 8 → w0 65 j = w 65 j) → SM f L a2 e2 (rl0 u so) w0 ∧ RL0 u (rl0 u so) ∧ (∀ c, c ≠ 64 → c ≠ 65 → w0 c = v c) ∧ (∀ j, j ≠ 7 → j ≠ 8 → w0 65 j = v 65 j) ∧ (∀ j, (j < 3 ∨ 8 ≤ j) → w0 64 j = v 64 j) := by
    intro w0 fl q1 q2
    have sm : SM f L a2 e2 (advS (cntS u so)) w0 := ⟨cb, RTt_of rt (by rw [q1 64 (by decide)]) (fun j hj => q2 j (by omega) (by omega)), by rw [q1 64 (by decide)]; exact w8, TK_g tk rfl rfl rfl rfl (fun j _ _ => by rw [q1 64 (by decide)]), FL_lo fl (Nat.le_refl _) (adv 2 (by decide) (by decide) (by decide)) (adv 3 (by decide) (by decide) (by decide)) rfl rfl⟩
    have f0 : RL0 u (rl0 u so) := ⟨r0.1, by rw [r0.2.2, adv 10 (by decide) (by decide) (by decide), n3], by rw [r0.2.2, adv 11 (by decide) (by decide) (by decide), n2 11 (by decide) (by decide) (by decide)], r0.2.1⟩
    have a54 : advS (cntS u so) 54 = cntS u so 54 := by
      unfold advS adv1
      repeat' split
      all_goals simp (disch := decide) only [up_n]
    exact ⟨SM_g sm (fun j _ => r0.2.2 j) (by rw [r0.1 54 (by decide) (by decide), a54, n1 54 (by decide)]) (fun _ _ => rfl) (fun _ _ => rfl), f0, fun c b1 b2 => by rw [q1 c b2, k1 c b1], fun j b1 b2 => by rw [q2 j b1 b2, e65], fun j b => by rw [q1 64 (by decide), k2 j b]⟩
  rw [if_pos w8]
  refine pc_rdv (e := 0) rfl (by decide) (by decide) ?_
  have w67 : w 67 0 = v 67 0 := by rw [k1 67 (by decide)]
  rw [w67]
  refine pc_i (fun c => ?_) (fun c => ?_)
  · have z : v 65 7 = 0 → (u 43 10 + 1 ≤ mosI so) ∧ ∃ n, n < M ∧ u 43 10 = nI n ∧ v 67 0 = nI n := by
      intro z
      obtain ⟨n, hn, en, en2⟩ := ct z
      rw [en2, Int32.lt_iff_toInt_lt, nI_toInt (by omega), nI_toInt (by omega)] at c
      refine ⟨?_, n, by omega, en, en2⟩
      rw [en, hM, ← nI_succ]
      exact nI_le2 (by omega) (by omega)
    obtain ⟨s1, s2, s3, s4, s5⟩ := fin w (lim_a hf (Nat.le_of_lt ha) (by rw [e65]) (by rw [e65]) (fun y => (z y).1)) (fun _ _ => rfl) (fun _ _ _ => rfl)
    refine g w a2 e2 ha s1 s2 s3 s4 s5 (fun y => ?_)
    rw [e65] at y
    exact ⟨y, (z y).2⟩
  · rw [tk0.2.2.1]
    have z : v 65 7 = 0 → ¬ (u 43 10 + 1 ≤ mosI so) := by
      intro z
      obtain ⟨n, hn, en, en2⟩ := ct z
      rw [en2, Int32.lt_iff_toInt_lt, nI_toInt (by omega), nI_toInt (by omega)] at c
      rw [en, hM, ← nI_succ, Int32.le_iff_toInt_le, nI_toInt (by omega), nI_toInt (by omega)]
      omega
    refine pc_b (pc_ok (lim_b (w := w) hf ha al tk0.1 w8 (by rw [e65]) (by rw [e65]) z)) (fun x hx => ?_)
    obtain ⟨s1, s2, s3, s4, s5⟩ := fin x hx.1 hx.2.2.1 hx.2.2.2
    exact g2 x a2 e2 ha s1 s2 s3 s4 s5 hx.2.1
/-- a line of a sort that may have so many lines: the count, the fault if there are more -/
theorem sta_l {so : Int32} {M : Nat} {w : SG} {P : SG → Prop} {X : SG → Option SG} (h : SM f L a e u v) (hM : mosI so = nI M) (hM2 : M ≤ 40) (cnt : couS u so (choI u (worZ so)) = cntS u so) (ky : KY f L a (advS (cntS u so)) v w) (ct : v 65 7 = 0 → ∃ n, n ≤ M ∧ u 43 10 = nI n ∧ v 67 0 = nI n)
    (g : ∀ (w0 : SG) (a2 e2 : Nat), a < a2 → SM f L a2 e2 (rl0 u so) w0 → RL0 u (rl0 u so) → (∀ c, c ≠ 64 → c ≠ 65 → w0 c = v c) → (∀ j, j ≠ 7 → j ≠ 8 → w0 65 j = v 65 j) → (∀ j, (j < 3 ∨ 8 ≤ j) → w0 64 j = v 64 j) → (w0 65 7 = 0 → v 65 7 = 0 ∧ ∃ n, n < M ∧ u 43 10 = nI n ∧ v 67 0 = nI n) → pc (X w0) P) :
    pc (if (w 64 8) = 0 then ((rdI w 67 201 0).bind fun g2 => if g2 < nI M then X w else (Ralso w 3 (v 64 4)).bind fun s3 => X s3) else X w) P :=
  sta_2 h hM hM2 cnt ky ct g (fun w0 a2 e2 ha sm f0 f67 f65 f64 nz => g w0 a2 e2 ha sm f0 f67 f65 f64 (fun z => absurd z nz))
end KC2
section LX2
variable {f : Nat → Int32} {L a e part : Nat} {u v : SG} {so line : Int32} {l : List Int32} {Q : SG → SG → Prop}
theorem LX_sea {k : Int32 × SG → Option SG} (h : SM f L a e u v) (hp : part < 5)
    (g1 : ∀ (u2 w2 : SG) (a2 e2 j : Nat), a < a2 → j ≤ 3 → SM f L a2 e2 u2 w2 → FRc u u2 → u2 55 = upd (u 55) part (nI j) → FRr v w2 → w2 65 = v 65 → pc (k (nI j, w2)) (fun w => LE Q (rlC so line l u2 (part + 1)) w))
    (g2 : ∀ z w, WE u w → pc (k (z, w)) (fun w => WE u w)) : pc ((RseasonTold v).bind k) (fun w => LE Q (rlC so line (115 :: l) u part) w) := by
  have as : (RseasonTold v).bind k = (Rtakes v (nI 14) (nI 17)).bind (fun p => k (p.1 - 14, p.2)) := by
    unfold RseasonTold
    show ((Rtakes v (nI 14) (nI 17)).bind _).bind k = _
    cases Rtakes v (nI 14) (nI 17) <;> rfl
  rw [as]
  refine LX_wor (z := 15) h hp (by decide) (by decide +kernel) (by decide) (by decide) (by decide) (fun s => rpa_e) (fun u2 w2 a2 e2 j ha hj sm frc f55 frr e65 => ?_) (fun z w hw => g2 _ w hw)
  have ej : nI (14 + j) - 14 = nI j := nI_subl (a := 14) (c := j)
  show pc (k (nI (14 + j) - 14, w2)) _
  rw [ej]
  exact g1 u2 w2 a2 e2 j ha hj sm frc f55 frr e65
theorem LX_kin {k : Int32 × SG → Option SG} (h : SM f L a e u v) (hp : part < 5)
    (g1 : ∀ (u2 w2 : SG) (a2 e2 j : Nat), a < a2 → j ≤ 2 → SM f L a2 e2 u2 w2 → FRc u u2 → u2 55 = upd (u 55) part (nI j) → FRr v w2 → w2 65 = v 65 → pc (k (nI j, w2)) (fun w => LE Q (rlC so line l u2 (part + 1)) w))
    (g2 : ∀ z w, WE u w → pc (k (z, w)) (fun w => WE u w)) : pc ((RkindTold v).bind k) (fun w => LE Q (rlC so line (107 :: l) u part) w) := by
  have as : (RkindTold v).bind k = (Rtakes v (nI 11) (nI 13)).bind (fun p => k (p.1 - 11, p.2)) := by
    unfold RkindTold
    show ((Rtakes v (nI 11) (nI 13)).bind _).bind k = _
    cases Rtakes v (nI 11) (nI 13) <;> rfl
  rw [as]
  refine LX_wor (z := 14) h hp (by decide) (by decide +kernel) (by decide) (by decide) (by decide) (fun s => rpa_k) (fun u2 w2 a2 e2 j ha hj sm frc f55 frr e65 => ?_) (fun z w hw => g2 _ w hw)
  have ej : nI (11 + j) - 11 = nI j := nI_subl (a := 11) (c := j)
  show pc (k (nI (11 + j) - 11, w2)) _
  rw [ej]
  exact g1 u2 w2 a2 e2 j ha hj sm frc f55 frr e65
/-- a number of the form a, m, h, t, q or v -/
theorem LX_a {k : Int32 × SG → Option SG} (h : SM f L a e u v) (hp : part < 5)
    (g1 : ∀ (u2 : SG) (p : Int32 × SG) (a2 e2 : Nat) (x : Int32), a < a2 → SM f L a2 e2 u2 p.2 → FRc u u2 → u2 55 = upd (u 55) part x → FRr v p.2 → (p.2 65 7 = 0 → v 65 7 = 0 ∧ x = p.1) → NB p.1 9 → pc (k p) (fun w => LE Q (rlC so line l u2 (part + 1)) w))
    (g2 : ∀ z w, WE u w → pc (k (z, w)) (fun w => WE u w)) : pc ((Rnumbered v 0 9).bind k) (fun w => LE Q (rlC so line (97 :: l) u part) w) :=
  LX_num (lo := 0) (hi := 9) h hp (by decide) (by decide) (by decide) (by decide) (by decide) (by decide) (by decide) (by decide) g1 g2
theorem LX_m {k : Int32 × SG → Option SG} (h : SM f L a e u v) (hp : part < 5)
    (g1 : ∀ (u2 : SG) (p : Int32 × SG) (a2 e2 : Nat) (x : Int32), a < a2 → SM f L a2 e2 u2 p.2 → FRc u u2 → u2 55 = upd (u 55) part x → FRr v p.2 → (p.2 65 7 = 0 → v 65 7 = 0 ∧ x = p.1) → NB p.1 5 → pc (k p) (fun w => LE Q (rlC so line l u2 (part + 1)) w))
    (g2 : ∀ z w, WE u w → pc (k (z, w)) (fun w => WE u w)) : pc ((Rnumbered v 0 5).bind k) (fun w => LE Q (rlC so line (109 :: l) u part) w) :=
  LX_num (lo := 0) (hi := 5) h hp (by decide) (by decide) (by decide) (by decide) (by decide) (by decide) (by decide) (by decide) g1 g2
theorem LX_h {k : Int32 × SG → Option SG} (h : SM f L a e u v) (hp : part < 5)
    (g1 : ∀ (u2 : SG) (p : Int32 × SG) (a2 e2 : Nat) (x : Int32), a < a2 → SM f L a2 e2 u2 p.2 → FRc u u2 → u2 55 = upd (u 55) part x → FRr v p.2 → (p.2 65 7 = 0 → v 65 7 = 0 ∧ x = p.1) → NB p.1 99 → pc (k p) (fun w => LE Q (rlC so line l u2 (part + 1)) w))
    (g2 : ∀ z w, WE u w → pc (k (z, w)) (fun w => WE u w)) : pc ((Rnumbered v 0 99).bind k) (fun w => LE Q (rlC so line (104 :: l) u part) w) :=
  LX_num (lo := 0) (hi := 99) h hp (by decide) (by decide) (by decide) (by decide) (by decide) (by decide) (by decide) (by decide) g1 g2
theorem LX_t {k : Int32 × SG → Option SG} (h : SM f L a e u v) (hp : part < 5)
    (g1 : ∀ (u2 : SG) (p : Int32 × SG) (a2 e2 : Nat) (x : Int32), a < a2 → SM f L a2 e2 u2 p.2 → FRc u u2 → u2 55 = upd (u 55) part x → FRr v p.2 → (p.2 65 7 = 0 → v 65 7 = 0 ∧ x = p.1) → NB p.1 27 → pc (k p) (fun w => LE Q (rlC so line l u2 (part + 1)) w))
    (g2 : ∀ z w, WE u w → pc (k (z, w)) (fun w => WE u w)) : pc ((Rnumbered v 0 27).bind k) (fun w => LE Q (rlC so line (116 :: l) u part) w) :=
  LX_num (lo := 0) (hi := 27) h hp (by decide) (by decide) (by decide) (by decide) (by decide) (by decide) (by decide) (by decide) g1 g2
theorem LX_q {k : Int32 × SG → Option SG} (h : SM f L a e u v) (hp : part < 5)
    (g1 : ∀ (u2 : SG) (p : Int32 × SG) (a2 e2 : Nat) (x : Int32), a < a2 → SM f L a2 e2 u2 p.2 → FRc u u2 → u2 55 = upd (u 55) part x → FRr v p.2 → (p.2 65 7 = 0 → v 65 7 = 0 ∧ x = p.1) → NB p.1 60 → pc (k p) (fun w => LE Q (rlC so line l u2 (part + 1)) w))
    (g2 : ∀ z w, WE u w → pc (k (z, w)) (fun w => WE u w)) : pc ((Rnumbered v 1 60).bind k) (fun w => LE Q (rlC so line (113 :: l) u part) w) :=
  LX_num (lo := 1) (hi := 60) h hp (by decide) (by decide) (by decide) (by decide) (by decide) (by decide) (by decide) (by decide) g1 g2
theorem LX_v {k : Int32 × SG → Option SG} (h : SM f L a e u v) (hp : part < 5)
    (g1 : ∀ (u2 : SG) (p : Int32 × SG) (a2 e2 : Nat) (x : Int32), a < a2 → SM f L a2 e2 u2 p.2 → FRc u u2 → u2 55 = upd (u 55) part x → FRr v p.2 → (p.2 65 7 = 0 → v 65 7 = 0 ∧ x = p.1) → NB p.1 9 → pc (k p) (fun w => LE Q (rlC so line l u2 (part + 1)) w))
    (g2 : ∀ z w, WE u w → pc (k (z, w)) (fun w => WE u w)) : pc ((Rnumbered v 1 9).bind k) (fun w => LE Q (rlC so line (118 :: l) u part) w) :=
  LX_num (lo := 1) (hi := 9) h hp (by decide) (by decide) (by decide) (by decide) (by decide) (by decide) (by decide) (by decide) g1 g2
end LX2
/-! the class's rows -/
theorem stw_e {s : SG} {n i : Nat} {x y : Int32} (ex : x = nI n) (hn : n < 40) (hi : i < 5) : stwS s x (nI i) y = up s 53 (5 * n + i) y := by
  unfold stwS pt
  have e : x * 5 + nI i = nI (5 * n + i) := by
    rw [ex, show (5 : Int32) = nI 5 from rfl, nI_mulx, nI_add, Nat.mul_comm]
  rw [e, if_neg (nI_pos (by omega)), if_neg (nI_ge (by omega) (by decide)), nI_clamp (by omega)]
theorem adw_e {s : SG} {x : Int32} {y n : Nat} (en : s 52 0 = nI n) (hn : n < 40) (hy : y ≤ 1) : adwS s x (nI y) 52 0 = nI (n + 1) ∧ adwS s x (nI y) 53 (5 * n) = x ∧ (∀ i, 1 ≤ i → i ≤ 4 → adwS s x (nI y) 53 (5 * n + i) = cl 5 (s 55) (nI (y + i - 1))) ∧ (∀ j, j < 5 * n → adwS s x (nI y) 53 j = s 53 j) ∧ ∀ c, c ≠ 52 → c ≠ 53 → adwS s x (nI y) c = s c := by
  have key : adwS s x (nI y) = up (up (up (up (up (up s 53 (5 * n + 0) x) 53 (5 * n + 1) (cl 5 (s 55) (nI (y + 1 - 1)))) 53 (5 * n + 2) (cl 5 (s 55) (nI (y + 2 - 1)))) 53 (5 * n + 3) (cl 5 (s 55) (nI (y + 3 - 1)))) 53 (5 * n + 4) (cl 5 (s 55) (nI (y + 4 - 1)))) 52 0 (nI (n + 1)) := by
    unfold adwS
    rw [if_neg (show ¬ (40 : Int32) ≤ s 52 0 by rw [en]; exact nI_ge (b := 40) (by omega) (by decide))]
    rw [show stwS s (s 52 0) 0 x = up s 53 (5 * n + 0) x from stw_e (i := 0) en hn (by omega)]
    have idx : ∀ i, 1 ≤ i → nI y + nI i - 1 = nI (y + i - 1) := fun i hi => by rw [nI_add]; exact nI_subn (b := 1) (by omega)
    rw [adwSL, adwSL, adwSL, adwSL, adwSL, idx 1 (by omega), idx (1 + 1) (by omega), idx (1 + 1 + 1) (by omega), idx (1 + 1 + 1 + 1) (by omega)]
    have e52 : ∀ (t : SG) (j : Nat) (v : Int32), up t 53 j v 52 = t 52 := fun t j v => up_n (by decide)
    have e55 : ∀ (t : SG) (j : Nat) (v : Int32), up t 53 j v 55 = t 55 := fun t j v => up_n (by decide)
    have st : ∀ (t : SG) (i : Nat) (v : Int32), t 52 0 = nI n → i < 5 → stwS t (t 52 0) (nI i) v = up t 53 (5 * n + i) v := fun t i v h hi => stw_e h hn hi
    rw [st (up s 53 (5 * n + 0) x) 1 _ (by rw [e52]; exact en) (by omega), e55]
    rw [st (up (up s 53 (5 * n + 0) x) 53 (5 * n + 1) _) (1 + 1) _ (by rw [e52, e52]; exact en) (by omega), e55, e55]
    rw [st (up (up (up s 53 (5 * n + 0) x) 53 (5 * n + 1) _) 53 (5 * n + (1 + 1)) _) (1 + 1 + 1) _ (by rw [e52, e52, e52]; exact en) (by omega), e55, e55, e55]
    rw [st (up (up (up (up s 53 (5 * n + 0) x) 53 (5 * n + 1) _) 53 (5 * n + (1 + 1)) _) 53 (5 * n + (1 + 1 + 1)) _) (1 + 1 + 1 + 1) _ (by rw [e52, e52, e52, e52]; exact en) (by omega), e55, e55, e55, e55]
    rw [e52, e52, e52, e52, e52, en, ← nI_succ]
  rw [key]
  refine ⟨up_a, ?_, fun i h1 h4 => ?_, fun j hj => ?_, fun c h2 h3 => ?_⟩
  · rw [up_n (by decide), up_bn (by omega), up_bn (by omega), up_bn (by omega), up_bn (by omega)]; exact up_a
  · rw [up_n (by decide)]
    rcases (by omega : i = 1 ∨ i = 2 ∨ i = 3 ∨ i = 4) with rfl | rfl | rfl | rfl
    · rw [up_bn (by omega), up_bn (by omega), up_bn (by omega), up_a]
    · rw [up_bn (by omega), up_bn (by omega), up_a]
    · rw [up_bn (by omega), up_a]
    · rw [up_a]
  · rw [up_n (by decide), up_bn (by omega), up_bn (by omega), up_bn (by omega), up_bn (by omega), up_bn (by omega)]
  · rw [up_n h2, up_n h3, up_n h3, up_n h3, up_n h3, up_n h3]
end XTI
