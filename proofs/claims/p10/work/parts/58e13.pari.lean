section XTM
variable {sc : Nat × (Nat → Int32)} {d : Nat} {K : List KD} {r q t a B m : Nat} {w : EW}
/-! lines of summers and bargains, on both sides -/
/-- the class's state behind the first word, if nothing limits the lines -/
theorem sta_n {f : Nat → Int32} {L a e : Nat} {u v u1 w : SG} {so : Int32} (h : SM f L a e u v) (e1 : u1 = couS u so (choI u (worZ so))) (n1 : ∀ c, c ≠ 43 → u1 c = u c) (n2 : ∀ j, j ≠ 2 → j ≠ 3 → j ≠ 10 → u1 43 j = u 43 j) (ky : KY f L a (advS u1) v w) (fl : ∀ b, a ≤ b → FL b u1 w) : ∃ a2 e2, a < a2 ∧ SM f L a2 e2 (rl0 u so) w ∧ (∀ c, c ≠ 43 → c ≠ 55 → rl0 u so c = u c) ∧ rl0 u so 43 10 = u1 43 10 ∧ rl0 u so 43 11 = u 43 11 ∧ ∀ j, j < 5 → rl0 u so 55 j = -1 := by
  obtain ⟨⟨a2, e2, ha, cb, rt, w8, tk⟩, k1, k2⟩ := ky
  have r0 := rl0_f (u := u) (so := so) e1 n1
  have adv : ∀ j, j ≠ 7 → j ≠ 8 → j ≠ 9 → advS u1 43 j = u1 43 j := by
    intro j a1 a2 a3
    unfold advS adv1
    repeat' split
    all_goals simp only [up_bn a1, up_bn a2, up_bn a3]
  have a54 : advS u1 54 = u1 54 := by
    unfold advS adv1
    repeat' split
    all_goals simp (disch := decide) only [up_n]
  have sm : SM f L a2 e2 (advS u1) w := ⟨cb, rt, w8, tk, FL_lo (fl a2 (Nat.le_of_lt ha)) (Nat.le_refl _) (adv 2 (by decide) (by decide) (by decide)) (adv 3 (by decide) (by decide) (by decide)) rfl rfl⟩
  refine ⟨a2, e2, ha, SM_g sm (fun j _ => r0.2.2 j) (by rw [r0.1 54 (by decide) (by decide), a54, n1 54 (by decide)]) (fun _ _ => rfl) (fun _ _ => rfl), r0.1, by rw [r0.2.2, adv 10 (by decide) (by decide) (by decide)], by rw [r0.2.2, adv 11 (by decide) (by decide) (by decide), n2 11 (by decide) (by decide) (by decide)], r0.2.1⟩
theorem w_suA {u v : SG} {y1 y2 y3 y4 y5 : Int32} (hw : WE u v) : pc ((rdI v 67 201 0).bind fun g5 => if 8 ≤ g5 then RsummerLine_142 v y1 y2 y3 y4 y5 else (rdI v 67 201 0).bind fun g6 => (wrI v 67 201 (1 + (4 * g6)) y2).bind fun s7 => (wrI s7 67 201 ((1 + (4 * g6)) + 1) y3).bind fun s8 => (wrI s8 67 201 ((1 + (4 * g6)) + 2) y4).bind fun s9 => (wrI s9 67 201 ((1 + (4 * g6)) + 3) y5).bind fun s10 => (rdI s10 67 201 0).bind fun g11 => (wrI s10 67 201 0 (g11 + 1)).bind fun s12 => RsummerLine_142 s12 y1 y2 y3 y4 y5) (fun w => WE u w) := by
  exact pc_rd (fun _ => pc_i (fun _ => w_su142 hw) (fun _ => pc_rd (fun _ => we_wri hw (fun _ h1 => we_wri h1 (fun _ h2 => we_wri h2 (fun _ h3 => we_wri h3 (fun _ h4 => pc_rd (fun _ => we_wri h4 (fun _ h5 => w_su142 h5)))))))))
theorem lin_4 {f : Nat → Int32} {L a e : Nat} {u v : SG} (h : SM f L a e u v) (ct : v 65 7 = 0 → RWS 4 8 u v) : pc (RsummerLine v) (fun w => LE (QL f L a (RWS 4 8)) (rliP u 4) w) := by
  unfold RsummerLine
  refine pc_b (key_c (z := 4) (lo := 31) (hi := 31) h (by decide) (by decide +kernel) (by decide) (by decide) (by decide)) (fun p hp => ?_)
  rcases hp with ⟨c1, we⟩ | ⟨k, ae, hk, c1, ep, ky⟩
  · rw [rliP_n (so := 4) (show choI u (worZ 4) = -1 from c1)]
    exact pc_w (Q := fun w => WE u w) (pc_i (fun z => absurd z we.1) (fun _ => w_su38 we)) (fun w hw => LE_w hw)
  obtain rfl : k = 0 := by omega
  have c2 : choI u (worZ 4) = nI 0 := c1
  rw [rliP_c (so := 4) (by rw [c2]; decide), c2, show forms 4 (nI 0) = [115, 97, 97, 97, 59] by decide +kernel]
  obtain ⟨n1, n2, n3⟩ := cnt_f (u := u) (so := 4)
  refine sta_l (so := 4) (M := 8) (X := fun w => RsummerLine_38 w (v 64 4)) h (by decide) (by decide) (cou_e (Or.inl (by decide))) (ky _ (n2 6 (by decide) (by decide) (by decide)) (n2 9 (by decide) (by decide) (by decide)) (n1 54 (by decide))) (fun z => by obtain ⟨n, hn, _, q1, q2, _⟩ := ct z; exact ⟨n, hn, q1, q2⟩) (fun w0 a2 e2 ha2 sm f0 f67 f65 f64 hz => ?_)
  show pc (RsummerLine_38 w0 (v 64 4)) _
  unfold RsummerLine_38
  refine LX_sea sm (by omega) (fun u1 q1 b1 e1 j1 hb1 hj1 sm1 frc1 g1 frr1 h65_1 => ?_) (fun _ _ hw => we_num hw (fun _ => we_num hw (fun _ => we_num hw (fun _ => w_suA hw))))
  try dsimp only
  refine LX_a sm1 (by omega) (fun u2 p2 b2 e2 x2 hb2 sm2 frc2 g2 frr2 hx2 nb2 => ?_) (fun _ _ hw => we_num hw (fun _ => we_num hw (fun _ => w_suA hw)))
  refine LX_a sm2 (by omega) (fun u3 p3 b3 e3 x3 hb3 sm3 frc3 g3 frr3 hx3 nb3 => ?_) (fun _ _ hw => we_num hw (fun _ => w_suA hw))
  refine LX_a sm3 (by omega) (fun u4 p4 b4 e4 x4 hb4 sm4 frc4 g4 frr4 hx4 nb4 => ?_) (fun _ _ hw => w_suA hw)
  have fin : ∀ w4 : SG, (∀ c, c ≠ 67 → w4 c = p4.2 c) → (p4.2 65 7 = 0 → ∃ n, n < 8 ∧ u4 52 0 = nI n ∧ u4 43 10 = nI (n + 1) ∧ (∀ j i, j < n → i < 4 → u4 53 (5 * j + i) = v 67 (1 + 4 * j + i)) ∧ w4 67 0 = nI (n + 1) ∧ (∀ i, 1 ≤ i → i < 1 + 4 * n → w4 67 i = v 67 i) ∧ ∀ i, i < 4 → w4 67 (1 + 4 * n + i) = u4 55 i) → pc (RsummerLine_142 w4 (v 64 4) (nI j1) p2.1 p3.1 p4.1) (fun w => LE (QL f L a (RWS 4 8)) (rlC 4 (nI 0) [59] u4 (0 + 1 + 1 + 1 + 1)) w) := by
    intro w4 q1 q2
    unfold RsummerLine_142
    refine end_l (by omega) (SM_67 sm4 q1) (fun z u5 w5 frc5 f55 frr5 => ?_)
    rw [q1 65 (by decide)] at z
    obtain ⟨n, hn, en, el, rows, g0, gi, gn⟩ := q2 z
    have et : tkeS u5 4 (nI 0) = adwS u5 (cl 5 (u5 55) 0) (nI 1) := by
      unfold tkeS tkeSW
      rw [if_neg (by decide), if_neg (by decide), if_neg (by decide), if_neg (by decide), if_pos rfl]; rfl
    rw [et]
    have e67 : w5 67 = w4 67 := frr5.1 67 (by decide) (by decide)
    have rr := row_add (c := 4) (N := 8) (n := n) (y := 1) (u2 := u5) (v := v) (w2 := w5) (x := cl 5 (u5 55) 0) (by decide) hn (by decide) (by decide) (by rw [frc5.1 52 (by decide) (by decide)]; exact en) (by rw [frc5.2 10 (by decide) (by decide) (by decide) (by decide) (by decide)]; exact el) (fun j i hj hi => by rw [frc5.1 53 (by decide) (by decide)]; exact rows j i hj hi) (by rw [e67]; exact g0) (fun i h1 h2 => by rw [e67]; exact gi i h1 h2) (fun q => absurd q (by decide)) (fun i hi => ?_)
    · exact ⟨fun j _ => rr.1 j, rr.2.1, rr.2.2⟩
    · rw [e67, f55, gn i hi]
      by_cases q : i = 0
      · subst q; rw [if_pos rfl]; exact (cl5 (k := 0) (by decide)).symm
      · rw [if_neg q, show 1 + i - 1 = i by omega, cl5 (by omega)]
  by_cases z : p4.2 65 7 = 0
  · obtain ⟨z4, v4⟩ := hx4 z
    obtain ⟨z3, v3⟩ := hx3 z4
    obtain ⟨z2, v2⟩ := hx2 z3
    have z1 := z2
    rw [h65_1] at z1
    obtain ⟨n, hn, en, el, r67, rows, _⟩ := rws_0 ct (by decide) f0 hz z1
    have k67 : p4.2 67 = v 67 := by rw [frr4.1 67 (by decide) (by decide), frr3.1 67 (by decide) (by decide), frr2.1 67 (by decide) (by decide), frr1.1 67 (by decide) (by decide), f67 67 (by decide) (by decide)]
    have k52 : u4 52 = rl0 u 4 52 := by rw [frc4.1 52 (by decide) (by decide), frc3.1 52 (by decide) (by decide), frc2.1 52 (by decide) (by decide), frc1.1 52 (by decide) (by decide)]
    have k53 : u4 53 = rl0 u 4 53 := by rw [frc4.1 53 (by decide) (by decide), frc3.1 53 (by decide) (by decide), frc2.1 53 (by decide) (by decide), frc1.1 53 (by decide) (by decide)]
    have k10 : u4 43 10 = rl0 u 4 43 10 := by rw [frc4.2 10 (by decide) (by decide) (by decide) (by decide) (by decide), frc3.2 10 (by decide) (by decide) (by decide) (by decide) (by decide), frc2.2 10 (by decide) (by decide) (by decide) (by decide) (by decide), frc1.2 10 (by decide) (by decide) (by decide) (by decide) (by decide)]
    have d0 : u4 55 0 = nI j1 := by rw [g4, upd_b (by decide), g3, upd_b (by decide), g2, upd_b (by decide), g1, upd_a]
    have d1 : u4 55 1 = p2.1 := by rw [g4, upd_b (by decide), g3, upd_b (by decide), g2, upd_a]; exact v2
    have d2 : u4 55 2 = p3.1 := by rw [g4, upd_b (by decide), g3, upd_a]; exact v3
    have d3 : u4 55 3 = p4.1 := by rw [g4, upd_a]; exact v4
    have d4 : u4 55 4 = -1 := by rw [g4, upd_b (by decide), g3, upd_b (by decide), g2, upd_b (by decide), g1, upd_b (by decide)]; exact f0.2.2.2 4 (by decide)
    have i0 : (1 : Int32) + 4 * nI n = nI (1 + 4 * n) := by rw [show (4 : Int32) * nI n = nI (4 * n) from nI_mulx 4 n]; exact nI_add 1 _
    refine pc_rdv (e := 0) rfl (by decide) (by decide) ?_
    rw [k67, r67, if_neg (show ¬ (8 : Int32) ≤ nI n from nI_ge (b := 8) (by omega) (by decide))]
    refine pc_rdv (e := 0) rfl (by decide) (by decide) ?_
    rw [k67, r67, i0]
    refine pc_wrv (e := 1 + 4 * n) rfl (by omega) (by decide) ?_
    refine pc_wrv (e := 1 + 4 * n + 1) (by rw [← nI_succ]) (by omega) (by decide) ?_
    refine pc_wrv (e := 1 + 4 * n + 2) (nI_add _ 2) (by omega) (by decide) ?_
    refine pc_wrv (e := 1 + 4 * n + 3) (nI_add _ 3) (by omega) (by decide) ?_
    refine pc_rdv (e := 0) rfl (by decide) (by decide) ?_
    refine pc_wrv (e := 0) rfl (by decide) (by decide) ?_
    rw [up_bn (by omega), up_bn (by omega), up_bn (by omega), up_bn (by omega), k67, r67, ← nI_succ]
    refine fin _ (fun c hc => by rw [up_n hc, up_n hc, up_n hc, up_n hc, up_n hc]) (fun _ => ⟨n, hn, by rw [k52]; exact en, by rw [k10]; exact el, fun j i hj hi => by rw [k53]; exact rows j i hj hi, up_a, fun i h1 h2 => ?_, fun i hi => ?_⟩)
    · rw [up_bn (by omega), up_bn (by omega), up_bn (by omega), up_bn (by omega), up_bn (by omega), k67]
    · rcases (by omega : i = 0 ∨ i = 1 ∨ i = 2 ∨ i = 3) with rfl | rfl | rfl | rfl
      · rw [up_bn (by omega), up_bn (by omega), up_bn (by omega), up_bn (by omega), d0]; exact up_a
      · rw [up_bn (by omega), up_bn (by omega), up_bn (by omega), up_a, d1]
      · rw [up_bn (by omega), up_bn (by omega), up_a, d2]
      · rw [up_bn (by omega), up_a, d3]
  · exact pc_rd (fun _ => pc_i (fun _ => fin _ (fun _ _ => rfl) (fun q => absurd q z)) (fun _ => pc_rd (fun _ => pc_wr (fun _ => pc_wr (fun _ => pc_wr (fun _ => pc_wr (fun _ => pc_rd (fun _ => pc_wr (fun _ => fin _ (fun c hc => by rw [up_n hc, up_n hc, up_n hc, up_n hc, up_n hc]) (fun q => absurd q z))))))))))
/-- shares so far; the lines are no more than the bytes -/
def BGS (u v : SG) : Prop := (∃ n p, u 43 10 = nI n ∧ u 43 8 = nI p ∧ n ≤ p ∧ p ≤ 600) ∧ ∀ m, m < 6 → u 53 (5 * m) = v 67 m
theorem SM_600 {f : Nat → Int32} {L a e : Nat} {u v : SG} (h : SM f L a e u v) : a ≤ 600 := by
  have := h.2.1.2.1
  have := h.2.2.2.1.2.2.2.2.1
  rcases h.2.2.2.1.2.2.2.2.2 with ⟨q, _⟩ | ⟨q, _⟩ <;> omega
theorem end_p {f : Nat → Int32} {L a a2 e2 y : Nat} {u3 w4 : SG} {so line : Int32} {R : SG → SG → Prop} (ha : a < a2) (sm : SM f L a2 e2 u3 w4) (hR : w4 65 7 = 0 → ∀ u4 w5 : SG, FRc u3 u4 → u4 55 = u3 55 → FRr w4 w5 → (∃ p, a2 < p ∧ p ≤ 600 ∧ u4 43 8 = nI p) → (∀ j, j ≠ 11 → tkeS u4 so line 43 j = u4 43 j) ∧ tkeS u4 so line 54 = u4 54 ∧ R (tkeS u4 so line) w5) : pc ((RendsLine w4).bind fun s1 => some s1) (fun w => LE (QL f L a R) (rlC so line [59] u3 y) w) := by
  refine LX_sem sm (fun u4 w5 a5 e5 ha5 sm5 frc5 f55 frr5 e655 => pc_s (fin_l (by omega) sm5 (fun z => ?_))) (fun w hw => pc_s hw)
  rw [e655] at z
  exact hR z u4 w5 frc5 f55 frr5 ⟨a5, ha5, SM_600 sm5, sm5.2.2.2.1.1⟩
theorem lin_5 {f : Nat → Int32} {L a e : Nat} {u v : SG} (h : SM f L a e u v) (ct : v 65 7 = 0 → BGS u v) : pc (RbargainLine v) (fun w => LE (QL f L a BGS) (rliP u 5) w) := by
  unfold RbargainLine
  refine pc_b (key_c (z := 5) (lo := 32) (hi := 32) h (by decide) (by decide +kernel) (by decide) (by decide) (by decide)) (fun p hp => ?_)
  rcases hp with ⟨c1, we⟩ | ⟨k, ae, hk, c1, ep, ky⟩
  · rw [rliP_n (so := 5) (show choI u (worZ 5) = -1 from c1)]
    exact pc_w (Q := fun w => WE u w) (we_num we (fun _ => we_num we (fun _ => pc_i (fun z => absurd z we.1) (fun _ => w_ba38 we)))) (fun w hw => LE_w hw)
  obtain rfl : k = 0 := by omega
  have c2 : choI u (worZ 5) = nI 0 := c1
  rw [rliP_c (so := 5) (by rw [c2]; decide), c2, show forms 5 (nI 0) = [109, 104, 59] by decide +kernel]
  obtain ⟨n1, n2, n3⟩ := cnt_f (u := u) (so := 5)
  have KK := ky _ (n2 6 (by decide) (by decide) (by decide)) (n2 9 (by decide) (by decide) (by decide)) (n1 54 (by decide))
  have e65 : p.2 65 = v 65 := KK.2.1 65 (by decide)
  have e67 : p.2 67 = v 67 := KK.2.1 67 (by decide)
  have a600 := SM_600 h
  obtain ⟨hcb, hr, h8, tk, hf⟩ := id h
  have lines : v 65 7 = 0 → ∃ n, u 43 10 = nI n ∧ n ≤ a ∧ u 43 10 + 1 ≤ mosI 5 := by
    intro z
    obtain ⟨⟨n, q, e10, e8, hn, hq⟩, _⟩ := ct z
    have e := tk.1
    rw [e8] at e
    have : q = a := nI_inj (by omega) (by omega) e
    subst this
    have hL := hr.2.1
    have hl := tk.2.2.2.2.1
    refine ⟨n, e10, hn, ?_⟩
    rw [e10, ← nI_succ, show mosI 5 = nI 600 by decide]
    exact nI_le2 (by omega) (by decide)
  obtain ⟨a2, e2, ha2, sm, g1, g2, g3, g4⟩ := sta_n h (cou_e (u := u) (so := 5) (line := choI u (worZ 5)) (Or.inl (by decide))).symm n1 n2 KK (fun b hb => lim_a hf hb (by rw [e65]) (by rw [e65]) (fun z => by obtain ⟨n, _, _, q⟩ := lines z; exact q))
  refine LX_m sm (by omega) (fun u1 p1 b1 e1 x1 hb1 sm1 frc1 k1 frr1 hx1 nb1 => ?_) (fun _ _ hw => we_num hw (fun _ => pc_i (fun z => absurd z hw.1) (fun _ => w_ba38 hw)))
  refine LX_h sm1 (by omega) (fun u3 p3 b3 e3 x3 hb3 sm3 frc3 k3 frr3 hx3 nb3 => ?_) (fun _ _ hw => pc_i (fun z => absurd z hw.1) (fun _ => w_ba38 hw))
  rw [if_pos sm3.2.2.1]
  obtain ⟨m, em, hm⟩ := nb1
  refine pc_wrv (e := m) em (by omega) (by decide) ?_
  unfold RbargainLine_38
  refine end_p (by omega) (SM_67 sm3 (fun c hc => up_n hc)) (fun z u4 w5 frc5 f55 frr5 pos => ?_)
  rw [up_n (by decide)] at z
  obtain ⟨z3, v3⟩ := hx3 z
  obtain ⟨z1, v1⟩ := hx1 z3
  rw [e65] at z1
  obtain ⟨n, e10, hn, _⟩ := lines z1
  obtain ⟨_, shares⟩ := ct z1
  have d0 : u4 55 0 = nI m := by rw [f55, k3, upd_b (by decide), k1, upd_a, v1, em]
  have d1 : u4 55 1 = p3.1 := by rw [f55, k3, upd_a, v3]
  have et : tkeS u4 5 (nI 0) = up u4 53 (5 * m) p3.1 := by
    unfold tkeS tkeSW
    rw [if_neg (by decide), if_neg (by decide), if_neg (by decide), if_neg (by decide), if_neg (by decide), if_pos rfl, show cl 5 (u4 55) 0 = u4 55 0 from cl5 (k := 0) (by decide), show cl 5 (u4 55) 1 = u4 55 1 from cl5 (k := 1) (by decide), d1]
    exact stw_e (i := 0) d0 (by omega) (by omega)
  rw [et]
  refine ⟨fun j _ => by rw [up_n (by decide)], up_n (by decide), ?_, fun i hi => ?_⟩
  · obtain ⟨q, q1, q2, q3⟩ := pos
    refine ⟨n + 1, q, ?_, by rw [up_n (by decide)]; exact q3, by omega, q2⟩
    rw [up_n (by decide), frc5.2 10 (by decide) (by decide) (by decide) (by decide) (by decide), frc3.2 10 (by decide) (by decide) (by decide) (by decide) (by decide), frc1.2 10 (by decide) (by decide) (by decide) (by decide) (by decide), g2, n3, e10, ← nI_succ]
  · rw [frr5.1 67 (by decide) (by decide)]
    by_cases q : i = m
    · subst q; rw [up_a, up_a]
    · rw [up_bn (by omega), up_bn q, frc5.1 53 (by decide) (by decide), frc3.1 53 (by decide) (by decide), frc1.1 53 (by decide) (by decide), g1 53 (by decide) (by decide), shares i hi, frr3.1 67 (by decide) (by decide), frr1.1 67 (by decide) (by decide), e67]
end XTM
