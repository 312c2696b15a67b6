section XTQ
variable {sc : Nat × (Nat → Int32)} {d : Nat} {K : List KD} {r q t a B m : Nat} {w : EW}
/-! a minister's line, and any line of a republic -/
theorem up_x {s : SG} {k i c j : Nat} {x : Int32} (h : ¬ (c = k ∧ j = i)) : up s k i x c j = s c j := by
  by_cases q : c = k
  · subst q; exact up_bn (fun z => h ⟨rfl, z⟩)
  · rw [up_n q]
theorem w_27t {u v : SG} {y1 y2 y z1 z2 z3 z4 : Int32} (hw : WE u v) : pc ((if y = 0 then some v else (rdI v 67 201 0).bind fun g5 => (wrI v 67 201 ((10 + (18 * g5)) + 0) z1).bind fun s6 => (wrI s6 67 201 ((10 + (18 * g5)) + 1) z2).bind fun s7 => (wrI s7 67 201 ((10 + (18 * g5)) + 2) z3).bind fun s8 => (wrI s8 67 201 ((10 + (18 * g5)) + 3) z4).bind fun s9 => (rdI s9 67 201 0).bind fun g10 => (wrI s9 67 201 0 (g10 + 1)).bind fun s11 => some s11).bind fun s => RrepublicLine_223 s y1 y2) (fun w => WE u w) := by
  by_cases c : y = 0
  · rw [if_pos c]; exact w_223 (y1 := y1) (y2 := y2) hw
  · rw [if_neg c]
    exact pc_as (pc_rd (fun _ => pc_as (we_wri hw (fun _ h1 => pc_as (we_wri h1 (fun _ h2 => pc_as (we_wri h2 (fun _ h3 => pc_as (we_wri h3 (fun _ h4 => pc_as (pc_rd (fun _ => pc_as (we_wri h4 (fun _ h5 => w_223 (y1 := y1) (y2 := y2) h5))))))))))))))
theorem w_27 {u v : SG} {y1 y2 y y3 : Int32} (hw : WE u v) : pc ((RministerLine_27 v y3 y).bind fun s => RrepublicLine_223 s y1 y2) (fun w => WE u w) := by
  unfold RministerLine_27
  exact pc_as (we_num hw (fun _ => pc_as (we_num hw (fun _ => pc_as (we_num hw (fun _ => pc_as (we_num hw (fun _ => w_27t hw))))))))
theorem w_min {u v : SG} {y1 y2 y3 : Int32} (hw : WE u v) : pc ((RministerLine v y3).bind fun s => RrepublicLine_223 s y1 y2) (fun w => WE u w) := by
  have h16 : ∀ y, pc ((RministerLine_16 v y3 y).bind fun s => RrepublicLine_223 s y1 y2) (fun w => WE u w) := by
    intro y
    unfold RministerLine_16
    rw [wr_also hw.1]
    refine pc_ib (pc_i (fun _ => ?_) (fun _ => w_27 (y3 := y3) hw))
    exact w_27 (y3 := y3) hw
  unfold RministerLine
  exact pc_as (pc_rd (fun _ => pc_ib (pc_i (fun _ => h16 0) (fun _ => h16 1))))
theorem w_14 {u v : SG} {y1 y2 y : Int32} (hw : WE u v) : pc (RrepublicLine_14 v y1 y2 y) (fun w => WE u w) := by
  have N : ∀ (lo hi i : Int32), pc ((Rnumbered v lo hi).bind fun p => (wrI p.2 67 201 i p.1).bind fun s => RrepublicLine_223 s y1 y2) (fun w => WE u w) := fun lo hi i => we_num hw (fun _ => we_wri hw (fun _ h2 => w_223 (y1 := y1) (y2 := y2) h2))
  have W : pc ((RwantLine v).bind fun s => RrepublicLine_223 s y1 y2) (fun w => WE u w) := by
    unfold RwantLine
    exact pc_as (we_min hw (fun _ _ h2 => pc_as (we_sea h2 (fun _ => w_wan (i := 0) 3 (by omega) (by have := xF_ge; omega) h2))))
  have F : pc ((RfeudLine v).bind fun s => RrepublicLine_223 s y1 y2) (fun w => WE u w) := by
    unfold RfeudLine
    exact pc_as (we_min hw (fun _ _ h2 => pc_ib (pc_i (fun z => absurd z h2.1) (fun _ => w_37 h2))))
  unfold RrepublicLine_14
  refine pc_i (fun _ => w_min hw) (fun _ => pc_i (fun _ => W) (fun _ => pc_i (fun _ => ?_) (fun _ => pc_i (fun _ => F) (fun _ => pc_i (fun _ => ?_) (fun _ => pc_i (fun _ => N _ _ _) (fun _ => pc_i (fun _ => N _ _ _) (fun _ => pc_i (fun _ => N _ _ _) (fun _ => pc_i (fun _ => N _ _ _) (fun _ => pc_i (fun _ => N _ _ _) (fun _ => w_223 (y1 := y1) (y2 := y2) hw))))))))))
  · exact we_min hw (fun _ _ h2 => we_wri h2 (fun _ h3 => w_223 (y1 := y1) (y2 := y2) h3))
  · exact we_kin hw (fun _ => we_min hw (fun _ _ h2 => pc_i (fun z => absurd z h2.1) (fun _ => w_223 (y1 := y1) (y2 := y2) h2)))
section REQ
variable {f : Nat → Int32} {L a a2 e2 : Nat} {u v u0 w0 : SG} {y1 y2 y3 : Int32}
/-- a minister's line beyond the last that may be: nothing is taken -/
theorem rep_0y (ha2 : a < a2) (sm : SM f L a2 e2 u0 w0) (nz : ¬ w0 65 7 = 0) : pc ((RministerLine_27 w0 y3 0).bind fun s => RrepublicLine_223 s y1 y2) (fun w => LE (QL f L a RPS) (rlC 0 (nI 0) [118, 116, 97, 97, 59] u0 0) w) := by
  unfold RministerLine_27
  refine pc_as ?_
  refine LX_v sm (by omega) (fun u1 p1 b1 e1 x1 hb1 sm1 frc1 g1 frr1 hx1 nb1 => ?_) (fun _ _ hw => pc_as (we_num hw (fun _ => pc_as (we_num hw (fun _ => pc_as (we_num hw (fun _ => w_27t hw)))))))
  refine pc_as ?_
  refine LX_t sm1 (by omega) (fun u2 p2 b2 e2 x2 hb2 sm2 frc2 g2 frr2 hx2 nb2 => ?_) (fun _ _ hw => pc_as (we_num hw (fun _ => pc_as (we_num hw (fun _ => w_27t hw)))))
  refine pc_as ?_
  refine LX_a sm2 (by omega) (fun u3 p3 b3 e3 x3 hb3 sm3 frc3 g3 frr3 hx3 nb3 => ?_) (fun _ _ hw => pc_as (we_num hw (fun _ => w_27t hw)))
  refine pc_as ?_
  refine LX_a sm3 (by omega) (fun u4 p4 b4 e4 x4 hb4 sm4 frc4 g4 frr4 hx4 nb4 => ?_) (fun _ _ hw => w_27t hw)
  rw [if_pos (show (0 : Int32) = 0 from rfl)]
  show pc (RrepublicLine_223 p4.2 y1 y2) _
  unfold RrepublicLine_223
  refine end_l (by omega) sm4 (fun q _ _ _ _ _ => absurd (hx1 (hx2 (hx3 (hx4 q).1).1).1).1 nz)
/-- a minister's line that may be -/
theorem rep_0x (ha2 : a < a2) (sm : SM f L a2 e2 u0 w0) (f0 : RL0 u u0) (ct : v 65 7 = 0 → RPS u v) (f67 : w0 67 = v 67) (f9 : w0 64 9 = v 64 9) (hz : w0 65 7 = 0 → v 65 7 = 0 ∧ ∃ n, n < 6 ∧ u 43 10 = nI n ∧ v 67 0 = nI n) : pc ((RministerLine_27 w0 y3 1).bind fun s => RrepublicLine_223 s y1 y2) (fun w => LE (QL f L a RPS) (rlC 0 (nI 0) [118, 116, 97, 97, 59] u0 0) w) := by
  unfold RministerLine_27
  refine pc_as ?_
  refine LX_v sm (by omega) (fun u1 p1 b1 e1 x1 hb1 sm1 frc1 g1 frr1 hx1 nb1 => ?_) (fun _ _ hw => pc_as (we_num hw (fun _ => pc_as (we_num hw (fun _ => pc_as (we_num hw (fun _ => w_27t hw)))))))
  refine pc_as ?_
  refine LX_t sm1 (by omega) (fun u2 p2 b2 e2 x2 hb2 sm2 frc2 g2 frr2 hx2 nb2 => ?_) (fun _ _ hw => pc_as (we_num hw (fun _ => pc_as (we_num hw (fun _ => w_27t hw)))))
  refine pc_as ?_
  refine LX_a sm2 (by omega) (fun u3 p3 b3 e3 x3 hb3 sm3 frc3 g3 frr3 hx3 nb3 => ?_) (fun _ _ hw => pc_as (we_num hw (fun _ => w_27t hw)))
  refine pc_as ?_
  refine LX_a sm3 (by omega) (fun u4 p4 b4 e4 x4 hb4 sm4 frc4 g4 frr4 hx4 nb4 => ?_) (fun _ _ hw => w_27t hw)
  rw [if_neg (show ¬ (1 : Int32) = 0 by decide)]
  refine pc_as ?_
  by_cases z4 : p4.2 65 7 = 0
  · obtain ⟨z3, v4⟩ := hx4 z4
    obtain ⟨z2, v3⟩ := hx3 z3
    obtain ⟨z1, v2⟩ := hx2 z2
    obtain ⟨z0, v1⟩ := hx1 z1
    obtain ⟨zv, n, hn, e10, r67⟩ := hz z0
    obtain ⟨n2, V, T, rp⟩ := ct zv
    obtain rfl : n2 = n := nI_inj (by have := rp.1.1; omega) (by omega) (rp.2.1.2.2.symm.trans r67)
    have k67 : p4.2 67 = v 67 := by rw [frr4.1 67 (by decide) (by decide), frr3.1 67 (by decide) (by decide), frr2.1 67 (by decide) (by decide), frr1.1 67 (by decide) (by decide), f67]
    have idx : ∀ i : Nat, (10 : Int32) + 18 * nI n2 + nI i = nI (10 + 18 * n2 + i) := by
      intro i
      show nI 10 + nI 18 * nI n2 + nI i = _
      rw [nI_mulx, nI_add, nI_add]
    refine pc_rdv (e := 0) rfl (by decide) (by decide) ?_
    rw [k67, r67]
    refine pc_as (pc_wrv (e := 10 + 18 * n2 + 0) (idx 0) (by omega) (by decide) ?_)
    refine pc_as (pc_wrv (e := 10 + 18 * n2 + 1) (idx 1) (by omega) (by decide) ?_)
    refine pc_as (pc_wrv (e := 10 + 18 * n2 + 2) (idx 2) (by omega) (by decide) ?_)
    refine pc_as (pc_wrv (e := 10 + 18 * n2 + 3) (idx 3) (by omega) (by decide) ?_)
    refine pc_as (pc_rdv (e := 0) rfl (by decide) (by decide) ?_)
    refine pc_as (pc_wrv (e := 0) rfl (by decide) (by decide) ?_)
    rw [up_bn (by omega), up_bn (by omega), up_bn (by omega), up_bn (by omega), k67, r67, ← nI_succ]
    show pc (RrepublicLine_223 (up (up (up (up (up p4.2 67 (10 + 18 * n2 + 0) p1.1) 67 (10 + 18 * n2 + 1) p2.1) 67 (10 + 18 * n2 + 2) p3.1) 67 (10 + 18 * n2 + 3) p4.1) 67 0 (nI (n2 + 1))) y1 y2) _
    unfold RrepublicLine_223
    refine end_l (by omega) (SM_67 sm4 (fun c hc => by rw [up_n hc, up_n hc, up_n hc, up_n hc, up_n hc])) (fun q u5 w5 frc f55 frr => ?_)
    have F : FRc u0 u5 := FRc_tr frc1 (FRc_tr frc2 (FRc_tr frc3 (FRc_tr frc4 frc)))
    have fu : ∀ c, 44 ≤ c → c ≤ 51 → u5 c = u c := fun c h1 h2 => by rw [F.1 c (by omega) (by omega), f0.1 c (by omega) (by omega)]
    have d0 : cl 5 (u5 55) 0 = p1.1 := by rw [show cl 5 (u5 55) 0 = u5 55 0 from cl5 (k := 0) (by decide), f55, g4, upd_b (by decide), g3, upd_b (by decide), g2, upd_b (by decide), g1, upd_a, v1]
    have d1 : cl 5 (u5 55) 1 = p2.1 := by rw [show cl 5 (u5 55) 1 = u5 55 1 from cl5 (k := 1) (by decide), f55, g4, upd_b (by decide), g3, upd_b (by decide), g2, upd_a, v2]
    have d2 : cl 5 (u5 55) 2 = p3.1 := by rw [show cl 5 (u5 55) 2 = u5 55 2 from cl5 (k := 2) (by decide), f55, g4, upd_b (by decide), g3, upd_a, v3]
    have d3 : cl 5 (u5 55) 3 = p4.1 := by rw [show cl 5 (u5 55) 3 = u5 55 3 from cl5 (k := 3) (by decide), f55, g4, upd_a, v4]
    have en : u5 44 0 = nI n2 := by rw [fu 44 (by decide) (by decide)]; exact rp.2.1.1
    have e10' : u5 43 10 = nI (n2 + 1) := by rw [F.2 10 (by decide) (by decide) (by decide) (by decide) (by decide), f0.2.1, e10, ← nI_succ]
    have e11' : u5 43 11 = nI T := by rw [F.2 11 (by decide) (by decide) (by decide) (by decide) (by decide), f0.2.2.1]; exact rp.2.2.2.2.2.2.2.2.1
    have am : admS u5 = up (up (up (up (up u5 45 n2 p1.1) 46 n2 p2.1) 47 n2 p3.1) 48 n2 p4.1) 44 0 (nI (n2 + 1)) := by
      unfold admS
      rw [en, if_neg (show ¬ (6 : Int32) ≤ nI n2 from nI_ge (b := 6) (by omega) (by decide)), d0, d1, d2, d3, pt_e hn (by decide), pt_e hn (by decide), pt_e hn (by decide), pt_e hn (by decide), ← nI_succ]
    have tk : takSW u5 (nI 0) (cl 5 (u5 55) 0) (cl 5 (u5 55) 1) (nI 0) = admS u5 := by
      unfold takSW
      rw [if_pos (show nI 0 = 0 from rfl)]
    have e11 : up (up (up (up (up u5 45 n2 p1.1) 46 n2 p2.1) 47 n2 p3.1) 48 n2 p4.1) 44 0 (nI (n2 + 1)) 43 11 = nI T := by
      rw [up_n (by decide), up_n (by decide), up_n (by decide), up_n (by decide), up_n (by decide)]; exact e11'
    have et : tkeS u5 0 (nI 0) = up (up (up (up (up (up u5 45 n2 p1.1) 46 n2 p2.1) 47 n2 p3.1) 48 n2 p4.1) 44 0 (nI (n2 + 1))) 43 11 (nI T) := by
      rw [tke_0, tk, am]
      unfold ttoS
      rw [if_neg (by decide), if_neg (by decide), if_neg (by decide), if_neg (by decide), if_neg (by decide), e11, or_0, or_0, up_up]
    rw [et]
    have e67 := frr.1 67 (by decide) (by decide)
    refine ⟨fun j hj => by rw [up_bn hj, up_n (by decide), up_n (by decide), up_n (by decide), up_n (by decide), up_n (by decide)], by rw [up_n (by decide), up_n (by decide), up_n (by decide), up_n (by decide), up_n (by decide), up_n (by decide)], n2 + 1, V, T, RPA_min (x := fun c => if c = 0 then p1.1 else if c = 1 then p2.1 else if c = 2 then p3.1 else p4.1) rp hn (fun c hc => ?_) (fun c j h1 h2 h3 h4 => ?_) ?_ ?_ ?_ (fun c hc => ?_) (fun j h1 h2 => ?_) ?_ (fun c hc => ?_) ?_⟩
    · rcases (by omega : c = 0 ∨ c = 1 ∨ c = 2 ∨ c = 3) with rfl | rfl | rfl | rfl
      · exact NB_w nb1 (by decide)
      · exact nb2
      · exact NB_w nb3 (by decide)
      · exact NB_w nb4 (by decide)
    · rw [up_x (by omega), up_x (by omega), up_x (by omega), up_x (by omega), up_x (by omega), up_x (by omega), fu c h1 h2]
    · rw [up_bn (by decide), up_n (by decide), up_n (by decide), up_n (by decide), up_n (by decide), up_n (by decide)]; exact e10'
    · rw [up_a]; exact rp.2.2.2.2.2.2.2.2.1.symm
    · rw [up_n (by decide), up_a]
    · rcases (by omega : c = 0 ∨ c = 1 ∨ c = 2 ∨ c = 3) with rfl | rfl | rfl | rfl
      · rw [up_n (by decide), up_n (by decide), up_n (by decide), up_n (by decide), up_n (by decide)]; exact up_a
      · rw [up_n (by decide), up_n (by decide), up_n (by decide), up_n (by decide)]; exact up_a
      · rw [up_n (by decide), up_n (by decide), up_n (by decide)]; exact up_a
      · rw [up_n (by decide), up_n (by decide)]; exact up_a
    · rw [e67, up_bn h1, up_bn (by omega), up_bn (by omega), up_bn (by omega), up_bn (by omega), k67]
    · rw [e67, up_a]
    · rw [e67]
      rcases (by omega : c = 0 ∨ c = 1 ∨ c = 2 ∨ c = 3) with rfl | rfl | rfl | rfl
      · rw [up_bn (by omega), up_bn (by omega), up_bn (by omega), up_bn (by omega)]; exact up_a
      · rw [up_bn (by omega), up_bn (by omega), up_bn (by omega)]; exact up_a
      · rw [up_bn (by omega), up_bn (by omega)]; exact up_a
      · rw [up_bn (by omega)]; exact up_a
    · rw [frr.2.2 9 (by omega), up_n (by decide), up_n (by decide), up_n (by decide), up_n (by decide), up_n (by decide), frr4.2.2 9 (by omega), frr3.2.2 9 (by omega), frr2.2.2 9 (by omega), frr1.2.2 9 (by omega), f9]
  · refine pc_rd (fun _ => pc_as (pc_wr (fun _ => pc_as (pc_wr (fun _ => pc_as (pc_wr (fun _ => pc_as (pc_wr (fun _ => pc_as (pc_rd (fun _ => pc_as (pc_wr (fun _ => ?_)))))))))))))
    show pc (RrepublicLine_223 _ y1 y2) _
    unfold RrepublicLine_223
    refine end_l (by omega) (SM_67 sm4 (fun c hc => by rw [up_n hc, up_n hc, up_n hc, up_n hc, up_n hc])) (fun q _ _ _ _ _ => ?_)
    rw [up_n (by decide), up_n (by decide), up_n (by decide), up_n (by decide), up_n (by decide)] at q
    exact absurd q z4
theorem min_eq {w : SG} {y : Int32} (h8 : w 64 8 = 0) : RministerLine w y = (if (w 64 8) = 0 then ((rdI w 67 201 0).bind fun g2 => if g2 < nI 6 then RministerLine_27 w y 1 else (Ralso w 3 y).bind fun s3 => RministerLine_27 s3 y 0) else RministerLine_27 w y 1) := by
  unfold RministerLine RministerLine_16
  rw [if_pos h8]
  cases rdI w 67 201 0 with
  | none => rfl
  | some g =>
    show (if 6 ≤ g then (if (0 : Int32) = 0 then ((Ralso w 3 y).bind fun s1 => RministerLine_27 s1 y 0) else RministerLine_27 w y 0) else (if (1 : Int32) = 0 then ((Ralso w 3 y).bind fun s1 => RministerLine_27 s1 y 1) else RministerLine_27 w y 1)) = (if g < nI 6 then RministerLine_27 w y 1 else (Ralso w 3 y).bind fun s3 => RministerLine_27 s3 y 0)
    rw [if_pos (show (0 : Int32) = 0 from rfl), if_neg (show ¬ (1 : Int32) = 0 by decide)]
    by_cases c : g < nI 6
    · rw [if_pos c, if_neg (show ¬ (6 : Int32) ≤ g from Int32.not_le.mpr c)]
    · rw [if_neg c, if_pos (show (6 : Int32) ≤ g from Int32.not_lt.mp c)]
theorem lin_0 {e : Nat} (h : SM f L a e u v) (ct : v 65 7 = 0 → RPS u v) : pc (RrepublicLine v) (fun w => LE (QL f L a RPS) (rliP u 0) w) := by
  unfold RrepublicLine
  refine pc_b (key_c (z := 0) (lo := 1) (hi := 10) h (by decide) (by decide +kernel) (by decide) (by decide) (by decide)) (fun p hp => ?_)
  rcases hp with ⟨c1, we⟩ | ⟨k, ae, hk, c1, ep, ky⟩
  · rw [rliP_n (so := 0) (show choI u (worZ 0) = -1 from c1)]
    exact pc_w (Q := fun w => WE u w) (w_14 we) (fun w hw => LE_w hw)
  have c2 : choI u (worZ 0) = nI k := c1
  rw [rliP_c (so := 0) (by rw [c2]; exact nI_n1 (by omega)), c2, ep]
  by_cases k0 : k = 0
  · subst k0
    rw [show forms 0 (nI 0) = [118, 116, 97, 97, 59] by decide +kernel]
    obtain ⟨n1, n2, n3⟩ := cnt_f (u := u) (so := 0)
    have cnt : couS u 0 (choI u (worZ 0)) = cntS u 0 := cou_e (Or.inr (by rw [c2]; rfl))
    have KK := ky (cntS u 0) (n2 6 (by decide) (by decide) (by decide)) (n2 9 (by decide) (by decide) (by decide)) (n1 54 (by decide))
    have w8 : p.2 64 8 = 0 := by obtain ⟨⟨_, _, _, _, _, w8, _⟩, _⟩ := KK; exact w8
    show pc (RrepublicLine_14 p.2 (v 64 4) (nI (1 + 0)) (nI 1)) _
    unfold RrepublicLine_14
    rw [if_pos (show nI 1 = 1 from rfl), min_eq w8, show ∀ (c : Prop) [Decidable c] (A B : Option SG), ((if c then A else B).bind fun s => RrepublicLine_223 s (v 64 4) (nI (1 + 0))) = (if c then A.bind fun s => RrepublicLine_223 s (v 64 4) (nI (1 + 0)) else B.bind fun s => RrepublicLine_223 s (v 64 4) (nI (1 + 0))) from fun c _ A B => by split <;> rfl]
    have sh : ((rdI p.2 67 201 0).bind fun g2 => if g2 < nI 6 then RministerLine_27 p.2 (v 64 4) 1 else (Ralso p.2 3 (v 64 4)).bind fun s3 => RministerLine_27 s3 (v 64 4) 0).bind (fun s => RrepublicLine_223 s (v 64 4) (nI (1 + 0))) = (rdI p.2 67 201 0).bind (fun g2 => if g2 < nI 6 then (RministerLine_27 p.2 (v 64 4) 1).bind (fun s => RrepublicLine_223 s (v 64 4) (nI (1 + 0))) else (Ralso p.2 3 (v 64 4)).bind fun s3 => (RministerLine_27 s3 (v 64 4) 0).bind (fun s => RrepublicLine_223 s (v 64 4) (nI (1 + 0)))) := by
      cases rdI p.2 67 201 0 with
      | none => rfl
      | some g =>
        simp only [Option.bind_some]
        by_cases hg : g < nI 6
        · rw [if_pos hg, if_pos hg]
        · rw [if_neg hg, if_neg hg]
          cases Ralso p.2 3 (v 64 4) <;> rfl
    rw [sh]
    refine sta_2 (so := 0) (M := 6) (X := fun w => (RministerLine_27 w (v 64 4) 1).bind (fun s => RrepublicLine_223 s (v 64 4) (nI (1 + 0)))) (Y := fun w => (RministerLine_27 w (v 64 4) 0).bind (fun s => RrepublicLine_223 s (v 64 4) (nI (1 + 0)))) h (by decide) (by decide) cnt KK (fun z => by obtain ⟨n, V, T, rp⟩ := ct z; exact ⟨n, rp.1.1, rp.2.1.2.1, rp.2.1.2.2⟩) (fun w0 a2 e2 ha2 sm f0 f67 f65 f64 hz => ?_) (fun w0 a2 e2 ha2 sm f0 f67 f65 f64 nz => ?_)
    · exact rep_0x ha2 sm f0 ct (f67 67 (by decide) (by decide)) (f64 9 (by omega)) hz
    · exact rep_0y ha2 sm nz
  · have KK := ky u rfl rfl rfl
    have e65 : p.2 65 = v 65 := KK.2.1 65 (by decide)
    have e67 : p.2 67 = v 67 := KK.2.1 67 (by decide)
    have e9 : p.2 64 9 = v 64 9 := KK.2.2 9 (by omega)
    have fl : FL a u v := h.2.2.2.2
    have nk : ¬ nI k = 0 := fun q => k0 (nI_inj (a := k) (b := 0) (by omega) (by decide) q)
    obtain ⟨a2, e2, ha2, sm, g1, g2, g3, g4⟩ := sta_n (so := 0) h (by rw [c2]; exact (cou_n rfl nk).symm) (fun _ _ => rfl) (fun _ _ _ _ => rfl) KK (fun b hb => FL_lo fl hb rfl rfl (by rw [e65]) (by rw [e65]))
    have ct0 : p.2 65 7 = 0 → RPS (rl0 u 0) p.2 := by
      intro z
      rw [e65] at z
      obtain ⟨n, V, T, rp⟩ := ct z
      exact ⟨n, V, T, RPA_g rp (fun c h1 h2 => g1 c (by omega) (by omega)) g2 g3 e67 e9⟩
    rcases (by omega : k = 1 ∨ k = 2 ∨ k = 3 ∨ k = 4 ∨ k = 5 ∨ k = 6 ∨ k = 7 ∨ k = 8 ∨ k = 9) with rfl | rfl | rfl | rfl | rfl | rfl | rfl | rfl | rfl
    · rw [show forms 0 (nI 1) = [109, 115, 97, 97, 97, 59] by decide +kernel]; exact rep_1 ha2 sm ct0
    · rw [show forms 0 (nI 2) = [109, 59] by decide +kernel]; exact rep_2 ha2 sm ct0
    · rw [show forms 0 (nI 3) = [109, 102, 59] by decide +kernel]; exact rep_3 ha2 sm ct0
    · rw [show forms 0 (nI 4) = [107, 109, 59] by decide +kernel]; exact rep_4 ha2 sm ct0
    · rw [show forms 0 (nI 5) = [113, 59] by decide +kernel]; exact rep_5 ha2 sm ct0
    · rw [show forms 0 (nI 6) = [97, 59] by decide +kernel]; exact rep_6 ha2 sm ct0
    · rw [show forms 0 (nI 7) = [104, 59] by decide +kernel]; exact rep_7 ha2 sm ct0
    · rw [show forms 0 (nI 8) = [104, 59] by decide +kernel]; exact rep_8 ha2 sm ct0
    · rw [show forms 0 (nI 9) = [104, 59] by decide +kernel]; exact rep_9 ha2 sm ct0
end REQ
end XTQ
