section
section XTL
variable {sc : Nat × (Nat → Int32)} {d : Nat} {K : List KD} {r q t a B m : Nat} {w : EW}
/-! lines of orders; years and orders, line by line -/
theorem pc_as {α β γ : Type} {o : Option α} {f : α → Option β} {g : β → Option γ} {P : γ → Prop} (h : pc (o.bind fun x => (f x).bind g) P) : pc ((o.bind f).bind g) P := by
  cases o with
  | none => exact h
  | some a => exact h
theorem pc_ib {β γ : Type} {c : Prop} [Decidable c] {x y : Option β} {g : β → Option γ} {P : γ → Prop} (h : pc (if c then x.bind g else y.bind g) P) : pc ((if c then x else y).bind g) P := by
  by_cases e : c
  · rw [if_pos e] at h ⊢; exact h
  · rw [if_neg e] at h ⊢; exact h
/-- 'in' and a season, or nothing, then the rest -/
theorem LX_in {f : Nat → Int32} {L a e part : Nat} {u v : SG} {so line : Int32} {l : List Int32} {Q : SG → SG → Prop} {A B : Option SG} {k : Int32 × SG → Option SG} (h : SM f L a e u v) (hp : part < 5) (hA : A = (Radvance v).bind fun s4 => (RseasonTold s4).bind k) (hB : B = k (-1, v))
    (g1 : ∀ (u2 w2 : SG) (a2 e2 : Nat) (x : Int32), a ≤ a2 → SM f L a2 e2 u2 w2 → FRc u u2 → (u2 55 = upd (u 55) part x ∨ (x = -1 ∧ u2 55 = u 55)) → FRr v w2 → w2 65 = v 65 → pc (k (x, w2)) (fun w => LE Q (rlC so line l u2 (part + 1)) w))
    (g2 : ∀ z w, WE u w → pc (k (z, w)) (fun w => WE u w)) (g3 : ∀ u2 z w, WE u2 w → pc (k (z, w)) (fun w => WE u2 w)) : pc (if (v 64 8) = 0 then (if (v 64 5) = 3 then (if (v 64 7) = 21 then A else B) else B) else B) (fun w => LE Q (rlC so line (105 :: l) u part) w) := by
  have h8 := h.2.2.1
  have t13 : ∀ c, c < 32 → tb 13 c = if c = 20 then 0 else -1 := by decide +kernel
  rw [if_pos h8]
  have rp : rpaP u 105 (nI part) = if choI u 13 = -1 then (1, u) else if choI (advS u) 15 = -1 then (0, advS u) else (1, advS (pt 5 (advS u) 55 (nI part) (choI (advS u) 15))) := by
    unfold rpaP
    rw [if_neg (by decide), if_pos rfl, show choZ 105 = 15 from by decide, if_pos (show isEI 15 = 0 by decide)]
  have no : choI u 13 = -1 → pc B (fun w => LE Q (rlC so line (105 :: l) u part) w) := by
    intro c
    rw [rlC, rp, if_pos c, if_neg (show ¬ ((1 : Int32), u).1 = 0 from (by decide : ¬ (1 : Int32) = 0)), hB]
    exact g1 u v a e (-1) (Nat.le_refl a) h FRc_rfl (Or.inr ⟨rfl, rfl⟩) FRr_rfl rfl
  rcases TK_c h with ⟨n5, hz⟩ | ⟨c, hc, ae, h5, h7, hz⟩
  · rw [if_neg n5]; exact no (hz 13 (by decide))
  · have tz := hz 13 (by decide)
    rw [t13 c hc] at tz
    rw [if_pos h5]
    by_cases c20 : c = 20
    · subst c20
      rw [if_pos rfl] at tz
      rw [if_pos (show v 64 7 = 21 from h7), hA]
      obtain ⟨hcb, hr, _, tk, hf⟩ := h
      have fl : FL e u v := FL_lo hf (by omega) rfl rfl rfl rfl
      refine pc_b (pc_ok (SM_adv hcb tk.2.1 tk.2.2.2.2.1 hr tk.2.2.2.1 h8 fl)) (fun w1 hw1 => ?_)
      obtain ⟨⟨a2, e2, ha2, sm⟩, k1, k2⟩ := hw1
      obtain ⟨_, _, c3, c4⟩ := adv_c hcb
      have frc : FRc u (advS u) := ⟨fun c b1 b2 => c3 c b1, fun j b1 b2 b3 b4 b5 => c4 j b3 b4 b5⟩
      have frr : FRr v w1 := ⟨fun c b1 b2 => k1 c b1, fun j b1 b2 => by rw [k1 65 (by decide)], k2⟩
      have r2 : (rlC so line (105 :: l) u part) = (rlC so line (115 :: l) (advS u) part) := by
        rw [rlC, rlC, rp, rpa_e, if_neg (show ¬ choI u 13 = -1 by rw [tz]; decide)]; rfl
      rw [r2]
      refine LX_sea sm hp (fun u3 w3 a3 e3 j ha3 hj sm3 frc3 f553 frr3 e653 => ?_) (fun z w hw => g3 _ z w hw)
      exact g1 u3 w3 a3 e3 (nI j) (by omega) sm3 (FRc_tr frc frc3) (Or.inl (by rw [f553, c3 55 (by decide)])) (FRr_tr frr frr3) (by rw [e653, k1 65 (by decide)])
    · rw [if_neg c20] at tz
      rw [if_neg (fun q => c20 (by have := nI_inj (a := c + 1) (b := 21) (by omega) (by decide) (h7.symm.trans q); omega))]
      exact no tz
theorem or_sum {f : Nat → Int32} {L a a2 e2 : Nat} {u v u0 w0 : SG} {y1 : Int32} (ct : v 65 7 = 0 → RWS 5 8 u v) (ha2 : a < a2) (sm : SM f L a2 e2 u0 w0) (f0 : RL0 u u0) (f67 : w0 67 = v 67) (hz : w0 65 7 = 0 → v 65 7 = 0 ∧ ∃ n, n < 8 ∧ u 43 10 = nI n ∧ v 67 0 = nI n) : pc (RorderLine_58 w0 y1 22) (fun w => LE (QL f L a (RWS 5 8)) (rlC 1 (nI 1) [116, 59] u0 0) w) := by
  unfold RorderLine_58
  rw [if_neg (by decide)]
  unfold RorderLine_68
  rw [if_pos rfl]
  have ev : ∀ s : SG, RorderLine_91 s y1 22 = (RendsLine s).bind fun s1 => some s1 := by
    intro s
    unfold RorderLine_91 RorderLine_140
    rw [if_neg (by decide)]
  simp only [ev]
  refine LX_t sm (by omega) (fun u1 p1 b1 e1 x1 hb1 sm1 frc1 g1 frr1 hx1 nb1 => ?_) (fun _ _ hw => we_add hw (fun _ h2 => we_sem h2 (pc_s h2)))
  refine add_l (N := 8) (by omega) sm1 (by decide) ⟨⟨2, rfl, by decide⟩, fun h => absurd h (by decide)⟩ (fun z => ?_)
  obtain ⟨z1, v1⟩ := hx1 z
  obtain ⟨n, hn, en, el, r67, rows, bds⟩ := rws_0 ct (by decide) f0 hz z1
  have k67 : p1.2 67 = v 67 := by rw [frr1.1 67 (by decide) (by decide), f67]
  have k52 : u1 52 = u0 52 := by rw [frc1.1 52 (by decide) (by decide)]
  have k53 : u1 53 = u0 53 := by rw [frc1.1 53 (by decide) (by decide)]
  have k10 : u1 43 10 = u0 43 10 := by rw [frc1.2 10 (by decide) (by decide) (by decide) (by decide) (by decide)]
  have d0 : u1 55 0 = p1.1 := by rw [g1, upd_a]; exact v1
  have d1 : u1 55 1 = -1 := by rw [g1, upd_b (by decide)]; exact f0.2.2.2 1 (by decide)
  have d2 : u1 55 2 = -1 := by rw [g1, upd_b (by decide)]; exact f0.2.2.2 2 (by decide)
  have d3 : u1 55 3 = -1 := by rw [g1, upd_b (by decide)]; exact f0.2.2.2 3 (by decide)
  have d4 : u1 55 4 = -1 := by rw [g1, upd_b (by decide)]; exact f0.2.2.2 4 (by decide)
  refine ⟨⟨n, hn, by rw [k52]; exact en, by rw [k10]; exact el, by rw [k67]; exact r67, fun j i hj hi => by rw [k53, k67]; exact rows j i hj hi, fun j hj => ROK_g (bds rfl j hj) (fun i _ => by show _ = _; rw [k67])⟩, fun u4 e55 => ?_⟩
  have e : tkeS u4 1 (nI 1) = adwS u4 (nI 2) (nI 0) := by
    unfold tkeS tkeSW tkoS
    rw [if_neg (by decide), if_pos rfl, if_neg (by decide), if_pos (show nI 1 = 1 from rfl)]; rfl
  refine ⟨u4, 0, by decide, e, fun _ _ => rfl, ?_, ?_, ?_, ?_⟩
  · rw [e55]; exact d0.symm
  · rw [e55]; exact d1.symm
  · rw [e55]; exact d2.symm
  · rw [e55, show 0 + 3 = 3 from rfl, cl5 (by decide)]; exact d3.symm
theorem or_after {f : Nat → Int32} {L a a2 e2 : Nat} {u v u0 w0 : SG} {y1 : Int32} (ct : v 65 7 = 0 → RWS 5 8 u v) (ha2 : a < a2) (sm : SM f L a2 e2 u0 w0) (f0 : RL0 u u0) (f67 : w0 67 = v 67) (hz : w0 65 7 = 0 → v 65 7 = 0 ∧ ∃ n, n < 8 ∧ u 43 10 = nI n ∧ v 67 0 = nI n) : pc (RorderLine_58 w0 y1 23) (fun w => LE (QL f L a (RWS 5 8)) (rlC 1 (nI 2) [107, 97, 107, 97, 59] u0 0) w) := by
  unfold RorderLine_58
  rw [if_neg (by decide)]
  unfold RorderLine_68
  rw [if_neg (by decide)]
  unfold RorderLine_91 RorderLine_140
  rw [if_pos rfl]
  refine LX_kin sm (by omega) (fun u1 q1 b1 e1 j1 hb1 hj1 sm1 frc1 g1 frr1 h65_1 => ?_) (fun _ _ hw => we_num hw (fun _ => we_kin hw (fun _ => we_num hw (fun _ => we_add hw (fun _ h2 => we_sem h2 (pc_s h2))))))
  try dsimp only
  refine LX_a sm1 (by omega) (fun u2 p2 b2 e2 x2 hb2 sm2 frc2 g2 frr2 hx2 nb2 => ?_) (fun _ _ hw => we_kin hw (fun _ => we_num hw (fun _ => we_add hw (fun _ h2 => we_sem h2 (pc_s h2)))))
  refine LX_kin sm2 (by omega) (fun u3 q3 b3 e3 j3 hb3 hj3 sm3 frc3 g3 frr3 h65_3 => ?_) (fun _ _ hw => we_num hw (fun _ => we_add hw (fun _ h2 => we_sem h2 (pc_s h2))))
  try dsimp only
  refine LX_a sm3 (by omega) (fun u4 p4 b4 e4 x4 hb4 sm4 frc4 g4 frr4 hx4 nb4 => ?_) (fun _ _ hw => we_add hw (fun _ h2 => we_sem h2 (pc_s h2)))
  refine add_l (N := 8) (by omega) sm4 (by decide) ⟨⟨3, rfl, by decide⟩, fun h => absurd h (by decide)⟩ (fun z => ?_)
  obtain ⟨z4, v4⟩ := hx4 z
  have z3 := z4
  rw [h65_3] at z3
  obtain ⟨z2, v2⟩ := hx2 z3
  have z1 := z2
  rw [h65_1] at z1
  obtain ⟨n, hn, en, el, r67, rows, bds⟩ := rws_0 ct (by decide) f0 hz z1
  have k67 : p4.2 67 = v 67 := by rw [frr4.1 67 (by decide) (by decide), frr3.1 67 (by decide) (by decide), frr2.1 67 (by decide) (by decide), frr1.1 67 (by decide) (by decide), f67]
  have k52 : u4 52 = u0 52 := by rw [frc4.1 52 (by decide) (by decide), frc3.1 52 (by decide) (by decide), frc2.1 52 (by decide) (by decide), frc1.1 52 (by decide) (by decide)]
  have k53 : u4 53 = u0 53 := by rw [frc4.1 53 (by decide) (by decide), frc3.1 53 (by decide) (by decide), frc2.1 53 (by decide) (by decide), frc1.1 53 (by decide) (by decide)]
  have k10 : u4 43 10 = u0 43 10 := by rw [frc4.2 10 (by decide) (by decide) (by decide) (by decide) (by decide), frc3.2 10 (by decide) (by decide) (by decide) (by decide) (by decide), frc2.2 10 (by decide) (by decide) (by decide) (by decide) (by decide), frc1.2 10 (by decide) (by decide) (by decide) (by decide) (by decide)]
  have d0 : u4 55 0 = nI j1 := by rw [g4, upd_b (by decide), g3, upd_b (by decide), g2, upd_b (by decide), g1, upd_a]
  have d1 : u4 55 1 = p2.1 := by rw [g4, upd_b (by decide), g3, upd_b (by decide), g2, upd_a]; exact v2
  have d2 : u4 55 2 = nI j3 := by rw [g4, upd_b (by decide), g3, upd_a]
  have d3 : u4 55 3 = p4.1 := by rw [g4, upd_a]; exact v4
  have d4 : u4 55 4 = -1 := by rw [g4, upd_b (by decide), g3, upd_b (by decide), g2, upd_b (by decide), g1, upd_b (by decide)]; exact f0.2.2.2 4 (by decide)
  refine ⟨⟨n, hn, by rw [k52]; exact en, by rw [k10]; exact el, by rw [k67]; exact r67, fun j i hj hi => by rw [k53, k67]; exact rows j i hj hi, fun j hj => ROK_g (bds rfl j hj) (fun i _ => by show _ = _; rw [k67])⟩, fun u4 e55 => ?_⟩
  have e : tkeS u4 1 (nI 2) = adwS u4 (nI 3) (nI 0) := by
    unfold tkeS tkeSW tkoS
    rw [if_neg (by decide), if_pos rfl, if_neg (by decide), if_neg (by decide)]; rfl
  refine ⟨u4, 0, by decide, e, fun _ _ => rfl, ?_, ?_, ?_, ?_⟩
  · rw [e55]; exact d0.symm
  · rw [e55]; exact d1.symm
  · rw [e55]; exact d2.symm
  · rw [e55, show 0 + 3 = 3 from rfl, cl5 (by decide)]; exact d3.symm
theorem or_no {f : Nat → Int32} {L a a2 e2 : Nat} {u v u0 w0 : SG} {y1 : Int32} (ct : v 65 7 = 0 → RWS 5 8 u v) (ha2 : a < a2) (sm : SM f L a2 e2 u0 w0) (f0 : RL0 u u0) (f67 : w0 67 = v 67) (hz : w0 65 7 = 0 → v 65 7 = 0 ∧ ∃ n, n < 8 ∧ u 43 10 = nI n ∧ v 67 0 = nI n) : pc (RorderLine_58 w0 y1 18) (fun w => LE (QL f L a (RWS 5 8)) (rlC 1 (nI 0) [107, 98, 97, 105, 59] u0 0) w) := by
  unfold RorderLine_58
  rw [if_pos rfl]
  have ev : ∀ s : SG, RorderLine_68 s y1 18 = (RendsLine s).bind fun s1 => some s1 := by
    intro s
    unfold RorderLine_68 RorderLine_91 RorderLine_140
    rw [if_neg (by decide), if_neg (by decide)]
  simp only [ev]
  unfold RnoLine
  have w62 : ∀ {u2 w2 : SG} (a b c d : Int32), WE u2 w2 → pc ((RnoLine_62 w2 a b c d).bind fun s => (RendsLine s).bind fun s1 => some s1) (fun w => WE u2 w) := by
    intro u2 w2 a b c d hw
    unfold RnoLine_62
    exact pc_as (we_add hw (fun _ h2 => we_sem h2 (pc_s h2)))
  have wif : ∀ {u2 w2 : SG} {A B : Option SG}, WE u2 w2 → pc (B.bind fun s => (RendsLine s).bind fun s1 => some s1) (fun w => WE u2 w) → pc ((if (w2 64 8) = 0 then A else B).bind fun s => (RendsLine s).bind fun s1 => some s1) (fun w => WE u2 w) := by
    intro u2 w2 A B hw hB
    rw [if_neg hw.1]; exact hB
  refine pc_as ?_
  refine LX_kin sm (by omega) (fun u1 q1 b1 e1 j1 hb1 hj1 sm1 frc1 g1 frr1 h65_1 => ?_) (fun _ _ hw => pc_as (we_tak hw (fun _ => pc_as (we_num hw (fun _ => wif hw (w62 _ _ _ _ hw))))))
  try dsimp only
  refine pc_as ?_
  refine LX_wor (z := 16) (lo := 19) (hi := 20) sm1 (by omega) (by decide) (by decide +kernel) (by decide) (by decide) (by decide) (fun s => rpa_b) (fun u2 q2 b2 e2 j2 hb2 hj2 sm2 frc2 g2 frr2 h65_2 => ?_) (fun _ _ hw => pc_as (we_num hw (fun _ => wif hw (w62 _ _ _ _ hw))))
  try dsimp only
  refine pc_as ?_
  refine LX_a sm2 (by omega) (fun u3 p3 b3 e3 x3 hb3 sm3 frc3 g3 frr3 hx3 nb3 => ?_) (fun _ _ hw => wif hw (w62 _ _ _ _ hw))
  have ej : nI (19 + j2) - 19 = nI j2 := nI_subl (a := 19) (c := j2)
  show pc ((if (p3.2 64 8) = 0 then (if (p3.2 64 5) = 3 then (if (p3.2 64 7) = 21 then ((Radvance p3.2).bind fun s4 => (RseasonTold s4).bind fun p5 => RnoLine_62 p5.2 (nI j1) (nI (19 + j2) - 19) p3.1 p5.1) else RnoLine_62 p3.2 (nI j1) (nI (19 + j2) - 19) p3.1 (-1)) else RnoLine_62 p3.2 (nI j1) (nI (19 + j2) - 19) p3.1 (-1)) else RnoLine_62 p3.2 (nI j1) (nI (19 + j2) - 19) p3.1 (-1)).bind fun s => (RendsLine s).bind fun s1 => some s1) _
  rw [ej]
  have sh : ∀ (c1 c2 c3 : Prop) [Decidable c1] [Decidable c2] [Decidable c3] (A B : Option SG) (g : SG → Option SG), (if c1 then (if c2 then (if c3 then A else B) else B) else B).bind g = (if c1 then (if c2 then (if c3 then A.bind g else B.bind g) else B.bind g) else B.bind g) := by
    intro c1 c2 c3 _ _ _ A B g
    by_cases k1 : c1 <;> by_cases k2 : c2 <;> by_cases k3 : c3 <;> simp only [if_pos, if_neg, k1, k2, k3, if_true, if_false, not_false_eq_true]
  rw [sh]
  refine LX_in (k := fun p5 => (RnoLine_62 p5.2 (nI j1) (nI j2) p3.1 p5.1).bind fun s => (RendsLine s).bind fun s1 => some s1) sm3 (by omega) (by cases Radvance p3.2 with | none => rfl | some s4 => (simp only [Option.bind_some]; cases RseasonTold s4 <;> rfl)) rfl (fun u4 w4 b4 e4 x4 hb4 sm4 frc4 g4 frr4 h65_4 => ?_) (fun _ _ hw => w62 _ _ _ _ hw) (fun _ _ _ hw => w62 _ _ _ _ hw)
  show pc ((RnoLine_62 w4 (nI j1) (nI j2) p3.1 x4).bind fun s => (RendsLine s).bind fun s1 => some s1) _
  unfold RnoLine_62
  refine pc_as ?_
  show pc ((Radds w4 (nI 8) (nI j2) (nI j1) p3.1 x4 (-1)).bind fun s => (RendsLine s).bind fun s1 => some s1) _
  refine add_l (N := 8) (by omega) sm4 (by decide) ⟨⟨j2, rfl, by show j2 ≤ 3; omega⟩, fun h => absurd h (by decide)⟩ (fun z => ?_)
  rw [h65_4] at z
  obtain ⟨z3, v3⟩ := hx3 z
  have z2 := z3
  rw [h65_2] at z2
  have z1 := z2
  rw [h65_1] at z1
  obtain ⟨n, hn, en, el, r67, rows, bds⟩ := rws_0 ct (by decide) f0 hz z1
  have k67 : w4 67 = v 67 := by rw [frr4.1 67 (by decide) (by decide), frr3.1 67 (by decide) (by decide), frr2.1 67 (by decide) (by decide), frr1.1 67 (by decide) (by decide), f67]
  have k52 : u4 52 = u0 52 := by rw [frc4.1 52 (by decide) (by decide), frc3.1 52 (by decide) (by decide), frc2.1 52 (by decide) (by decide), frc1.1 52 (by decide) (by decide)]
  have k53 : u4 53 = u0 53 := by rw [frc4.1 53 (by decide) (by decide), frc3.1 53 (by decide) (by decide), frc2.1 53 (by decide) (by decide), frc1.1 53 (by decide) (by decide)]
  have k10 : u4 43 10 = u0 43 10 := by rw [frc4.2 10 (by decide) (by decide) (by decide) (by decide) (by decide), frc3.2 10 (by decide) (by decide) (by decide) (by decide) (by decide), frc2.2 10 (by decide) (by decide) (by decide) (by decide) (by decide), frc1.2 10 (by decide) (by decide) (by decide) (by decide) (by decide)]
  have i0 : u3 55 0 = nI j1 := by rw [g3, upd_b (by decide), g2, upd_b (by decide), g1, upd_a]
  have i1 : u3 55 1 = nI j2 := by rw [g3, upd_b (by decide), g2, upd_a]
  have i2 : u3 55 2 = p3.1 := by rw [g3, upd_a]; exact v3
  have i3 : u3 55 3 = -1 := by rw [g3, upd_b (by decide), g2, upd_b (by decide), g1, upd_b (by decide)]; exact f0.2.2.2 3 (by decide)
  have i4 : u3 55 4 = -1 := by rw [g3, upd_b (by decide), g2, upd_b (by decide), g1, upd_b (by decide)]; exact f0.2.2.2 4 (by decide)
  have o4 : ∀ i, i ≠ 3 → u4 55 i = u3 55 i := by
    intro i hi
    rcases g4 with g4 | ⟨_, g4⟩
    · rw [g4]; exact upd_b hi
    · rw [g4]
  have d3 : u4 55 3 = x4 := by
    rcases g4 with g4 | ⟨q, g4⟩
    · rw [g4]; exact upd_a
    · rw [g4, i3, q]
  refine ⟨⟨n, hn, by rw [k52]; exact en, by rw [k10]; exact el, by rw [k67]; exact r67, fun j i hj hi => by rw [k53, k67]; exact rows j i hj hi, fun j hj => ROK_g (bds rfl j hj) (fun i _ => by show _ = _; rw [k67])⟩, fun u5 e55 => ?_⟩
  have t0 : pt 5 u5 55 1 (cl 5 (u5 55) 0) = up u5 55 1 (nI j1) := by
    rw [show (1 : Int32) = nI 1 from rfl, pt5 (by decide), show cl 5 (u5 55) 0 = u5 55 0 from cl5 (k := 0) (by decide), e55, o4 0 (by decide), i0]
  have e : tkeS u5 1 (nI 0) = adwS (up u5 55 1 (nI j1)) (nI j2) (nI 1) := by
    unfold tkeS tkeSW tkoS
    rw [if_neg (by decide), if_pos rfl, if_pos (show nI 0 = 0 from rfl), t0, show cl 5 (u5 55) 1 = u5 55 1 from cl5 (k := 1) (by decide), e55, o4 1 (by decide), i1]
    rcases (by omega : j2 = 0 ∨ j2 = 1) with rfl | rfl
    · rw [if_pos (show nI 0 = 0 from rfl)]; rfl
    · rw [if_neg (by decide)]; rfl
  refine ⟨up u5 55 1 (nI j1), 1, by decide, e, fun c hc => up_n hc, ?_, ?_, ?_, ?_⟩
  · rw [up_a]
  · rw [up_bn (by decide), e55, o4 2 (by decide), i2]
  · rw [up_bn (by decide), e55, d3]
  · rw [show 1 + 3 = 4 from rfl, cl5 (by decide), up_bn (by decide), e55, o4 4 (by decide), i4]
theorem ln_2 {f : Nat → Int32} {L a e k code : Nat} {u v : SG} {x y : Int32} {fm : List Int32} (h : SM f L a e u v) (ct : v 65 7 = 0 → RWS 5 40 u v) (ae : a < e) (h5 : v 64 5 = 3) (h7 : v 64 7 = nI code) (c2 : choI u 2 = nI k) (hk : k ≤ 10) (hf : forms 2 (nI k) = fm) (hi : ¬ inI (nI code) x y = 0)
    (go : ∀ (w0 : SG) (a2 e2 : Nat), a < a2 → SM f L a2 e2 (rl0 u 2) w0 → RL0 u (rl0 u 2) → w0 67 = v 67 → (w0 65 7 = 0 → v 65 7 = 0 ∧ ∃ n, n < 40 ∧ u 43 10 = nI n ∧ v 67 0 = nI n) → pc (RyearLine_55 w0 (v 64 4) (nI code)) (fun w => LE (QL f L a (RWS 5 40)) (rlC 2 (nI k) fm (rl0 u 2) 0) w)) : pc ((Rtakes v x y).bind fun p1 => RyearLine_30 p1.2 (v 64 4) p1.1) (fun w => LE (QL f L a (RWS 5 40)) (rliP u 2) w) := by
  have c3 : choI u (worZ 2) = nI k := c2
  obtain ⟨n1, n2, n3⟩ := cnt_f (u := u) (so := 2)
  refine pc_b (pc_ok (tak_y (u1 := cntS u 2) h ae h5 (by rw [h7]; exact hi) (n2 6 (by decide) (by decide) (by decide)) (n2 9 (by decide) (by decide) (by decide)) (n1 54 (by decide)))) (fun p hp => ?_)
  rw [rliP_c (so := 2) (by rw [c3]; exact nI_n1 (by omega)), c3, hf, hp.1, h7]
  unfold RyearLine_30
  exact sta_l (so := 2) (M := 40) (X := fun w => RyearLine_55 w (v 64 4) (nI code)) h (by decide) (by decide) (cou_e (Or.inl (by decide))) hp.2 (fun z => by obtain ⟨n, hn, _, q1, q2, _⟩ := ct z; exact ⟨n, hn, q1, q2⟩) (fun w0 a2 e2 ha2 sm f0 f67 f65 f64 hz => go w0 a2 e2 ha2 sm f0 (f67 67 (by decide) (by decide)) hz)
theorem lin_2 {f : Nat → Int32} {L a e : Nat} {u v : SG} (h : SM f L a e u v) (ct : v 65 7 = 0 → RWS 5 40 u v) : pc (RyearLine v) (fun w => LE (QL f L a (RWS 5 40)) (rliP u 2) w) := by
  have t2 : ∀ c, c < 32 → tb 2 c = if c = 23 then nI 0 else if c = 24 then nI 1 else if c = 4 then nI 2 else if c = 25 then nI 3 else if c = 26 then nI 4 else if c = 27 then nI 5 else -1 := by decide +kernel
  have no : choI u 2 = -1 → (¬ v 64 5 = 3 ∨ (inI (v 64 7) 5 5 = 0 ∧ inI (v 64 7) 24 28 = 0)) → pc (RyearLine v) (fun w => LE (QL f L a (RWS 5 40)) (rliP u 2) w) := by
    intro c1 c2
    rw [rliP_n (so := 2) (show choI u (worZ 2) = -1 from c1)]
    unfold RyearLine
    refine pc_w (Q := fun w => WE u w) (pc_i (fun _ => ?_) (fun _ => ?_)) (fun w hw => LE_w hw)
    · exact pc_b (pc_ok (tak_n h (c2.imp_right (fun z => z.1)))) (fun p hp => w_y30 (WE_of hp.2))
    · exact pc_b (pc_ok (tak_n h (c2.imp_right (fun z => z.2)))) (fun p hp => w_y30 (WE_of hp.2))
  rcases TK_c h with ⟨n5, hz⟩ | ⟨c, hc, ae, h5, h7, hz⟩
  · exact no (hz 2 (by decide)) (Or.inl n5)
  have tz := hz 2 (by decide)
  rw [t2 c hc] at tz
  by_cases c24 : c = 23
  · subst c24
    rw [if_pos rfl] at tz
    have e7 : v 64 7 = nI 24 := h7
    unfold RyearLine
    rw [if_neg (show ¬ v 64 7 = 5 by rw [e7]; decide)]
    exact ln_2 (k := 0) (code := 24) (fm := [109, 97, 97, 97, 59]) h ct ae h5 e7 tz (by decide) (by decide +kernel) (by decide) (fun w0 a2 e2 ha2 sm f0 f67 hz => yr_move ct ha2 sm f0 f67 hz)
  by_cases c25 : c = 24
  · subst c25
    rw [if_neg (by decide), if_pos rfl] at tz
    have e7 : v 64 7 = nI 25 := h7
    unfold RyearLine
    rw [if_neg (show ¬ v 64 7 = 5 by rw [e7]; decide)]
    exact ln_2 (k := 1) (code := 25) (fm := [115, 59]) h ct ae h5 e7 tz (by decide) (by decide +kernel) (by decide) (fun w0 a2 e2 ha2 sm f0 f67 hz => yr_season ct ha2 sm f0 f67 hz)
  by_cases c5 : c = 4
  · subst c5
    rw [if_neg (by decide), if_neg (by decide), if_pos rfl] at tz
    have e7 : v 64 7 = nI 5 := h7
    unfold RyearLine
    rw [if_pos (show v 64 7 = 5 from e7)]
    exact ln_2 (k := 2) (code := 5) (fm := [107, 109, 59]) h ct ae h5 e7 tz (by decide) (by decide +kernel) (by decide) (fun w0 a2 e2 ha2 sm f0 f67 hz => yr_office ct ha2 sm f0 f67 hz)
  by_cases c26 : c = 25
  · subst c26
    rw [if_neg (by decide), if_neg (by decide), if_neg (by decide), if_pos rfl] at tz
    have e7 : v 64 7 = nI 26 := h7
    unfold RyearLine
    rw [if_neg (show ¬ v 64 7 = 5 by rw [e7]; decide)]
    exact ln_2 (k := 3) (code := 26) (fm := [109, 59]) h ct ae h5 e7 tz (by decide) (by decide +kernel) (by decide) (fun w0 a2 e2 ha2 sm f0 f67 hz => yr_dismiss ct ha2 sm f0 f67 hz)
  by_cases c27 : c = 26
  · subst c27
    rw [if_neg (by decide), if_neg (by decide), if_neg (by decide), if_neg (by decide), if_pos rfl] at tz
    have e7 : v 64 7 = nI 27 := h7
    unfold RyearLine
    rw [if_neg (show ¬ v 64 7 = 5 by rw [e7]; decide)]
    exact ln_2 (k := 4) (code := 27) (fm := [109, 59]) h ct ae h5 e7 tz (by decide) (by decide +kernel) (by decide) (fun w0 a2 e2 ha2 sm f0 f67 hz => yr_recall ct ha2 sm f0 f67 hz)
  by_cases c28 : c = 27
  · subst c28
    rw [if_neg (by decide), if_neg (by decide), if_neg (by decide), if_neg (by decide), if_neg (by decide), if_pos rfl] at tz
    have e7 : v 64 7 = nI 28 := h7
    unfold RyearLine
    rw [if_neg (show ¬ v 64 7 = 5 by rw [e7]; decide)]
    exact ln_2 (k := 5) (code := 28) (fm := [59]) h ct ae h5 e7 tz (by decide) (by decide +kernel) (by decide) (fun w0 a2 e2 ha2 sm f0 f67 hz => yr_pass ct ha2 sm f0 f67 hz)
  rw [if_neg c24, if_neg c25, if_neg c5, if_neg c26, if_neg c27, if_neg c28] at tz
  have iz : ∀ x y : Nat, x ≤ 100 → y ≤ 100 → ¬ (x ≤ c + 1 ∧ c + 1 ≤ y) → inI (v 64 7) (nI x) (nI y) = 0 := by
    intro x y hx hy hn
    rw [h7, inI_le (by omega) (by omega) (by omega), if_neg hn]
  exact no tz (Or.inr ⟨iz 5 5 (by decide) (by decide) (by omega), iz 24 28 (by decide) (by decide) (by omega)⟩)
theorem ln_1 {f : Nat → Int32} {L a e k code : Nat} {u v : SG} {x y : Int32} {fm : List Int32} (h : SM f L a e u v) (ct : v 65 7 = 0 → RWS 5 8 u v) (ae : a < e) (h5 : v 64 5 = 3) (h7 : v 64 7 = nI code) (c2 : choI u 1 = nI k) (hk : k ≤ 10) (hf : forms 1 (nI k) = fm) (hi : ¬ inI (nI code) x y = 0)
    (go : ∀ (w0 : SG) (a2 e2 : Nat), a < a2 → SM f L a2 e2 (rl0 u 1) w0 → RL0 u (rl0 u 1) → w0 67 = v 67 → (w0 65 7 = 0 → v 65 7 = 0 ∧ ∃ n, n < 8 ∧ u 43 10 = nI n ∧ v 67 0 = nI n) → pc (RorderLine_58 w0 (v 64 4) (nI code)) (fun w => LE (QL f L a (RWS 5 8)) (rlC 1 (nI k) fm (rl0 u 1) 0) w)) : pc ((Rtakes v x y).bind fun p1 => RorderLine_33 p1.2 (v 64 4) p1.1) (fun w => LE (QL f L a (RWS 5 8)) (rliP u 1) w) := by
  have c3 : choI u (worZ 1) = nI k := c2
  obtain ⟨n1, n2, n3⟩ := cnt_f (u := u) (so := 1)
  refine pc_b (pc_ok (tak_y (u1 := cntS u 1) h ae h5 (by rw [h7]; exact hi) (n2 6 (by decide) (by decide) (by decide)) (n2 9 (by decide) (by decide) (by decide)) (n1 54 (by decide)))) (fun p hp => ?_)
  rw [rliP_c (so := 1) (by rw [c3]; exact nI_n1 (by omega)), c3, hf, hp.1, h7]
  unfold RorderLine_33
  exact sta_l (so := 1) (M := 8) (X := fun w => RorderLine_58 w (v 64 4) (nI code)) h (by decide) (by decide) (cou_e (Or.inl (by decide))) hp.2 (fun z => by obtain ⟨n, hn, _, q1, q2, _⟩ := ct z; exact ⟨n, hn, q1, q2⟩) (fun w0 a2 e2 ha2 sm f0 f67 f65 f64 hz => go w0 a2 e2 ha2 sm f0 (f67 67 (by decide) (by decide)) hz)
theorem lin_1 {f : Nat → Int32} {L a e : Nat} {u v : SG} (h : SM f L a e u v) (ct : v 65 7 = 0 → RWS 5 8 u v) : pc (RorderLine v) (fun w => LE (QL f L a (RWS 5 8)) (rliP u 1) w) := by
  have t2 : ∀ c, c < 32 → tb 1 c = if c = 17 then nI 0 else if c = 21 then nI 1 else if c = 22 then nI 2 else -1 := by decide +kernel
  have no : choI u 1 = -1 → (¬ v 64 5 = 3 ∨ (inI (v 64 7) 18 18 = 0 ∧ inI (v 64 7) 22 23 = 0)) → pc (RorderLine v) (fun w => LE (QL f L a (RWS 5 8)) (rliP u 1) w) := by
    intro c1 c2
    rw [rliP_n (so := 1) (show choI u (worZ 1) = -1 from c1)]
    unfold RorderLine
    refine pc_w (Q := fun w => WE u w) (pc_i (fun _ => ?_) (fun _ => ?_)) (fun w hw => LE_w hw)
    · exact pc_b (pc_ok (tak_n h (c2.imp_right (fun z => z.1)))) (fun p hp => w_o33 (WE_of hp.2))
    · exact pc_b (pc_ok (tak_n h (c2.imp_right (fun z => z.2)))) (fun p hp => w_o33 (WE_of hp.2))
  rcases TK_c h with ⟨n5, hz⟩ | ⟨c, hc, ae, h5, h7, hz⟩
  · exact no (hz 1 (by decide)) (Or.inl n5)
  have tz := hz 1 (by decide)
  rw [t2 c hc] at tz
  by_cases c18 : c = 17
  · subst c18
    rw [if_pos rfl] at tz
    have e7 : v 64 7 = nI 18 := h7
    unfold RorderLine
    rw [if_pos (show v 64 7 = 18 from e7)]
    exact ln_1 (k := 0) (code := 18) (fm := [107, 98, 97, 105, 59]) h ct ae h5 e7 tz (by decide) (by decide +kernel) (by decide) (fun w0 a2 e2 ha2 sm f0 f67 hz => or_no ct ha2 sm f0 f67 hz)
  by_cases c22 : c = 21
  · subst c22
    rw [if_neg (by decide), if_pos rfl] at tz
    have e7 : v 64 7 = nI 22 := h7
    unfold RorderLine
    rw [if_neg (show ¬ v 64 7 = 18 by rw [e7]; decide)]
    exact ln_1 (k := 1) (code := 22) (fm := [116, 59]) h ct ae h5 e7 tz (by decide) (by decide +kernel) (by decide) (fun w0 a2 e2 ha2 sm f0 f67 hz => or_sum ct ha2 sm f0 f67 hz)
  by_cases c23 : c = 22
  · subst c23
    rw [if_neg (by decide), if_neg (by decide), if_pos rfl] at tz
    have e7 : v 64 7 = nI 23 := h7
    unfold RorderLine
    rw [if_neg (show ¬ v 64 7 = 18 by rw [e7]; decide)]
    exact ln_1 (k := 2) (code := 23) (fm := [107, 97, 107, 97, 59]) h ct ae h5 e7 tz (by decide) (by decide +kernel) (by decide) (fun w0 a2 e2 ha2 sm f0 f67 hz => or_after ct ha2 sm f0 f67 hz)
  rw [if_neg c18, if_neg c22, if_neg c23] at tz
  have iz : ∀ x y : Nat, x ≤ 100 → y ≤ 100 → ¬ (x ≤ c + 1 ∧ c + 1 ≤ y) → inI (v 64 7) (nI x) (nI y) = 0 := by
    intro x y hx hy hn
    rw [h7, inI_le (by omega) (by omega) (by omega), if_neg hn]
  exact no tz (Or.inr ⟨iz 18 18 (by decide) (by decide) (by omega), iz 22 23 (by decide) (by decide) (by omega)⟩)
end XTL
end
section
section XTM
variable {sc : Nat × (Nat → Int32)} {d : Nat} {K : List KD} {r q t a B m : Nat} {w : EW}
/-! lines of summers and bargains, on both sides -/
/-- the class's state behind the first word, if nothing limits the lines -/
theorem sta_n {f : Nat → Int32} {L a e : Nat} {u v u1 w : SG} {so : Int32} (h : SM f L a e u v) (e1 : u1 = couS u so (choI u (worZ so))) (n1 : ∀ c, c ≠ 43 → u1 c = u c) (n2 : ∀ j, j ≠ 2 → j ≠ 3 → j ≠ 10 → u1 43 j = u 43 j) (ky : KY f L a (advS u1) v w) (fl : ∀ b, a ≤ b → FL b u1 w) : ∃ a2 e2, a < a2 ∧ SM f L a2 e2 (rl0 u so) w ∧ (∀ c, c ≠ 43 → c ≠ 55 → rl0 u so c = u c) ∧ rl0 u so 43 10 = u1 43 10 ∧ rl0 u so 43 11 = u 43 11 ∧ ∀ j, j < 5 → rl0 u so 55 j = -1 := by
  obtain ⟨⟨a2, e2, ha, cb, rt, w8, tk⟩, k1, k2⟩ := ky
  have r0 := rl0_f (u := u) (so := so) e1 n1
  have adv : ∀ j, j ≠ 7 → j ≠ 8 → j ≠ 9 → advS u1 43 j = u1 43 j := by
    intro j a1 a2 a3
    unfold advS adv1
    repeat' split
    all_goals simp only [up_bn a1, up_bn a2, up_bn a3]
  have a54 : advS u1 54 = u1 54 := by
    unfold advS adv1
    repeat' split
    all_goals simp (disch := decide) only [up_n]
  have sm : SM f L a2 e2 (advS u1) w := ⟨cb, rt, w8, tk, FL_lo (fl a2 (Nat.le_of_lt ha)) (Nat.le_refl _) (adv 2 (by decide) (by decide) (by decide)) (adv 3 (by decide) (by decide) (by decide)) rfl rfl⟩
  refine ⟨a2, e2, ha, SM_g sm (fun j _ => r0.2.2 j) (by rw [r0.1 54 (by decide) (by decide), a54, n1 54 (by decide)]) (fun _ _ => rfl) (fun _ _ => rfl), r0.1, by rw [r0.2.2, adv 10 (by decide) (by decide) (by decide)], by rw [r0.2.2, adv 11 (by decide) (by decide) (by decide), n2 11 (by decide) (by decide) (by decide)], r0.2.1⟩
theorem w_suA {u v : SG} {y1 y2 y3 y4 y5 : Int32} (hw : WE u v) : pc ((rdI v 67 201 0).bind fun g5 => if 8 ≤ g5 then RsummerLine_142 v y1 y2 y3 y4 y5 else (rdI v 67 201 0).bind fun g6 => (wrI v 67 201 (1 + (4 * g6)) y2).bind fun s7 => (wrI s7 67 201 ((1 + (4 * g6)) + 1) y3).bind fun s8 => (wrI s8 67 201 ((1 + (4 * g6)) + 2) y4).bind fun s9 => (wrI s9 67 201 ((1 + (4 * g6)) + 3) y5).bind fun s10 => (rdI s10 67 201 0).bind fun g11 => (wrI s10 67 201 0 (g11 + 1)).bind fun s12 => RsummerLine_142 s12 y1 y2 y3 y4 y5) (fun w => WE u w) := by
  exact pc_rd (fun _ => pc_i (fun _ => w_su142 hw) (fun _ => pc_rd (fun _ => we_wri hw (fun _ h1 => we_wri h1 (fun _ h2 => we_wri h2 (fun _ h3 => we_wri h3 (fun _ h4 => pc_rd (fun _ => we_wri h4 (fun _ h5 => w_su142 h5)))))))))
theorem lin_4 {f : Nat → Int32} {L a e : Nat} {u v : SG} (h : SM f L a e u v) (ct : v 65 7 = 0 → RWS 4 8 u v) : pc (RsummerLine v) (fun w => LE (QL f L a (RWS 4 8)) (rliP u 4) w) := by
  unfold RsummerLine
  refine pc_b (key_c (z := 4) (lo := 31) (hi := 31) h (by decide) (by decide +kernel) (by decide) (by decide) (by decide)) (fun p hp => ?_)
  rcases hp with ⟨c1, we⟩ | ⟨k, ae, hk, c1, ep, ky⟩
  · rw [rliP_n (so := 4) (show choI u (worZ 4) = -1 from c1)]
    exact pc_w (Q := fun w => WE u w) (pc_i (fun z => absurd z we.1) (fun _ => w_su38 we)) (fun w hw => LE_w hw)
  obtain rfl : k = 0 := by omega
  have c2 : choI u (worZ 4) = nI 0 := c1
  rw [rliP_c (so := 4) (by rw [c2]; decide), c2, show forms 4 (nI 0) = [115, 97, 97, 97, 59] by decide +kernel]
  obtain ⟨n1, n2, n3⟩ := cnt_f (u := u) (so := 4)
  refine sta_l (so := 4) (M := 8) (X := fun w => RsummerLine_38 w (v 64 4)) h (by decide) (by decide) (cou_e (Or.inl (by decide))) (ky _ (n2 6 (by decide) (by decide) (by decide)) (n2 9 (by decide) (by decide) (by decide)) (n1 54 (by decide))) (fun z => by obtain ⟨n, hn, _, q1, q2, _⟩ := ct z; exact ⟨n, hn, q1, q2⟩) (fun w0 a2 e2 ha2 sm f0 f67 f65 f64 hz => ?_)
  show pc (RsummerLine_38 w0 (v 64 4)) _
  unfold RsummerLine_38
  refine LX_sea sm (by omega) (fun u1 q1 b1 e1 j1 hb1 hj1 sm1 frc1 g1 frr1 h65_1 => ?_) (fun _ _ hw => we_num hw (fun _ => we_num hw (fun _ => we_num hw (fun _ => w_suA hw))))
  try dsimp only
  refine LX_a sm1 (by omega) (fun u2 p2 b2 e2 x2 hb2 sm2 frc2 g2 frr2 hx2 nb2 => ?_) (fun _ _ hw => we_num hw (fun _ => we_num hw (fun _ => w_suA hw)))
  refine LX_a sm2 (by omega) (fun u3 p3 b3 e3 x3 hb3 sm3 frc3 g3 frr3 hx3 nb3 => ?_) (fun _ _ hw => we_num hw (fun _ => w_suA hw))
  refine LX_a sm3 (by omega) (fun u4 p4 b4 e4 x4 hb4 sm4 frc4 g4 frr4 hx4 nb4 => ?_) (fun _ _ hw => w_suA hw)
  have fin : ∀ w4 : SG, (∀ c, c ≠ 67 → w4 c = p4.2 c) → (p4.2 65 7 = 0 → ∃ n, n < 8 ∧ u4 52 0 = nI n ∧ u4 43 10 = nI (n + 1) ∧ (∀ j i, j < n → i < 4 → u4 53 (5 * j + i) = v 67 (1 + 4 * j + i)) ∧ w4 67 0 = nI (n + 1) ∧ (∀ i, 1 ≤ i → i < 1 + 4 * n → w4 67 i = v 67 i) ∧ ∀ i, i < 4 → w4 67 (1 + 4 * n + i) = u4 55 i) → pc (RsummerLine_142 w4 (v 64 4) (nI j1) p2.1 p3.1 p4.1) (fun w => LE (QL f L a (RWS 4 8)) (rlC 4 (nI 0) [59] u4 (0 + 1 + 1 + 1 + 1)) w) := by
    intro w4 q1 q2
    unfold RsummerLine_142
    refine end_l (by omega) (SM_67 sm4 q1) (fun z u5 w5 frc5 f55 frr5 => ?_)
    rw [q1 65 (by decide)] at z
    obtain ⟨n, hn, en, el, rows, g0, gi, gn⟩ := q2 z
    have et : tkeS u5 4 (nI 0) = adwS u5 (cl 5 (u5 55) 0) (nI 1) := by
      unfold tkeS tkeSW
      rw [if_neg (by decide), if_neg (by decide), if_neg (by decide), if_neg (by decide), if_pos rfl]; rfl
    rw [et]
    have e67 : w5 67 = w4 67 := frr5.1 67 (by decide) (by decide)
    have rr := row_add (c := 4) (N := 8) (n := n) (y := 1) (u2 := u5) (v := v) (w2 := w5) (x := cl 5 (u5 55) 0) (by decide) hn (by decide) (by decide) (by rw [frc5.1 52 (by decide) (by decide)]; exact en) (by rw [frc5.2 10 (by decide) (by decide) (by decide) (by decide) (by decide)]; exact el) (fun j i hj hi => by rw [frc5.1 53 (by decide) (by decide)]; exact rows j i hj hi) (by rw [e67]; exact g0) (fun i h1 h2 => by rw [e67]; exact gi i h1 h2) (fun q => absurd q (by decide)) (fun i hi => ?_)
    · exact ⟨fun j _ => rr.1 j, rr.2.1, rr.2.2⟩
    · rw [e67, f55, gn i hi]
      by_cases q : i = 0
      · subst q; rw [if_pos rfl]; exact (cl5 (k := 0) (by decide)).symm
      · rw [if_neg q, show 1 + i - 1 = i by omega, cl5 (by omega)]
  by_cases z : p4.2 65 7 = 0
  · obtain ⟨z4, v4⟩ := hx4 z
    obtain ⟨z3, v3⟩ := hx3 z4
    obtain ⟨z2, v2⟩ := hx2 z3
    have z1 := z2
    rw [h65_1] at z1
    obtain ⟨n, hn, en, el, r67, rows, _⟩ := rws_0 ct (by decide) f0 hz z1
    have k67 : p4.2 67 = v 67 := by rw [frr4.1 67 (by decide) (by decide), frr3.1 67 (by decide) (by decide), frr2.1 67 (by decide) (by decide), frr1.1 67 (by decide) (by decide), f67 67 (by decide) (by decide)]
    have k52 : u4 52 = rl0 u 4 52 := by rw [frc4.1 52 (by decide) (by decide), frc3.1 52 (by decide) (by decide), frc2.1 52 (by decide) (by decide), frc1.1 52 (by decide) (by decide)]
    have k53 : u4 53 = rl0 u 4 53 := by rw [frc4.1 53 (by decide) (by decide), frc3.1 53 (by decide) (by decide), frc2.1 53 (by decide) (by decide), frc1.1 53 (by decide) (by decide)]
    have k10 : u4 43 10 = rl0 u 4 43 10 := by rw [frc4.2 10 (by decide) (by decide) (by decide) (by decide) (by decide), frc3.2 10 (by decide) (by decide) (by decide) (by decide) (by decide), frc2.2 10 (by decide) (by decide) (by decide) (by decide) (by decide), frc1.2 10 (by decide) (by decide) (by decide) (by decide) (by decide)]
    have d0 : u4 55 0 = nI j1 := by rw [g4, upd_b (by decide), g3, upd_b (by decide), g2, upd_b (by decide), g1, upd_a]
    have d1 : u4 55 1 = p2.1 := by rw [g4, upd_b (by decide), g3, upd_b (by decide), g2, upd_a]; exact v2
    have d2 : u4 55 2 = p3.1 := by rw [g4, upd_b (by decide), g3, upd_a]; exact v3
    have d3 : u4 55 3 = p4.1 := by rw [g4, upd_a]; exact v4
    have d4 : u4 55 4 = -1 := by rw [g4, upd_b (by decide), g3, upd_b (by decide), g2, upd_b (by decide), g1, upd_b (by decide)]; exact f0.2.2.2 4 (by decide)
    have i0 : (1 : Int32) + 4 * nI n = nI (1 + 4 * n) := by rw [show (4 : Int32) * nI n = nI (4 * n) from nI_mulx 4 n]; exact nI_add 1 _
    refine pc_rdv (e := 0) rfl (by decide) (by decide) ?_
    rw [k67, r67, if_neg (show ¬ (8 : Int32) ≤ nI n from nI_ge (b := 8) (by omega) (by decide))]
    refine pc_rdv (e := 0) rfl (by decide) (by decide) ?_
    rw [k67, r67, i0]
    refine pc_wrv (e := 1 + 4 * n) rfl (by omega) (by decide) ?_
    refine pc_wrv (e := 1 + 4 * n + 1) (by rw [← nI_succ]) (by omega) (by decide) ?_
    refine pc_wrv (e := 1 + 4 * n + 2) (nI_add _ 2) (by omega) (by decide) ?_
    refine pc_wrv (e := 1 + 4 * n + 3) (nI_add _ 3) (by omega) (by decide) ?_
    refine pc_rdv (e := 0) rfl (by decide) (by decide) ?_
    refine pc_wrv (e := 0) rfl (by decide) (by decide) ?_
    rw [up_bn (by omega), up_bn (by omega), up_bn (by omega), up_bn (by omega), k67, r67, ← nI_succ]
    refine fin _ (fun c hc => by rw [up_n hc, up_n hc, up_n hc, up_n hc, up_n hc]) (fun _ => ⟨n, hn, by rw [k52]; exact en, by rw [k10]; exact el, fun j i hj hi => by rw [k53]; exact rows j i hj hi, up_a, fun i h1 h2 => ?_, fun i hi => ?_⟩)
    · rw [up_bn (by omega), up_bn (by omega), up_bn (by omega), up_bn (by omega), up_bn (by omega), k67]
    · rcases (by omega : i = 0 ∨ i = 1 ∨ i = 2 ∨ i = 3) with rfl | rfl | rfl | rfl
      · rw [up_bn (by omega), up_bn (by omega), up_bn (by omega), up_bn (by omega), d0]; exact up_a
      · rw [up_bn (by omega), up_bn (by omega), up_bn (by omega), up_a, d1]
      · rw [up_bn (by omega), up_bn (by omega), up_a, d2]
      · rw [up_bn (by omega), up_a, d3]
  · exact pc_rd (fun _ => pc_i (fun _ => fin _ (fun _ _ => rfl) (fun q => absurd q z)) (fun _ => pc_rd (fun _ => pc_wr (fun _ => pc_wr (fun _ => pc_wr (fun _ => pc_wr (fun _ => pc_rd (fun _ => pc_wr (fun _ => fin _ (fun c hc => by rw [up_n hc, up_n hc, up_n hc, up_n hc, up_n hc]) (fun q => absurd q z))))))))))
/-- shares so far; the lines are no more than the bytes -/
def BGS (u v : SG) : Prop := (∃ n p, u 43 10 = nI n ∧ u 43 8 = nI p ∧ n ≤ p ∧ p ≤ 600) ∧ ∀ m, m < 6 → u 53 (5 * m) = v 67 m
theorem SM_600 {f : Nat → Int32} {L a e : Nat} {u v : SG} (h : SM f L a e u v) : a ≤ 600 := by
  have := h.2.1.2.1
  have := h.2.2.2.1.2.2.2.2.1
  rcases h.2.2.2.1.2.2.2.2.2 with ⟨q, _⟩ | ⟨q, _⟩ <;> omega
theorem end_p {f : Nat → Int32} {L a a2 e2 y : Nat} {u3 w4 : SG} {so line : Int32} {R : SG → SG → Prop} (ha : a < a2) (sm : SM f L a2 e2 u3 w4) (hR : w4 65 7 = 0 → ∀ u4 w5 : SG, FRc u3 u4 → u4 55 = u3 55 → FRr w4 w5 → (∃ p, a2 < p ∧ p ≤ 600 ∧ u4 43 8 = nI p) → (∀ j, j ≠ 11 → tkeS u4 so line 43 j = u4 43 j) ∧ tkeS u4 so line 54 = u4 54 ∧ R (tkeS u4 so line) w5) : pc ((RendsLine w4).bind fun s1 => some s1) (fun w => LE (QL f L a R) (rlC so line [59] u3 y) w) := by
  refine LX_sem sm (fun u4 w5 a5 e5 ha5 sm5 frc5 f55 frr5 e655 => pc_s (fin_l (by omega) sm5 (fun z => ?_))) (fun w hw => pc_s hw)
  rw [e655] at z
  exact hR z u4 w5 frc5 f55 frr5 ⟨a5, ha5, SM_600 sm5, sm5.2.2.2.1.1⟩
theorem lin_5 {f : Nat → Int32} {L a e : Nat} {u v : SG} (h : SM f L a e u v) (ct : v 65 7 = 0 → BGS u v) : pc (RbargainLine v) (fun w => LE (QL f L a BGS) (rliP u 5) w) := by
  unfold RbargainLine
  refine pc_b (key_c (z := 5) (lo := 32) (hi := 32) h (by decide) (by decide +kernel) (by decide) (by decide) (by decide)) (fun p hp => ?_)
  rcases hp with ⟨c1, we⟩ | ⟨k, ae, hk, c1, ep, ky⟩
  · rw [rliP_n (so := 5) (show choI u (worZ 5) = -1 from c1)]
    exact pc_w (Q := fun w => WE u w) (we_num we (fun _ => we_num we (fun _ => pc_i (fun z => absurd z we.1) (fun _ => w_ba38 we)))) (fun w hw => LE_w hw)
  obtain rfl : k = 0 := by omega
  have c2 : choI u (worZ 5) = nI 0 := c1
  rw [rliP_c (so := 5) (by rw [c2]; decide), c2, show forms 5 (nI 0) = [109, 104, 59] by decide +kernel]
  obtain ⟨n1, n2, n3⟩ := cnt_f (u := u) (so := 5)
  have KK := ky _ (n2 6 (by decide) (by decide) (by decide)) (n2 9 (by decide) (by decide) (by decide)) (n1 54 (by decide))
  have e65 : p.2 65 = v 65 := KK.2.1 65 (by decide)
  have e67 : p.2 67 = v 67 := KK.2.1 67 (by decide)
  have a600 := SM_600 h
  obtain ⟨hcb, hr, h8, tk, hf⟩ := id h
  have lines : v 65 7 = 0 → ∃ n, u 43 10 = nI n ∧ n ≤ a ∧ u 43 10 + 1 ≤ mosI 5 := by
    intro z
    obtain ⟨⟨n, q, e10, e8, hn, hq⟩, _⟩ := ct z
    have e := tk.1
    rw [e8] at e
    have : q = a := nI_inj (by omega) (by omega) e
    subst this
    have hL := hr.2.1
    have hl := tk.2.2.2.2.1
    refine ⟨n, e10, hn, ?_⟩
    rw [e10, ← nI_succ, show mosI 5 = nI 600 by decide]
    exact nI_le2 (by omega) (by decide)
  obtain ⟨a2, e2, ha2, sm, g1, g2, g3, g4⟩ := sta_n h (cou_e (u := u) (so := 5) (line := choI u (worZ 5)) (Or.inl (by decide))).symm n1 n2 KK (fun b hb => lim_a hf hb (by rw [e65]) (by rw [e65]) (fun z => by obtain ⟨n, _, _, q⟩ := lines z; exact q))
  refine LX_m sm (by omega) (fun u1 p1 b1 e1 x1 hb1 sm1 frc1 k1 frr1 hx1 nb1 => ?_) (fun _ _ hw => we_num hw (fun _ => pc_i (fun z => absurd z hw.1) (fun _ => w_ba38 hw)))
  refine LX_h sm1 (by omega) (fun u3 p3 b3 e3 x3 hb3 sm3 frc3 k3 frr3 hx3 nb3 => ?_) (fun _ _ hw => pc_i (fun z => absurd z hw.1) (fun _ => w_ba38 hw))
  rw [if_pos sm3.2.2.1]
  obtain ⟨m, em, hm⟩ := nb1
  refine pc_wrv (e := m) em (by omega) (by decide) ?_
  unfold RbargainLine_38
  refine end_p (by omega) (SM_67 sm3 (fun c hc => up_n hc)) (fun z u4 w5 frc5 f55 frr5 pos => ?_)
  rw [up_n (by decide)] at z
  obtain ⟨z3, v3⟩ := hx3 z
  obtain ⟨z1, v1⟩ := hx1 z3
  rw [e65] at z1
  obtain ⟨n, e10, hn, _⟩ := lines z1
  obtain ⟨_, shares⟩ := ct z1
  have d0 : u4 55 0 = nI m := by rw [f55, k3, upd_b (by decide), k1, upd_a, v1, em]
  have d1 : u4 55 1 = p3.1 := by rw [f55, k3, upd_a, v3]
  have et : tkeS u4 5 (nI 0) = up u4 53 (5 * m) p3.1 := by
    unfold tkeS tkeSW
    rw [if_neg (by decide), if_neg (by decide), if_neg (by decide), if_neg (by decide), if_neg (by decide), if_pos rfl, show cl 5 (u4 55) 0 = u4 55 0 from cl5 (k := 0) (by decide), show cl 5 (u4 55) 1 = u4 55 1 from cl5 (k := 1) (by decide), d1]
    exact stw_e (i := 0) d0 (by omega) (by omega)
  rw [et]
  refine ⟨fun j _ => by rw [up_n (by decide)], up_n (by decide), ?_, fun i hi => ?_⟩
  · obtain ⟨q, q1, q2, q3⟩ := pos
    refine ⟨n + 1, q, ?_, by rw [up_n (by decide)]; exact q3, by omega, q2⟩
    rw [up_n (by decide), frc5.2 10 (by decide) (by decide) (by decide) (by decide) (by decide), frc3.2 10 (by decide) (by decide) (by decide) (by decide) (by decide), frc1.2 10 (by decide) (by decide) (by decide) (by decide) (by decide), g2, n3, e10, ← nI_succ]
  · rw [frr5.1 67 (by decide) (by decide)]
    by_cases q : i = m
    · subst q; rw [up_a, up_a]
    · rw [up_bn (by omega), up_bn q, frc5.1 53 (by decide) (by decide), frc3.1 53 (by decide) (by decide), frc1.1 53 (by decide) (by decide), g1 53 (by decide) (by decide), shares i hi, frr3.1 67 (by decide) (by decide), frr1.1 67 (by decide) (by decide), e67]
end XTM
end
section
section XTN
variable {sc : Nat × (Nat → Int32)} {d : Nat} {K : List KD} {r q t a B m : Nat} {w : EW}
/-! lines of republics, on both sides -/
/-- the greatest of told ministers, -1 without -/
def gr (T : Nat) : Int32 := if T = 0 then -1 else nI (Nat.log2 T)
theorem gr_or : ∀ T, T < 64 → ∀ m, m < 6 → (if nI m ≤ gr T then gr T else nI m) = gr (T ||| 2 ^ m) := by decide +kernel
theorem tl_or : ∀ T, T < 64 → ∀ m, m < 6 → (nI T ||| (1 <<< (nI m &&& 31))) = nI (T ||| 2 ^ m) ∧ T ||| 2 ^ m < 64 := by decide +kernel
theorem vt_or : ∀ V, V < 64 → ∀ m, m < 6 → ∀ i, i < 6 → (V ||| 2 ^ m).testBit i = (V.testBit i || i == m) := by decide +kernel
theorem or_0 (x : Int32) : x ||| 0 = x := Int32.or_zero
/-- a republic so far: n ministers, the vetoes V, those told of T -/
def RPA (n V T : Nat) (u v : SG) : Prop :=
  (n ≤ 6 ∧ V < 64 ∧ T < 64) ∧ (u 44 0 = nI n ∧ u 43 10 = nI n ∧ v 67 0 = nI n) ∧
  (∀ i, i < 5 → u 44 (9 + i) = v 67 (1 + i) ∧ NB (v 67 (1 + i)) 99) ∧ (∀ k, k < 3 → u 51 k = v 67 (6 + k) ∧ NB (v 67 (6 + k)) 5) ∧
  ((∀ m c, m < n → c < 4 → u (45 + c) m = v 67 (10 + 18 * m + c)) ∧ ∀ m c, m < 6 → c < 4 → NB (v 67 (10 + 18 * m + c)) 27) ∧
  (u 44 8 = nI V ∧ ∀ m, m < 6 → v 67 (14 + 18 * m) = if V.testBit m then 1 else 0) ∧
  (∀ m, m < 6 → u 50 m = v 67 (15 + 18 * m) ∧ NB (v 67 (15 + 18 * m)) 63) ∧ (∀ m i, m < 6 → i < 12 → u 49 (12 * m + i) = v 67 (16 + 18 * m + i) ∧ NB (v 67 (16 + 18 * m + i)) 9) ∧
  (u 43 11 = nI T ∧ v 64 9 = gr T)
def RPS (u v : SG) : Prop := ∃ n V T, RPA n V T u v
/-- off what is told the reference is as before -/
def FRm (v w : SG) : Prop := (∀ c, c ≠ 64 → c ≠ 65 → w c = v c) ∧ ∀ j, j ≠ 7 → j ≠ 8 → w 65 j = v 65 j
theorem also_id {v v1 : SG} {k x : Int32} (hk : ¬ k = 0) (h8 : v 64 8 = 0) (h : Ralso v k x = some v1) : Ralso v1 k x = some v1 := by
  have two : ∀ s : SG, s 64 8 = 0 → Ralso (up (up s 65 7 k) 65 8 x) k x = some (up (up s 65 7 k) 65 8 x) := by
    intro s hs
    unfold Ralso
    have e7 : up (up s 65 7 k) 65 8 x 65 7 = k := by rw [up_bn (by decide), up_a]
    rw [if_pos (by rw [up_n (by decide), up_n (by decide)]; exact hs), rd_nI (x := 7) (e := 7) rfl (by decide) (by decide)]
    show (if up (up s 65 7 k) 65 8 x 65 7 = 0 then _ else _) = _
    rw [if_neg (by rw [e7]; exact hk), rd_nI (x := 8) (e := 8) rfl (by decide) (by decide)]
    show (if up (up s 65 7 k) 65 8 x 65 8 < x then _ else _) = _
    by_cases c : up (up s 65 7 k) 65 8 x 65 8 < x
    · rw [if_pos c]
    · rw [if_neg c]
      show (if up (up s 65 7 k) 65 8 x 65 8 = x then _ else _) = _
      rw [if_pos up_a]
      show (if k < up (up s 65 7 k) 65 8 x 65 7 then _ else _) = _
      rw [e7, if_neg (Int32.lt_irrefl)]
  have e51 : Ralso_51 v k x = some (up (up v 65 7 k) 65 8 x) := by
    unfold Ralso_51
    rw [wr_nI (x := 7) (e := 7) rfl (by decide) (by decide)]
    show (wrI (up v 65 7 k) 65 5768 8 x).bind _ = _
    rw [wr_nI (x := 8) (e := 8) rfl (by decide) (by decide)]; rfl
  have h0 := h
  unfold Ralso at h
  rw [if_pos h8, rd_nI (x := 7) (e := 7) rfl (by decide) (by decide)] at h
  replace h : (if v 65 7 = 0 then Ralso_51 v k x else (rdI v 65 5768 8).bind fun g2 => if g2 < x then some v else (rdI v 65 5768 8).bind fun g3 => if g3 = x then ((rdI v 65 5768 7).bind fun g4 => if k < g4 then Ralso_51 v k x else some v) else Ralso_51 v k x) = some v1 := h
  rw [e51, rd_nI (x := 8) (e := 8) rfl (by decide) (by decide)] at h
  have done : v1 = v ∨ v1 = up (up v 65 7 k) 65 8 x := by
    split at h
    · cases h; exact Or.inr rfl
    · replace h : (if v 65 8 < x then some v else (if v 65 8 = x then ((rdI v 65 5768 7).bind fun g4 => if k < g4 then some (up (up v 65 7 k) 65 8 x) else some v) else some (up (up v 65 7 k) 65 8 x))) = some v1 := h
      split at h
      · cases h; exact Or.inl rfl
      · split at h
        · rw [rd_nI (x := 7) (e := 7) rfl (by decide) (by decide)] at h
          replace h : (if k < v 65 7 then some (up (up v 65 7 k) 65 8 x) else some v) = some v1 := h
          split at h
          · cases h; exact Or.inr rfl
          · cases h; exact Or.inl rfl
        · cases h; exact Or.inr rfl
  rcases done with rfl | rfl
  · exact h0
  · exact two v h8
section LXR
variable {f : Nat → Int32} {L a e part : Nat} {u v : SG} {so line : Int32} {l : List Int32} {Q : SG → SG → Prop}
/-- a minister told of, then the rest -/
theorem min_b {β : Type} {s : SG} {y : Int32} {k : Int32 × SG → Option β} : ((if y ≤ (s 64 9) then RministerTold_24 s y (s 64 9) else RministerTold_24 s y y).bind k) = k (y, up s 64 9 (if y ≤ s 64 9 then s 64 9 else y)) := by
  unfold RministerTold_24
  split <;> rfl
theorem LX_min {k : Int32 × SG → Option SG} (h : SM f L a e u v) (hp : part < 5)
    (g1 : ∀ (u2 w2 : SG) (a2 e2 m : Nat) (x : Int32), a < a2 → SM f L a2 e2 u2 w2 → FRc u u2 → u2 55 = upd (u 55) part x → FRm v w2 → w2 64 9 = (if nI m ≤ v 64 9 then v 64 9 else nI m) → (w2 65 7 = 0 → v 65 7 = 0 ∧ x = nI m) → m ≤ 5 → pc (k (nI m, w2)) (fun w => LE Q (rlC so line l u2 (part + 1)) w))
    (g2 : ∀ z w, WE u w → pc (k (z, w)) (fun w => WE u w)) : pc ((RministerTold v).bind k) (fun w => LE Q (rlC so line (109 :: l) u part) w) := by
  unfold RministerTold
  refine pc_as ?_
  refine LX_m h hp (fun u2 p a2 e2 x ha sm frc f55 frr hx nb => ?_) (fun z w hw => ?_)
  · obtain ⟨m, em, hm⟩ := nb
    show pc ((if p.1 ≤ (p.2 64 9) then RministerTold_24 p.2 p.1 (p.2 64 9) else RministerTold_24 p.2 p.1 p.1).bind k) _
    rw [min_b, em]
    refine g1 u2 _ a2 e2 m x ha (SM_g sm (fun _ _ => rfl) rfl (fun j hj => by rw [up_bn (by omega)]) (fun j _ => by rw [up_n (by decide)])) frc f55 ⟨fun c b1 b2 => by rw [up_n b1, frr.1 c b1 b2], fun j b1 b2 => by rw [up_n (by decide), frr.2.1 j b1 b2]⟩ (by rw [up_a, frr.2.2 9 (by omega)]) (fun q => ?_) hm
    rw [up_n (by decide)] at q
    rw [← em]; exact hx q
  · show pc ((if z ≤ (w 64 9) then RministerTold_24 w z (w 64 9) else RministerTold_24 w z z).bind k) _
    rw [min_b]
    exact g2 _ _ (we_649 hw)
/-- the second minister of a feud, then the rest -/
theorem LX_feu {y : Int32} {X : SG → Option SG} {k : Int32 × SG → Option SG} (h : SM f L a e u v) (hX : ∀ s, X s = (RministerTold s).bind k) (hy : v 65 7 = 0 → u 55 0 = y)
    (g1 : ∀ (u2 w2 : SG) (a2 e2 m : Nat) (x : Int32), a < a2 → SM f L a2 e2 u2 w2 → FRc u u2 → u2 55 = upd (u 55) 1 x → FRm v w2 → w2 64 9 = (if nI m ≤ v 64 9 then v 64 9 else nI m) → (w2 65 7 = 0 → v 65 7 = 0 ∧ x = nI m) → m ≤ 5 → pc (k (nI m, w2)) (fun w => LE Q (rlC so line l u2 (1 + 1)) w))
    (g2 : ∀ z w, WE u w → pc (k (z, w)) (fun w => WE u w)) : pc (if (v 64 8) = 0 then (if (v 64 5) = 1 then (if (v 64 6) = y then ((Ralso v 2 (v 64 4)).bind fun s2 => X s2) else X v) else X v) else X v) (fun w => LE Q (rlC so line (102 :: l) u 1) w) := by
  have h0 := h
  obtain ⟨hc, hr, h8, tk, hf⟩ := h
  have hL := hr.2.1
  have te := tk.2.2.2.2.1
  have e9 : en u = e := by unfold en; rw [tk.2.1, nI_clamp (by omega)]
  rw [if_pos h8]
  have tkn : (u 43 7 = 2 ∧ a < e ∧ v 64 5 = 1 ∧ numL u (e - a) a 0 = v 64 6 ∧ NB (v 64 6) 99) ∨ (¬ u 43 7 = 2 ∧ ¬ v 64 5 = 1) := by
    rcases tk.2.2.2.2.2 with ⟨_, _, k, k2⟩ | ⟨ae, ⟨k, ⟨k2, _⟩ | ⟨c, _, k2, _⟩⟩ | ⟨k, k2, k3, k4⟩ | ⟨k, k2⟩ | ⟨k, k2⟩⟩
    · exact Or.inr ⟨by rw [k]; decide, by rw [k2]; decide⟩
    · exact Or.inr ⟨by rw [k]; decide, by rw [k2]; decide⟩
    · exact Or.inr ⟨by rw [k]; decide, by rw [k2]; decide⟩
    · exact Or.inl ⟨k, ae, k2, k3, k4⟩
    · exact Or.inr ⟨by rw [k]; decide, by rw [k2]; decide⟩
    · exact Or.inr ⟨by rw [k]; decide, by rw [k2]; decide⟩
  have rp : rpaP u 102 (nI 1) = reaP u 102 (nI 1) := rpa_n (by decide) (by decide) (by decide)
  rcases tkn with ⟨k1, ae, k2, k3, k4⟩ | ⟨k1, k2⟩
  · rw [if_pos k2]
    have est : st u = a := by unfold st; rw [tk.1, nI_clamp (by omega)]
    have a600 : a ≤ 600 := by omega
    obtain ⟨x, ex⟩ : ∃ x, v 64 6 = x := ⟨_, rfl⟩
    -- the class's state
    have cl0 : cl 5 (u 55) 0 = u 55 0 := cl5 (k := 0) (by decide)
    obtain ⟨u1, eu1⟩ : ∃ u1, u1 = (if x = u 55 0 ∨ inI x 0 5 = 0 then notS u 2 (u 43 8) else u) := ⟨_, rfl⟩
    have rea : reaP u 102 (nI 1) = (1, advS (up u1 55 1 x)) := by
      unfold reaP
      rw [if_pos k1, e9, est, k3, ex]
      unfold rnuP
      rw [if_pos rfl, cl0, pt5 (by decide), pt5 (by decide), show leaO 102 = 0 by decide, show mosO 102 = 5 by decide, eu1]
      unfold inI
      by_cases c0 : x = u 55 0
      · rw [if_pos c0, if_pos (Or.inl c0)]
        split
        · rfl
        · split <;> rfl
      · rw [if_neg c0]
        by_cases c1 : x < 0
        · rw [if_pos c1, if_pos (Or.inr (by rw [if_pos c1]))]
        · by_cases c2 : 5 < x
          · rw [if_neg c1, if_pos c2, if_pos (Or.inr (by rw [if_neg c1, if_pos c2]))]
          · rw [if_neg c1, if_neg c2, if_neg]
            rintro (q | q)
            · exact c0 q
            · rw [if_neg c1, if_neg c2] at q; exact absurd q (by decide)
    have n1 := notS_n (s := u) (x := 2) (y := u 43 8)
    have u1c : ∀ c, c ≠ 43 → u1 c = u c := by
      intro c hc
      rw [eu1]; split
      · exact n1.1 c hc
      · rfl
    have u1j : ∀ j, j ≠ 2 → j ≠ 3 → u1 43 j = u 43 j := by
      intro j q1 q2
      rw [eu1]; split
      · exact n1.2 j q1 q2
      · rfl
    -- the reference behind its notes
    have step : ∀ v1 : SG, (∀ c, c ≠ 65 → v1 c = v c) → (∀ j, j ≠ 7 → j ≠ 8 → v1 65 j = v 65 j) → FL e u1 v1 → (v1 65 7 = 0 → v 65 7 = 0 ∧ ¬ inI x 0 5 = 0) → pc ((Rnumbered_44 v1 0 5 x).bind fun p1 => (if p1.1 ≤ (p1.2 64 9) then RministerTold_24 p1.2 p1.1 (p1.2 64 9) else RministerTold_24 p1.2 p1.1 p1.1).bind k) (fun w => LE Q (rlC so line (102 :: l) u 1) w) := by
      intro v1 q1 q2 q3 q4
      have cb : CB f L (up u1 55 1 x) := CB_of hc (by rw [up_n (by decide)]; exact u1j 6 (by decide) (by decide)) (by rw [up_n (by decide)]; exact u1j 9 (by decide) (by decide)) (by rw [up_n (by decide), u1c 54 (by decide)])
      have rt : RTt f L v1 := RTt_of hr (by rw [q1 64 (by decide)]) (fun j hj => q2 j (by omega) (by omega))
      have fl : FL e (up u1 55 1 x) v1 := FL_lo q3 (Nat.le_refl e) (by rw [up_n (by decide)]) (by rw [up_n (by decide)]) rfl rfl
      unfold Rnumbered_44
      refine pc_as (pc_b (pc_ok (SM_adv cb (by rw [up_n (by decide), u1j 9 (by decide) (by decide)]; exact tk.2.1) te rt (by rw [q1 64 (by decide)]; exact tk.2.2.2.1) (by rw [q1 64 (by decide)]; exact h8) fl)) (fun w1 hw1 => ?_))
      obtain ⟨⟨a2, e2, ha2, sm⟩, w1c, w1j⟩ := hw1
      obtain ⟨_, _, c3, c4⟩ := adv_c cb
      have frc : FRc u (advS (up u1 55 1 x)) := ⟨fun c b1 b2 => by rw [c3 c b1, up_n b2, u1c c b1], fun j b1 b2 b3 b4 b5 => by rw [c4 j b3 b4 b5, up_n (by decide), u1j j b1 b2]⟩
      have f55 : advS (up u1 55 1 x) 55 = upd (u 55) 1 x := by rw [c3 55 (by decide), up_s, u1c 55 (by decide)]
      have e94 : w1 64 9 = v 64 9 := by rw [w1j 9 (by omega), q1 64 (by decide)]
      have w7 : w1 65 7 = v1 65 7 := by rw [w1c 65 (by decide)]
      have go : ∀ m, m ≤ 5 → (w1 65 7 = 0 → x = nI m) → pc (k (nI m, up w1 64 9 (if nI m ≤ w1 64 9 then w1 64 9 else nI m))) (fun w => LE Q (rlC so line (102 :: l) u 1) w) := by
        intro m hm hx
        rw [rlC, rp, rea, if_neg (show ¬ ((1 : Int32), advS (up u1 55 1 x)).1 = 0 from (by decide : ¬ (1 : Int32) = 0))]
        refine g1 _ _ a2 e2 m x (by omega) (SM_g sm (fun _ _ => rfl) rfl (fun j hj => by rw [up_bn (by omega)]) (fun j _ => by rw [up_n (by decide)])) frc f55 ⟨fun c b1 b2 => by rw [up_n b1, w1c c b1, q1 c b2], fun j b1 b2 => by rw [up_n (by decide), w1c 65 (by decide), q2 j b1 b2]⟩ (by rw [up_a, e94]) (fun z => ?_) hm
        rw [up_n (by decide)] at z
        exact ⟨(q4 (by rw [← w7]; exact z)).1, hx z⟩
      show pc ((if (inI x 0 5) = 0 then some ((0 : Int32), w1) else some (x, w1)).bind fun p1 => (if p1.1 ≤ (p1.2 64 9) then RministerTold_24 p1.2 p1.1 (p1.2 64 9) else RministerTold_24 p1.2 p1.1 p1.1).bind k) _
      by_cases ci : inI x 0 5 = 0
      · rw [if_pos ci]
        show pc ((if (0 : Int32) ≤ (w1 64 9) then RministerTold_24 w1 0 (w1 64 9) else RministerTold_24 w1 0 0).bind k) _
        rw [min_b]
        exact go 0 (by omega) (fun z => absurd ci (q4 (by rw [← w7]; exact z)).2)
      · rw [if_neg ci]
        show pc ((if x ≤ (w1 64 9) then RministerTold_24 w1 x (w1 64 9) else RministerTold_24 w1 x x).bind k) _
        obtain ⟨m, em, hm⟩ := inI_nI (b := 5) (by decide) ci
        rw [min_b, em]
        exact go m hm (fun _ => em)
    have num : ∀ v1 : SG, v1 64 8 = 0 → v1 64 5 = 1 → v1 64 6 = x → X v1 = (if (inI x 0 5) = 0 then ((Ralso v1 2 (v1 64 4)).bind fun s1 => Rnumbered_44 s1 0 5 x) else Rnumbered_44 v1 0 5 x).bind fun p1 => (if p1.1 ≤ (p1.2 64 9) then RministerTold_24 p1.2 p1.1 (p1.2 64 9) else RministerTold_24 p1.2 p1.1 p1.1).bind k := by
      intro v1 r8 r5 r6
      rw [hX]
      unfold RministerTold Rnumbered
      rw [if_pos r8, if_pos r5, r6]
      cases (if (inI x 0 5) = 0 then ((Ralso v1 2 (v1 64 4)).bind fun s1 => Rnumbered_44 s1 0 5 x) else Rnumbered_44 v1 0 5 x) <;> rfl
    have fln := FL_note (b := e) (p := a) (u := u) (v := v) (Or.inl rfl) hf ae h8 a600
    obtain ⟨va, eva, fa, na, ca, ja⟩ := fln
    have e4 : v 64 4 = nI a := tk.2.2.1
    have n8 : u 43 8 = nI a := tk.1
    -- with a note on the reference's side
    have yes : (x = y ∨ inI x 0 5 = 0) → FL e u1 va := by
      intro q
      rw [eu1, n8]
      by_cases fz : v 65 7 = 0
      · rw [if_pos (q.imp_left (fun z => z.trans (hy fz).symm))]; exact fa
      · split
        · exact fa
        · have va_e : va = v ∨ True := Or.inr trivial
          have hf2 := hf
          rcases hf2 with ⟨_, z, _, _⟩ | ⟨kk, p, hk, f1, f2, f3, f4, f5⟩
          · exact absurd z fz
          · have : Ralso v 2 (nI a) = some v := by
              unfold Ralso
              rw [if_pos h8, rd_nI (x := 7) (e := 7) rfl (by decide) (by decide)]
              show (if v 65 7 = 0 then _ else _) = _
              rw [if_neg fz, rd_nI (x := 8) (e := 8) rfl (by decide) (by decide)]
              show (if v 65 8 < nI a then _ else _) = _
              rw [if_pos (by rw [f4]; exact nI_lt2 f5 (by omega))]
            rw [this] at eva; cases eva
            exact FL_lo hf (by omega) rfl rfl rfl rfl
    have no : ¬ (x = y ∨ inI x 0 5 = 0) → FL e u1 v := by
      intro q
      rw [eu1, n8]
      by_cases fz : v 65 7 = 0
      · rw [if_neg (fun z => q (z.imp_left (fun z => z.trans (hy fz))))]; exact FL_lo hf (by omega) rfl rfl rfl rfl
      · have c2 : ¬ u 43 2 = 0 := fun z => fz ((FL_0 hf).1 z)
        refine FL_lo hf (by omega) ?_ ?_ rfl rfl
        · split
          · unfold notS; rw [if_neg c2, if_neg (by decide)]
          · rfl
        · split
          · unfold notS; rw [if_neg c2, if_neg (by decide)]
          · rfl
    have va8 : va 64 8 = 0 := by rw [ca 64 (by decide)]; exact h8
    have vaX : X va = (if (inI x 0 5) = 0 then ((Ralso va 2 (va 64 4)).bind fun s1 => Rnumbered_44 s1 0 5 x) else Rnumbered_44 va 0 5 x).bind _ := num va va8 (by rw [ca 64 (by decide)]; exact k2) (by rw [ca 64 (by decide)]; exact ex)
    rw [ex]
    by_cases c0 : x = y
    · rw [if_pos c0, e4, eva]
      show pc (X va) _
      rw [vaX, show va 64 4 = nI a by rw [ca 64 (by decide)]; exact e4, also_id (by decide) h8 eva]
      have same : (if (inI x 0 5) = 0 then ((some va).bind fun s1 => Rnumbered_44 s1 0 5 x) else Rnumbered_44 va 0 5 x) = Rnumbered_44 va 0 5 x := by split <;> rfl
      rw [same]
      exact step va ca ja (yes (Or.inl c0)) (fun z => absurd z na)
    · rw [if_neg c0, num v h8 k2 ex]
      by_cases ci : inI x 0 5 = 0
      · rw [if_pos ci, e4, eva]
        exact step va ca ja (yes (Or.inr ci)) (fun z => absurd z na)
      · rw [if_neg ci]
        exact step v (fun _ _ => rfl) (fun _ _ _ => rfl) (no (fun q => q.elim c0 ci)) (fun z => ⟨z, ci⟩)
  · rw [if_neg k2, hX]
    unfold RministerTold
    refine pc_as (pc_b (pc_ok (num_no (part := 1) (hi := 5) h0 k2)) (fun p hno => ?_))
    have rea : reaP u 102 (nI 1) = (0, u) := by unfold reaP; rw [if_neg k1]
    rw [rlC, rp, rea, if_pos (show ((0 : Int32), u).1 = 0 from rfl)]
    rcases hno with ⟨r1, _⟩ | ⟨_, _, wr⟩
    · exact absurd r1 (by decide : ¬ (0 : Int32) = 1)
    · rw [min_b]
      exact pc_w (g2 _ _ (we_649 (WE_of wr))) (fun w hw => LE_w hw)
end LXR
end XTN
end
