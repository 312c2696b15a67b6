section XTL
variable {sc : Nat × (Nat → Int32)} {d : Nat} {K : List KD} {r q t a B m : Nat} {w : EW}
/-! lines of orders; years and orders, line by line -/
theorem pc_as {α β γ : Type} {o : Option α} {f : α → Option β} {g : β → Option γ} {P : γ → Prop} (h : pc (o.bind fun x => (f x).bind g) P) : pc ((o.bind f).bind g) P := by
  cases o with
  | none => exact h
  | some a => exact h
theorem pc_ib {β γ : Type} {c : Prop} [Decidable c] {x y : Option β} {g : β → Option γ} {P : γ → Prop} (h : pc (if c then x.bind g else y.bind g) P) : pc ((if c then x else y).bind g) P := by
  by_cases e : c
  · rw [if_pos e] at h ⊢; exact h
  · rw [if_neg e] at h ⊢; exact h
/-- 'in' and a season, or nothing, then the rest -/
theorem LX_in {f : Nat → Int32} {L a e part : Nat} {u v : SG} {so line : Int32} {l : List Int32} {Q : SG → SG → Prop} {A B : Option SG} {k : Int32 × SG → Option SG} (h : SM f L a e u v) (hp : part < 5) (hA : A = (Radvance v).bind fun s4 => (RseasonTold s4).bind k) (hB : B = k (-1, v))
    (g1 : ∀ (u2 w2 : SG) (a2 e2 : Nat) (x : Int32), a ≤ a2 → SM f L a2 e2 u2 w2 → FRc u u2 → (u2 55 = upd (u 55) part x ∨ (x = -1 ∧ u2 55 = u 55)) → FRr v w2 → w2 65 = v 65 → pc (k (x, w2)) (fun w => LE Q (rlC so line l u2 (part + 1)) w))
    (g2 : ∀ z w, WE u w → pc (k (z, w)) (fun w => WE u w)) (g3 : ∀ u2 z w, WE u2 w → pc (k (z, w)) (fun w => WE u2 w)) : pc (if (v 64 8) = 0 then (if (v 64 5) = 3 then (if (v 64 7) = 21 then A else B) else B) else B) (fun w => LE Q (rlC so line (105 :: l) u part) w) := by
  have h8 := h.2.2.1
  have t13 : ∀ c, c < 32 → tb 13 c = if c = 20 then 0 else -1 := by decide +kernel
  rw [if_pos h8]
  have rp : rpaP u 105 (nI part) = if choI u 13 = -1 then (1, u) else if choI (advS u) 15 = -1 then (0, advS u) else (1, advS (pt 5 (advS u) 55 (nI part) (choI (advS u) 15))) := by
    unfold rpaP
    rw [if_neg (by decide), if_pos rfl, show choZ 105 = 15 from by decide, if_pos (show isEI 15 = 0 by decide)]
  have no : choI u 13 = -1 → pc B (fun w => LE Q (rlC so line (105 :: l) u part) w) := by
    intro c
    rw [rlC, rp, if_pos c, if_neg (show ¬ ((1 : Int32), u).1 = 0 from (by decide : ¬ (1 : Int32) = 0)), hB]
    exact g1 u v a e (-1) (Nat.le_refl a) h FRc_rfl (Or.inr ⟨rfl, rfl⟩) FRr_rfl rfl
  rcases TK_c h with ⟨n5, hz⟩ | ⟨c, hc, ae, h5, h7, hz⟩
  · rw [if_neg n5]; exact no (hz 13 (by decide))
  · have tz := hz 13 (by decide)
    rw [t13 c hc] at tz
    rw [if_pos h5]
    by_cases c20 : c = 20
    · subst c20
      rw [if_pos rfl] at tz
      rw [if_pos (show v 64 7 = 21 from h7), hA]
      obtain ⟨hcb, hr, _, tk, hf⟩ := h
      have fl : FL e u v := FL_lo hf (by omega) rfl rfl rfl rfl
      refine pc_b (pc_ok (SM_adv hcb tk.2.1 tk.2.2.2.2.1 hr tk.2.2.2.1 h8 fl)) (fun w1 hw1 => ?_)
      obtain ⟨⟨a2, e2, ha2, sm⟩, k1, k2⟩ := hw1
      obtain ⟨_, _, c3, c4⟩ := adv_c hcb
      have frc : FRc u (advS u) := ⟨fun c b1 b2 => c3 c b1, fun j b1 b2 b3 b4 b5 => c4 j b3 b4 b5⟩
      have frr : FRr v w1 := ⟨fun c b1 b2 => k1 c b1, fun j b1 b2 => by rw [k1 65 (by decide)], k2⟩
      have r2 : (rlC so line (105 :: l) u part) = (rlC so line (115 :: l) (advS u) part) := by
        rw [rlC, rlC, rp, rpa_e, if_neg (show ¬ choI u 13 = -1 by rw [tz]; decide)]; rfl
      rw [r2]
      refine LX_sea sm hp (fun u3 w3 a3 e3 j ha3 hj sm3 frc3 f553 frr3 e653 => ?_) (fun z w hw => g3 _ z w hw)
      exact g1 u3 w3 a3 e3 (nI j) (by omega) sm3 (FRc_tr frc frc3) (Or.inl (by rw [f553, c3 55 (by decide)])) (FRr_tr frr frr3) (by rw [e653, k1 65 (by decide)])
    · rw [if_neg c20] at tz
      rw [if_neg (fun q => c20 (by have := nI_inj (a := c + 1) (b := 21) (by omega) (by decide) (h7.symm.trans q); omega))]
      exact no tz
theorem or_sum {f : Nat → Int32} {L a a2 e2 : Nat} {u v u0 w0 : SG} {y1 : Int32} (ct : v 65 7 = 0 → RWS 5 8 u v) (ha2 : a < a2) (sm : SM f L a2 e2 u0 w0) (f0 : RL0 u u0) (f67 : w0 67 = v 67) (hz : w0 65 7 = 0 → v 65 7 = 0 ∧ ∃ n, n < 8 ∧ u 43 10 = nI n ∧ v 67 0 = nI n) : pc (RorderLine_58 w0 y1 22) (fun w => LE (QL f L a (RWS 5 8)) (rlC 1 (nI 1) [116, 59] u0 0) w) := by
  unfold RorderLine_58
  rw [if_neg (by decide)]
  unfold RorderLine_68
  rw [if_pos rfl]
  have ev : ∀ s : SG, RorderLine_91 s y1 22 = (RendsLine s).bind fun s1 => some s1 := by
    intro s
    unfold RorderLine_91 RorderLine_140
    rw [if_neg (by decide)]
  simp only [ev]
  refine LX_t sm (by omega) (fun u1 p1 b1 e1 x1 hb1 sm1 frc1 g1 frr1 hx1 nb1 => ?_) (fun _ _ hw => we_add hw (fun _ h2 => we_sem h2 (pc_s h2)))
  refine add_l (N := 8) (by omega) sm1 (by decide) ⟨⟨2, rfl, by decide⟩, fun h => absurd h (by decide)⟩ (fun z => ?_)
  obtain ⟨z1, v1⟩ := hx1 z
  obtain ⟨n, hn, en, el, r67, rows, bds⟩ := rws_0 ct (by decide) f0 hz z1
  have k67 : p1.2 67 = v 67 := by rw [frr1.1 67 (by decide) (by decide), f67]
  have k52 : u1 52 = u0 52 := by rw [frc1.1 52 (by decide) (by decide)]
  have k53 : u1 53 = u0 53 := by rw [frc1.1 53 (by decide) (by decide)]
  have k10 : u1 43 10 = u0 43 10 := by rw [frc1.2 10 (by decide) (by decide) (by decide) (by decide) (by decide)]
  have d0 : u1 55 0 = p1.1 := by rw [g1, upd_a]; exact v1
  have d1 : u1 55 1 = -1 := by rw [g1, upd_b (by decide)]; exact f0.2.2.2 1 (by decide)
  have d2 : u1 55 2 = -1 := by rw [g1, upd_b (by decide)]; exact f0.2.2.2 2 (by decide)
  have d3 : u1 55 3 = -1 := by rw [g1, upd_b (by decide)]; exact f0.2.2.2 3 (by decide)
  have d4 : u1 55 4 = -1 := by rw [g1, upd_b (by decide)]; exact f0.2.2.2 4 (by decide)
  refine ⟨⟨n, hn, by rw [k52]; exact en, by rw [k10]; exact el, by rw [k67]; exact r67, fun j i hj hi => by rw [k53, k67]; exact rows j i hj hi, fun j hj => ROK_g (bds rfl j hj) (fun i _ => by show _ = _; rw [k67])⟩, fun u4 e55 => ?_⟩
  have e : tkeS u4 1 (nI 1) = adwS u4 (nI 2) (nI 0) := by
    unfold tkeS tkeSW tkoS
    rw [if_neg (by decide), if_pos rfl, if_neg (by decide), if_pos (show nI 1 = 1 from rfl)]; rfl
  refine ⟨u4, 0, by decide, e, fun _ _ => rfl, ?_, ?_, ?_, ?_⟩
  · rw [e55]; exact d0.symm
  · rw [e55]; exact d1.symm
  · rw [e55]; exact d2.symm
  · rw [e55, show 0 + 3 = 3 from rfl, cl5 (by decide)]; exact d3.symm
theorem or_after {f : Nat → Int32} {L a a2 e2 : Nat} {u v u0 w0 : SG} {y1 : Int32} (ct : v 65 7 = 0 → RWS 5 8 u v) (ha2 : a < a2) (sm : SM f L a2 e2 u0 w0) (f0 : RL0 u u0) (f67 : w0 67 = v 67) (hz : w0 65 7 = 0 → v 65 7 = 0 ∧ ∃ n, n < 8 ∧ u 43 10 = nI n ∧ v 67 0 = nI n) : pc (RorderLine_58 w0 y1 23) (fun w => LE (QL f L a (RWS 5 8)) (rlC 1 (nI 2) [107, 97, 107, 97, 59] u0 0) w) := by
  unfold RorderLine_58
  rw [if_neg (by decide)]
  unfold RorderLine_68
  rw [if_neg (by decide)]
  unfold RorderLine_91 RorderLine_140
  rw [if_pos rfl]
  refine LX_kin sm (by omega) (fun u1 q1 b1 e1 j1 hb1 hj1 sm1 frc1 g1 frr1 h65_1 => ?_) (fun _ _ hw => we_num hw (fun _ => we_kin hw (fun _ => we_num hw (fun _ => we_add hw (fun _ h2 => we_sem h2 (pc_s h2))))))
  try dsimp only
  refine LX_a sm1 (by omega) (fun u2 p2 b2 e2 x2 hb2 sm2 frc2 g2 frr2 hx2 nb2 => ?_) (fun _ _ hw => we_kin hw (fun _ => we_num hw (fun _ => we_add hw (fun _ h2 => we_sem h2 (pc_s h2)))))
  refine LX_kin sm2 (by omega) (fun u3 q3 b3 e3 j3 hb3 hj3 sm3 frc3 g3 frr3 h65_3 => ?_) (fun _ _ hw => we_num hw (fun _ => we_add hw (fun _ h2 => we_sem h2 (pc_s h2))))
  try dsimp only
  refine LX_a sm3 (by omega) (fun u4 p4 b4 e4 x4 hb4 sm4 frc4 g4 frr4 hx4 nb4 => ?_) (fun _ _ hw => we_add hw (fun _ h2 => we_sem h2 (pc_s h2)))
  refine add_l (N := 8) (by omega) sm4 (by decide) ⟨⟨3, rfl, by decide⟩, fun h => absurd h (by decide)⟩ (fun z => ?_)
  obtain ⟨z4, v4⟩ := hx4 z
  have z3 := z4
  rw [h65_3] at z3
  obtain ⟨z2, v2⟩ := hx2 z3
  have z1 := z2
  rw [h65_1] at z1
  obtain ⟨n, hn, en, el, r67, rows, bds⟩ := rws_0 ct (by decide) f0 hz z1
  have k67 : p4.2 67 = v 67 := by rw [frr4.1 67 (by decide) (by decide), frr3.1 67 (by decide) (by decide), frr2.1 67 (by decide) (by decide), frr1.1 67 (by decide) (by decide), f67]
  have k52 : u4 52 = u0 52 := by rw [frc4.1 52 (by decide) (by decide), frc3.1 52 (by decide) (by decide), frc2.1 52 (by decide) (by decide), frc1.1 52 (by decide) (by decide)]
  have k53 : u4 53 = u0 53 := by rw [frc4.1 53 (by decide) (by decide), frc3.1 53 (by decide) (by decide), frc2.1 53 (by decide) (by decide), frc1.1 53 (by decide) (by decide)]
  have k10 : u4 43 10 = u0 43 10 := by rw [frc4.2 10 (by decide) (by decide) (by decide) (by decide) (by decide), frc3.2 10 (by decide) (by decide) (by decide) (by decide) (by decide), frc2.2 10 (by decide) (by decide) (by decide) (by decide) (by decide), frc1.2 10 (by decide) (by decide) (by decide) (by decide) (by decide)]
  have d0 : u4 55 0 = nI j1 := by rw [g4, upd_b (by decide), g3, upd_b (by decide), g2, upd_b (by decide), g1, upd_a]
  have d1 : u4 55 1 = p2.1 := by rw [g4, upd_b (by decide), g3, upd_b (by decide), g2, upd_a]; exact v2
  have d2 : u4 55 2 = nI j3 := by rw [g4, upd_b (by decide), g3, upd_a]
  have d3 : u4 55 3 = p4.1 := by rw [g4, upd_a]; exact v4
  have d4 : u4 55 4 = -1 := by rw [g4, upd_b (by decide), g3, upd_b (by decide), g2, upd_b (by decide), g1, upd_b (by decide)]; exact f0.2.2.2 4 (by decide)
  refine ⟨⟨n, hn, by rw [k52]; exact en, by rw [k10]; exact el, by rw [k67]; exact r67, fun j i hj hi => by rw [k53, k67]; exact rows j i hj hi, fun j hj => ROK_g (bds rfl j hj) (fun i _ => by show _ = _; rw [k67])⟩, fun u4 e55 => ?_⟩
  have e : tkeS u4 1 (nI 2) = adwS u4 (nI 3) (nI 0) := by
    unfold tkeS tkeSW tkoS
    rw [if_neg (by decide), if_pos rfl, if_neg (by decide), if_neg (by decide)]; rfl
  refine ⟨u4, 0, by decide, e, fun _ _ => rfl, ?_, ?_, ?_, ?_⟩
  · rw [e55]; exact d0.symm
  · rw [e55]; exact d1.symm
  · rw [e55]; exact d2.symm
  · rw [e55, show 0 + 3 = 3 from rfl, cl5 (by decide)]; exact d3.symm
theorem or_no {f : Nat → Int32} {L a a2 e2 : Nat} {u v u0 w0 : SG} {y1 : Int32} (ct : v 65 7 = 0 → RWS 5 8 u v) (ha2 : a < a2) (sm : SM f L a2 e2 u0 w0) (f0 : RL0 u u0) (f67 : w0 67 = v 67) (hz : w0 65 7 = 0 → v 65 7 = 0 ∧ ∃ n, n < 8 ∧ u 43 10 = nI n ∧ v 67 0 = nI n) : pc (RorderLine_58 w0 y1 18) (fun w => LE (QL f L a (RWS 5 8)) (rlC 1 (nI 0) [107, 98, 97, 105, 59] u0 0) w) := by
  unfold RorderLine_58
  rw [if_pos rfl]
  have ev : ∀ s : SG, RorderLine_68 s y1 18 = (RendsLine s).bind fun s1 => some s1 := by
    intro s
    unfold RorderLine_68 RorderLine_91 RorderLine_140
    rw [if_neg (by decide), if_neg (by decide)]
  simp only [ev]
  unfold RnoLine
  have w62 : ∀ {u2 w2 : SG} (a b c d : Int32), WE u2 w2 → pc ((RnoLine_62 w2 a b c d).bind fun s => (RendsLine s).bind fun s1 => some s1) (fun w => WE u2 w) := by
    intro u2 w2 a b c d hw
    unfold RnoLine_62
    exact pc_as (we_add hw (fun _ h2 => we_sem h2 (pc_s h2)))
  have wif : ∀ {u2 w2 : SG} {A B : Option SG}, WE u2 w2 → pc (B.bind fun s => (RendsLine s).bind fun s1 => some s1) (fun w => WE u2 w) → pc ((if (w2 64 8) = 0 then A else B).bind fun s => (RendsLine s).bind fun s1 => some s1) (fun w => WE u2 w) := by
    intro u2 w2 A B hw hB
    rw [if_neg hw.1]; exact hB
  refine pc_as ?_
  refine LX_kin sm (by omega) (fun u1 q1 b1 e1 j1 hb1 hj1 sm1 frc1 g1 frr1 h65_1 => ?_) (fun _ _ hw => pc_as (we_tak hw (fun _ => pc_as (we_num hw (fun _ => wif hw (w62 _ _ _ _ hw))))))
  try dsimp only
  refine pc_as ?_
  refine LX_wor (z := 16) (lo := 19) (hi := 20) sm1 (by omega) (by decide) (by decide +kernel) (by decide) (by decide) (by decide) (fun s => rpa_b) (fun u2 q2 b2 e2 j2 hb2 hj2 sm2 frc2 g2 frr2 h65_2 => ?_) (fun _ _ hw => pc_as (we_num hw (fun _ => wif hw (w62 _ _ _ _ hw))))
  try dsimp only
  refine pc_as ?_
  refine LX_a sm2 (by omega) (fun u3 p3 b3 e3 x3 hb3 sm3 frc3 g3 frr3 hx3 nb3 => ?_) (fun _ _ hw => wif hw (w62 _ _ _ _ hw))
  have ej : nI (19 + j2) - 19 = nI j2 := nI_subl (a := 19) (c := j2)
  show pc ((if (p3.2 64 8) = 0 then (if (p3.2 64 5) = 3 then (if (p3.2 64 7) = 21 then ((Radvance p3.2).bind fun s4 => (RseasonTold s4).bind fun p5 => RnoLine_62 p5.2 (nI j1) (nI (19 + j2) - 19) p3.1 p5.1) else RnoLine_62 p3.2 (nI j1) (nI (19 + j2) - 19) p3.1 (-1)) else RnoLine_62 p3.2 (nI j1) (nI (19 + j2) - 19) p3.1 (-1)) else RnoLine_62 p3.2 (nI j1) (nI (19 + j2) - 19) p3.1 (-1)).bind fun s => (RendsLine s).bind fun s1 => some s1) _
  rw [ej]
  have sh : ∀ (c1 c2 c3 : Prop) [Decidable c1] [Decidable c2] [Decidable c3] (A B : Option SG) (g : SG → Option SG), (if c1 then (if c2 then (if c3 then A else B) else B) else B).bind g = (if c1 then (if c2 then (if c3 then A.bind g else B.bind g) else B.bind g) else B.bind g) := by
    intro c1 c2 c3 _ _ _ A B g
    by_cases k1 : c1 <;> by_cases k2 : c2 <;> by_cases k3 : c3 <;> simp only [if_pos, if_neg, k1, k2, k3, if_true, if_false, not_false_eq_true]
  rw [sh]
  refine LX_in (k := fun p5 => (RnoLine_62 p5.2 (nI j1) (nI j2) p3.1 p5.1).bind fun s => (RendsLine s).bind fun s1 => some s1) sm3 (by omega) (by cases Radvance p3.2 with | none => rfl | some s4 => (simp only [Option.bind_some]; cases RseasonTold s4 <;> rfl)) rfl (fun u4 w4 b4 e4 x4 hb4 sm4 frc4 g4 frr4 h65_4 => ?_) (fun _ _ hw => w62 _ _ _ _ hw) (fun _ _ _ hw => w62 _ _ _ _ hw)
  show pc ((RnoLine_62 w4 (nI j1) (nI j2) p3.1 x4).bind fun s => (RendsLine s).bind fun s1 => some s1) _
  unfold RnoLine_62
  refine pc_as ?_
  show pc ((Radds w4 (nI 8) (nI j2) (nI j1) p3.1 x4 (-1)).bind fun s => (RendsLine s).bind fun s1 => some s1) _
  refine add_l (N := 8) (by omega) sm4 (by decide) ⟨⟨j2, rfl, by show j2 ≤ 3; omega⟩, fun h => absurd h (by decide)⟩ (fun z => ?_)
  rw [h65_4] at z
  obtain ⟨z3, v3⟩ := hx3 z
  have z2 := z3
  rw [h65_2] at z2
  have z1 := z2
  rw [h65_1] at z1
  obtain ⟨n, hn, en, el, r67, rows, bds⟩ := rws_0 ct (by decide) f0 hz z1
  have k67 : w4 67 = v 67 := by rw [frr4.1 67 (by decide) (by decide), frr3.1 67 (by decide) (by decide), frr2.1 67 (by decide) (by decide), frr1.1 67 (by decide) (by decide), f67]
  have k52 : u4 52 = u0 52 := by rw [frc4.1 52 (by decide) (by decide), frc3.1 52 (by decide) (by decide), frc2.1 52 (by decide) (by decide), frc1.1 52 (by decide) (by decide)]
  have k53 : u4 53 = u0 53 := by rw [frc4.1 53 (by decide) (by decide), frc3.1 53 (by decide) (by decide), frc2.1 53 (by decide) (by decide), frc1.1 53 (by decide) (by decide)]
  have k10 : u4 43 10 = u0 43 10 := by rw [frc4.2 10 (by decide) (by decide) (by decide) (by decide) (by decide), frc3.2 10 (by decide) (by decide) (by decide) (by decide) (by decide), frc2.2 10 (by decide) (by decide) (by decide) (by decide) (by decide), frc1.2 10 (by decide) (by decide) (by decide) (by decide) (by decide)]
  have i0 : u3 55 0 = nI j1 := by rw [g3, upd_b (by decide), g2, upd_b (by decide), g1, upd_a]
  have i1 : u3 55 1 = nI j2 := by rw [g3, upd_b (by decide), g2, upd_a]
  have i2 : u3 55 2 = p3.1 := by rw [g3, upd_a]; exact v3
  have i3 : u3 55 3 = -1 := by rw [g3, upd_b (by decide), g2, upd_b (by decide), g1, upd_b (by decide)]; exact f0.2.2.2 3 (by decide)
  have i4 : u3 55 4 = -1 := by rw [g3, upd_b (by decide), g2, upd_b (by decide), g1, upd_b (by decide)]; exact f0.2.2.2 4 (by decide)
  have o4 : ∀ i, i ≠ 3 → u4 55 i = u3 55 i := by
    intro i hi
    rcases g4 with g4 | ⟨_, g4⟩
    · rw [g4]; exact upd_b hi
    · rw [g4]
  have d3 : u4 55 3 = x4 := by
    rcases g4 with g4 | ⟨q, g4⟩
    · rw [g4]; exact upd_a
    · rw [g4, i3, q]
  refine ⟨⟨n, hn, by rw [k52]; exact en, by rw [k10]; exact el, by rw [k67]; exact r67, fun j i hj hi => by rw [k53, k67]; exact rows j i hj hi, fun j hj => ROK_g (bds rfl j hj) (fun i _ => by show _ = _; rw [k67])⟩, fun u5 e55 => ?_⟩
  have t0 : pt 5 u5 55 1 (cl 5 (u5 55) 0) = up u5 55 1 (nI j1) := by
    rw [show (1 : Int32) = nI 1 from rfl, pt5 (by decide), show cl 5 (u5 55) 0 = u5 55 0 from cl5 (k := 0) (by decide), e55, o4 0 (by decide), i0]
  have e : tkeS u5 1 (nI 0) = adwS (up u5 55 1 (nI j1)) (nI j2) (nI 1) := by
    unfold tkeS tkeSW tkoS
    rw [if_neg (by decide), if_pos rfl, if_pos (show nI 0 = 0 from rfl), t0, show cl 5 (u5 55) 1 = u5 55 1 from cl5 (k := 1) (by decide), e55, o4 1 (by decide), i1]
    rcases (by omega : j2 = 0 ∨ j2 = 1) with rfl | rfl
    · rw [if_pos (show nI 0 = 0 from rfl)]; rfl
    · rw [if_neg (by decide)]; rfl
  refine ⟨up u5 55 1 (nI j1), 1, by decide, e, fun c hc => up_n hc, ?_, ?_, ?_, ?_⟩
  · rw [up_a]
  · rw [up_bn (by decide), e55, o4 2 (by decide), i2]
  · rw [up_bn (by decide), e55, d3]
  · rw [show 1 + 3 = 4 from rfl, cl5 (by decide), up_bn (by decide), e55, o4 4 (by decide), i4]
theorem ln_2 {f : Nat → Int32} {L a e k code : Nat} {u v : SG} {x y : Int32} {fm : List Int32} (h : SM f L a e u v) (ct : v 65 7 = 0 → RWS 5 40 u v) (ae : a < e) (h5 : v 64 5 = 3) (h7 : v 64 7 = nI code) (c2 : choI u 2 = nI k) (hk : k ≤ 10) (hf : forms 2 (nI k) = fm) (hi : ¬ inI (nI code) x y = 0)
    (go : ∀ (w0 : SG) (a2 e2 : Nat), a < a2 → SM f L a2 e2 (rl0 u 2) w0 → RL0 u (rl0 u 2) → w0 67 = v 67 → (w0 65 7 = 0 → v 65 7 = 0 ∧ ∃ n, n < 40 ∧ u 43 10 = nI n ∧ v 67 0 = nI n) → pc (RyearLine_55 w0 (v 64 4) (nI code)) (fun w => LE (QL f L a (RWS 5 40)) (rlC 2 (nI k) fm (rl0 u 2) 0) w)) : pc ((Rtakes v x y).bind fun p1 => RyearLine_30 p1.2 (v 64 4) p1.1) (fun w => LE (QL f L a (RWS 5 40)) (rliP u 2) w) := by
  have c3 : choI u (worZ 2) = nI k := c2
  obtain ⟨n1, n2, n3⟩ := cnt_f (u := u) (so := 2)
  refine pc_b (pc_ok (tak_y (u1 := cntS u 2) h ae h5 (by rw [h7]; exact hi) (n2 6 (by decide) (by decide) (by decide)) (n2 9 (by decide) (by decide) (by decide)) (n1 54 (by decide)))) (fun p hp => ?_)
  rw [rliP_c (so := 2) (by rw [c3]; exact nI_n1 (by omega)), c3, hf, hp.1, h7]
  unfold RyearLine_30
  exact sta_l (so := 2) (M := 40) (X := fun w => RyearLine_55 w (v 64 4) (nI code)) h (by decide) (by decide) (cou_e (Or.inl (by decide))) hp.2 (fun z => by obtain ⟨n, hn, _, q1, q2, _⟩ := ct z; exact ⟨n, hn, q1, q2⟩) (fun w0 a2 e2 ha2 sm f0 f67 f65 f64 hz => go w0 a2 e2 ha2 sm f0 (f67 67 (by decide) (by decide)) hz)
theorem lin_2 {f : Nat → Int32} {L a e : Nat} {u v : SG} (h : SM f L a e u v) (ct : v 65 7 = 0 → RWS 5 40 u v) : pc (RyearLine v) (fun w => LE (QL f L a (RWS 5 40)) (rliP u 2) w) := by
  have t2 : ∀ c, c < 32 → tb 2 c = if c = 23 then nI 0 else if c = 24 then nI 1 else if c = 4 then nI 2 else if c = 25 then nI 3 else if c = 26 then nI 4 else if c = 27 then nI 5 else -1 := by decide +kernel
  have no : choI u 2 = -1 → (¬ v 64 5 = 3 ∨ (inI (v 64 7) 5 5 = 0 ∧ inI (v 64 7) 24 28 = 0)) → pc (RyearLine v) (fun w => LE (QL f L a (RWS 5 40)) (rliP u 2) w) := by
    intro c1 c2
    rw [rliP_n (so := 2) (show choI u (worZ 2) = -1 from c1)]
    unfold RyearLine
    refine pc_w (Q := fun w => WE u w) (pc_i (fun _ => ?_) (fun _ => ?_)) (fun w hw => LE_w hw)
    · exact pc_b (pc_ok (tak_n h (c2.imp_right (fun z => z.1)))) (fun p hp => w_y30 (WE_of hp.2))
    · exact pc_b (pc_ok (tak_n h (c2.imp_right (fun z => z.2)))) (fun p hp => w_y30 (WE_of hp.2))
  rcases TK_c h with ⟨n5, hz⟩ | ⟨c, hc, ae, h5, h7, hz⟩
  · exact no (hz 2 (by decide)) (Or.inl n5)
  have tz := hz 2 (by decide)
  rw [t2 c hc] at tz
  by_cases c24 : c = 23
  · subst c24
    rw [if_pos rfl] at tz
    have e7 : v 64 7 = nI 24 := h7
    unfold RyearLine
    rw [if_neg (show ¬ v 64 7 = 5 by rw [e7]; decide)]
    exact ln_2 (k := 0) (code := 24) (fm := [109, 97, 97, 97, 59]) h ct ae h5 e7 tz (by decide) (by decide +kernel) (by decide) (fun w0 a2 e2 ha2 sm f0 f67 hz => yr_move ct ha2 sm f0 f67 hz)
  by_cases c25 : c = 24
  · subst c25
    rw [if_neg (by decide), if_pos rfl] at tz
    have e7 : v 64 7 = nI 25 := h7
    unfold RyearLine
    rw [if_neg (show ¬ v 64 7 = 5 by rw [e7]; decide)]
    exact ln_2 (k := 1) (code := 25) (fm := [115, 59]) h ct ae h5 e7 tz (by decide) (by decide +kernel) (by decide) (fun w0 a2 e2 ha2 sm f0 f67 hz => yr_season ct ha2 sm f0 f67 hz)
  by_cases c5 : c = 4
  · subst c5
    rw [if_neg (by decide), if_neg (by decide), if_pos rfl] at tz
    have e7 : v 64 7 = nI 5 := h7
    unfold RyearLine
    rw [if_pos (show v 64 7 = 5 from e7)]
    exact ln_2 (k := 2) (code := 5) (fm := [107, 109, 59]) h ct ae h5 e7 tz (by decide) (by decide +kernel) (by decide) (fun w0 a2 e2 ha2 sm f0 f67 hz => yr_office ct ha2 sm f0 f67 hz)
  by_cases c26 : c = 25
  · subst c26
    rw [if_neg (by decide), if_neg (by decide), if_neg (by decide), if_pos rfl] at tz
    have e7 : v 64 7 = nI 26 := h7
    unfold RyearLine
    rw [if_neg (show ¬ v 64 7 = 5 by rw [e7]; decide)]
    exact ln_2 (k := 3) (code := 26) (fm := [109, 59]) h ct ae h5 e7 tz (by decide) (by decide +kernel) (by decide) (fun w0 a2 e2 ha2 sm f0 f67 hz => yr_dismiss ct ha2 sm f0 f67 hz)
  by_cases c27 : c = 26
  · subst c27
    rw [if_neg (by decide), if_neg (by decide), if_neg (by decide), if_neg (by decide), if_pos rfl] at tz
    have e7 : v 64 7 = nI 27 := h7
    unfold RyearLine
    rw [if_neg (show ¬ v 64 7 = 5 by rw [e7]; decide)]
    exact ln_2 (k := 4) (code := 27) (fm := [109, 59]) h ct ae h5 e7 tz (by decide) (by decide +kernel) (by decide) (fun w0 a2 e2 ha2 sm f0 f67 hz => yr_recall ct ha2 sm f0 f67 hz)
  by_cases c28 : c = 27
  · subst c28
    rw [if_neg (by decide), if_neg (by decide), if_neg (by decide), if_neg (by decide), if_neg (by decide), if_pos rfl] at tz
    have e7 : v 64 7 = nI 28 := h7
    unfold RyearLine
    rw [if_neg (show ¬ v 64 7 = 5 by rw [e7]; decide)]
    exact ln_2 (k := 5) (code := 28) (fm := [59]) h ct ae h5 e7 tz (by decide) (by decide +kernel) (by decide) (fun w0 a2 e2 ha2 sm f0 f67 hz => yr_pass ct ha2 sm f0 f67 hz)
  rw [if_neg c24, if_neg c25, if_neg c5, if_neg c26, if_neg c27, if_neg c28] at tz
  have iz : ∀ x y : Nat, x ≤ 100 → y ≤ 100 → ¬ (x ≤ c + 1 ∧ c + 1 ≤ y) → inI (v 64 7) (nI x) (nI y) = 0 := by
    intro x y hx hy hn
    rw [h7, inI_le (by omega) (by omega) (by omega), if_neg hn]
  exact no tz (Or.inr ⟨iz 5 5 (by decide) (by decide) (by omega), iz 24 28 (by decide) (by decide) (by omega)⟩)
theorem ln_1 {f : Nat → Int32} {L a e k code : Nat} {u v : SG} {x y : Int32} {fm : List Int32} (h : SM f L a e u v) (ct : v 65 7 = 0 → RWS 5 8 u v) (ae : a < e) (h5 : v 64 5 = 3) (h7 : v 64 7 = nI code) (c2 : choI u 1 = nI k) (hk : k ≤ 10) (hf : forms 1 (nI k) = fm) (hi : ¬ inI (nI code) x y = 0)
    (go : ∀ (w0 : SG) (a2 e2 : Nat), a < a2 → SM f L a2 e2 (rl0 u 1) w0 → RL0 u (rl0 u 1) → w0 67 = v 67 → (w0 65 7 = 0 → v 65 7 = 0 ∧ ∃ n, n < 8 ∧ u 43 10 = nI n ∧ v 67 0 = nI n) → pc (RorderLine_58 w0 (v 64 4) (nI code)) (fun w => LE (QL f L a (RWS 5 8)) (rlC 1 (nI k) fm (rl0 u 1) 0) w)) : pc ((Rtakes v x y).bind fun p1 => RorderLine_33 p1.2 (v 64 4) p1.1) (fun w => LE (QL f L a (RWS 5 8)) (rliP u 1) w) := by
  have c3 : choI u (worZ 1) = nI k := c2
  obtain ⟨n1, n2, n3⟩ := cnt_f (u := u) (so := 1)
  refine pc_b (pc_ok (tak_y (u1 := cntS u 1) h ae h5 (by rw [h7]; exact hi) (n2 6 (by decide) (by decide) (by decide)) (n2 9 (by decide) (by decide) (by decide)) (n1 54 (by decide)))) (fun p hp => ?_)
  rw [rliP_c (so := 1) (by rw [c3]; exact nI_n1 (by omega)), c3, hf, hp.1, h7]
  unfold RorderLine_33
  exact sta_l (so := 1) (M := 8) (X := fun w => RorderLine_58 w (v 64 4) (nI code)) h (by decide) (by decide) (cou_e (Or.inl (by decide))) hp.2 (fun z => by obtain ⟨n, hn, _, q1, q2, _⟩ := ct z; exact ⟨n, hn, q1, q2⟩) (fun w0 a2 e2 ha2 sm f0 f67 f65 f64 hz => go w0 a2 e2 ha2 sm f0 (f67 67 (by decide) (by decide)) hz)
theorem lin_1 {f : Nat → Int32} {L a e : Nat} {u v : SG} (h : SM f L a e u v) (ct : v 65 7 = 0 → RWS 5 8 u v) : pc (RorderLine v) (fun w => LE (QL f L a (RWS 5 8)) (rliP u 1) w) := by
  have t2 : ∀ c, c < 32 → tb 1 c = if c = 17 then nI 0 else if c = 21 then nI 1 else if c = 22 then nI 2 else -1 := by decide +kernel
  have no : choI u 1 = -1 → (¬ v 64 5 = 3 ∨ (inI (v 64 7) 18 18 = 0 ∧ inI (v 64 7) 22 23 = 0)) → pc (RorderLine v) (fun w => LE (QL f L a (RWS 5 8)) (rliP u 1) w) := by
    intro c1 c2
    rw [rliP_n (so := 1) (show choI u (worZ 1) = -1 from c1)]
    unfold RorderLine
    refine pc_w (Q := fun w => WE u w) (pc_i (fun _ => ?_) (fun _ => ?_)) (fun w hw => LE_w hw)
    · exact pc_b (pc_ok (tak_n h (c2.imp_right (fun z => z.1)))) (fun p hp => w_o33 (WE_of hp.2))
    · exact pc_b (pc_ok (tak_n h (c2.imp_right (fun z => z.2)))) (fun p hp => w_o33 (WE_of hp.2))
  rcases TK_c h with ⟨n5, hz⟩ | ⟨c, hc, ae, h5, h7, hz⟩
  · exact no (hz 1 (by decide)) (Or.inl n5)
  have tz := hz 1 (by decide)
  rw [t2 c hc] at tz
  by_cases c18 : c = 17
  · subst c18
    rw [if_pos rfl] at tz
    have e7 : v 64 7 = nI 18 := h7
    unfold RorderLine
    rw [if_pos (show v 64 7 = 18 from e7)]
    exact ln_1 (k := 0) (code := 18) (fm := [107, 98, 97, 105, 59]) h ct ae h5 e7 tz (by decide) (by decide +kernel) (by decide) (fun w0 a2 e2 ha2 sm f0 f67 hz => or_no ct ha2 sm f0 f67 hz)
  by_cases c22 : c = 21
  · subst c22
    rw [if_neg (by decide), if_pos rfl] at tz
    have e7 : v 64 7 = nI 22 := h7
    unfold RorderLine
    rw [if_neg (show ¬ v 64 7 = 18 by rw [e7]; decide)]
    exact ln_1 (k := 1) (code := 22) (fm := [116, 59]) h ct ae h5 e7 tz (by decide) (by decide +kernel) (by decide) (fun w0 a2 e2 ha2 sm f0 f67 hz => or_sum ct ha2 sm f0 f67 hz)
  by_cases c23 : c = 22
  · subst c23
    rw [if_neg (by decide), if_neg (by decide), if_pos rfl] at tz
    have e7 : v 64 7 = nI 23 := h7
    unfold RorderLine
    rw [if_neg (show ¬ v 64 7 = 18 by rw [e7]; decide)]
    exact ln_1 (k := 2) (code := 23) (fm := [107, 97, 107, 97, 59]) h ct ae h5 e7 tz (by decide) (by decide +kernel) (by decide) (fun w0 a2 e2 ha2 sm f0 f67 hz => or_after ct ha2 sm f0 f67 hz)
  rw [if_neg c18, if_neg c22, if_neg c23] at tz
  have iz : ∀ x y : Nat, x ≤ 100 → y ≤ 100 → ¬ (x ≤ c + 1 ∧ c + 1 ≤ y) → inI (v 64 7) (nI x) (nI y) = 0 := by
    intro x y hx hy hn
    rw [h7, inI_le (by omega) (by omega) (by omega), if_neg hn]
  exact no tz (Or.inr ⟨iz 18 18 (by decide) (by decide) (by omega), iz 22 23 (by decide) (by decide) (by omega)⟩)
end XTL
