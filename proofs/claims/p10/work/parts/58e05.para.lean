section XTE
variable {sc : Nat × (Nat → Int32)} {d : Nat} {K : List KD} {r q t a B m : Nat} {w : EW}
/-! steps of a line, on both sides -/
/-- the fault so far, told ahead of the place b -/
def FL (b : Nat) (u v : SG) : Prop := (u 43 2 = 0 ∧ v 65 7 = 0 ∧ u 43 3 = -1 ∧ v 65 8 = -1) ∨ ∃ k p, (k = (2 : Int32) ∨ k = 3) ∧ u 43 2 = k ∧ v 65 7 = k ∧ u 43 3 = nI p ∧ v 65 8 = nI p ∧ p < b
/-- both stand at the token from a to e -/
def SM (f : Nat → Int32) (L a e : Nat) (u v : SG) : Prop := CB f L u ∧ RTt f L v ∧ v 64 8 = 0 ∧ TK L a e u v ∧ FL a u v
theorem FL_lo {b c : Nat} {u v u2 v2 : SG} (h : FL b u v) (hb : b ≤ c) (e2 : u2 43 2 = u 43 2) (e3 : u2 43 3 = u 43 3) (e7 : v2 65 7 = v 65 7) (e8 : v2 65 8 = v 65 8) : FL c u2 v2 := by
  rcases h with ⟨h1, h2, h3, h4⟩ | ⟨k, p, hk, h1, h2, h3, h4, h5⟩
  · exact Or.inl ⟨e2.trans h1, e7.trans h2, e3.trans h3, e8.trans h4⟩
  · exact Or.inr ⟨k, p, hk, e2.trans h1, e7.trans h2, e3.trans h3, e8.trans h4, by omega⟩
theorem FL_0 {b : Nat} {u v : SG} (h : FL b u v) : u 43 2 = 0 ↔ v 65 7 = 0 := by
  rcases h with ⟨h1, h2, _, _⟩ | ⟨k, p, hk, h1, h2, _⟩
  · rw [h1, h2]
  · rw [h1, h2]
theorem FL_eq {b : Nat} {u v : SG} (h : FL b u v) : u 43 2 = v 65 7 ∧ u 43 3 = v 65 8 := by
  rcases h with ⟨h1, h2, h3, h4⟩ | ⟨k, p, hk, h1, h2, h3, h4, _⟩
  · exact ⟨h1.trans h2.symm, h3.trans h4.symm⟩
  · exact ⟨h1.trans h2.symm, h3.trans h4.symm⟩
/-- a fault of the kind k at the place p, noted by both -/
theorem FL_note {b p : Nat} {u v : SG} {k : Int32} (hk : k = 2 ∨ k = 3) (h : FL p u v) (hp : p < b) (h8 : v 64 8 = 0) (hl : p ≤ 600) : ok (Ralso v k (nI p)) (fun w => FL b (notS u k (nI p)) w ∧ ¬ w 65 7 = 0 ∧ (∀ c, c ≠ 65 → w c = v c) ∧ ∀ j, j ≠ 7 → j ≠ 8 → w 65 j = v 65 j) := by
  have hk0 : ¬ k = 0 := by rcases hk with rfl | rfl <;> decide
  have hk1 : ¬ k = 1 := by rcases hk with rfl | rfl <;> decide
  unfold Ralso
  rw [if_pos h8]
  refine ok_be (rd_nI (e := 7) rfl (by decide) (by decide)) ?_
  rcases h with ⟨h1, h2, h3, h4⟩ | ⟨k2, p2, hk2, h1, h2, h3, h4, h5⟩
  · rw [if_pos h2]
    unfold Ralso_51
    refine ok_be (wr_nI (e := 7) rfl (by decide) (by decide)) (ok_be (wr_nI (e := 8) rfl (by decide) (by decide)) (ok_s ⟨Or.inr ⟨k, p, hk, ?_, ?_, ?_, ?_, hp⟩, ?_, fun c hc => ?_, fun j a1 a2 => ?_⟩))
    · unfold notS; rw [if_pos h1, up_bn (by decide), up_a]
    · rw [up_bn (by decide), up_a]
    · unfold notS; rw [if_pos h1, up_a]
    · rw [up_a]
    · rw [up_bn (by decide), up_a]; exact hk0
    · rw [up_n hc, up_n hc]
    · rw [up_bn a2, up_bn a1]
  · have hk20 : ¬ k2 = 0 := by rcases hk2 with rfl | rfl <;> decide
    rw [if_neg (by rw [h2]; exact hk20)]
    refine ok_be (rd_nI (e := 8) rfl (by decide) (by decide)) ?_
    rw [h4, if_pos (nI_lt2 h5 (by omega))]
    refine ok_s ⟨Or.inr ⟨k2, p2, hk2, ?_, h2, ?_, h4, by omega⟩, by rw [h2]; exact hk20, fun _ _ => rfl, fun _ _ _ => rfl⟩
    · unfold notS; rw [if_neg (by rw [h1]; exact hk20), if_neg hk1]; exact h1
    · unfold notS; rw [if_neg (by rw [h1]; exact hk20), if_neg hk1]; exact h3
theorem notS_n {s : SG} {x y : Int32} : (∀ c, c ≠ 43 → notS s x y c = s c) ∧ ∀ j, j ≠ 2 → j ≠ 3 → notS s x y 43 j = s 43 j := by
  unfold notS
  refine ⟨fun c hc => ?_, fun j h2 h3 => ?_⟩
  · repeat' split
    all_goals simp only [up_n hc]
  · repeat' split
    all_goals simp only [up_bn h2, up_bn h3]
theorem CB_of {f : Nat → Int32} {L : Nat} {u u2 : SG} (h : CB f L u) (e6 : u2 43 6 = u 43 6) (e9 : u2 43 9 = u 43 9) (e54 : u2 54 = u 54) : CB f L u2 := by
  obtain ⟨⟨h1, h2, h3, h4⟩, h5, h6⟩ := h
  have l6 : ln u2 = ln u := by unfold ln; rw [e6]
  have l9 : en u2 = en u := by unfold en; rw [e9]
  exact ⟨⟨by rw [e6, l6]; exact h1, by rw [l6]; exact h2, by rw [e9, l9]; exact h3, by rw [l6, l9]; exact h4⟩, by rw [l6]; exact h5, fun j hj => by unfold tok; rw [e54]; exact h6 j hj⟩
theorem RTt_of {f : Nat → Int32} {L : Nat} {v v2 : SG} (h : RTt f L v) (e2 : v2 64 2 = v 64 2) (e : ∀ j, 10 ≤ j → v2 65 j = v 65 j) : RTt f L v2 :=
  ⟨e2.trans h.1, h.2.1, fun j hj => by rw [e _ (by omega)]; exact h.2.2.1 j hj, h.2.2.2⟩
/-- both go on to the next token -/
theorem SM_adv {f : Nat → Int32} {L e : Nat} {u v : SG} (hc : CB f L u) (he : u 43 9 = nI e) (hl : e ≤ L) (hr : RTt f L v) (h3 : v 64 3 = nI e) (h8 : v 64 8 = 0) (hf : FL e u v) : ok (Radvance v) (fun w => (∃ a2 e2, e ≤ a2 ∧ SM f L a2 e2 (advS u) w) ∧ (∀ c, c ≠ 64 → w c = v c) ∧ ∀ j, (j < 3 ∨ 8 ≤ j) → w 64 j = v 64 j) := by
  have hL := hr.2.1
  have ee : en u = e := by unfold en; rw [he, nI_clamp (by omega)]
  obtain ⟨c1, c2, c3, c4⟩ := adv_c hc
  rw [ee] at c2
  refine ok_w (adv_r hr h3 hl) (fun w hw => ?_)
  have hw2 := hw
  obtain ⟨_, _, _, _, ax, _⟩ := hw2
  obtain ⟨a2, e2, ha, tk⟩ := tok_2 c1 hr c2 hw
  refine ⟨⟨a2, e2, ha, c1, AX_RTt ax hr, ?_, tk, ?_⟩, ax.2.2, ax.2.1⟩
  · rw [ax.2.1 8 (by omega)]; exact h8
  · exact FL_lo hf ha (c4 2 (by decide) (by decide) (by decide)) (c4 3 (by decide) (by decide) (by decide)) (by rw [ax.2.2 65 (by decide)]) (by rw [ax.2.2 65 (by decide)])
/-- off its token, its fault and its parts the class is as before -/
def FRc (u u2 : SG) : Prop := (∀ c, c ≠ 43 → c ≠ 55 → u2 c = u c) ∧ ∀ j, j ≠ 2 → j ≠ 3 → j ≠ 7 → j ≠ 8 → j ≠ 9 → u2 43 j = u 43 j
/-- off its token and its fault the reference is as before -/
def FRr (v w : SG) : Prop := (∀ c, c ≠ 64 → c ≠ 65 → w c = v c) ∧ (∀ j, j ≠ 7 → j ≠ 8 → w 65 j = v 65 j) ∧ ∀ j, (j < 3 ∨ 8 ≤ j) → w 64 j = v 64 j
theorem FRc_rfl {u : SG} : FRc u u := ⟨fun _ _ _ => rfl, fun _ _ _ _ _ _ => rfl⟩
theorem FRr_rfl {v : SG} : FRr v v := ⟨fun _ _ _ => rfl, fun _ _ _ => rfl, fun _ _ => rfl⟩
theorem FRc_tr {u v w : SG} (h : FRc u v) (g : FRc v w) : FRc u w := ⟨fun c a b => (g.1 c a b).trans (h.1 c a b), fun j a b c d e => (g.2 j a b c d e).trans (h.2 j a b c d e)⟩
theorem FRr_tr {u v w : SG} (h : FRr u v) (g : FRr v w) : FRr u w := ⟨fun c a b => (g.1 c a b).trans (h.1 c a b), fun j a b => (g.2.1 j a b).trans (h.2.1 j a b), fun j a => (g.2.2 j a).trans (h.2.2 j a)⟩
/-- the reference has met a fault of grammar where the class stands -/
def WR (u v w : SG) : Prop := w 64 8 = 1 ∧ w 65 7 = 1 ∧ w 65 8 = u 43 8 ∧ (∀ c, c ≠ 64 → c ≠ 65 → w c = v c) ∧ ∀ j, j ≠ 7 → j ≠ 8 → w 65 j = v 65 j
theorem ends_w {L a e : Nat} {u v : SG} (h8 : v 64 8 = 0) (tk : TK L a e u v) : ok (Rends v) (fun w => WR u v w) := by
  unfold Rends
  rw [if_pos h8]
  refine ok_be (wr_nI (e := 7) rfl (by decide) (by decide)) (ok_be (wr_nI (e := 8) rfl (by decide) (by decide)) (ok_s ⟨?_, ?_, ?_, fun c a1 a2 => ?_, fun j a1 a2 => ?_⟩))
  · rw [up_n (by decide), up_n (by decide), up_a]
  · rw [up_bn (by decide), up_a]
  · rw [up_a, up_n (by decide), up_bn (by decide), tk.2.2.1, tk.1]
  · rw [up_n a2, up_n a2, up_n a1]
  · rw [up_bn a2, up_bn a1, up_n (by decide)]
/-- a told number: what the class's reading answers, what the reference's -/
def NO (f : Nat → Int32) (L a part hi : Nat) (u v : SG) (rp p : Int32 × SG) : Prop := (rp.1 = 1 ∧ ∃ a2 e2 x, a < a2 ∧ SM f L a2 e2 rp.2 p.2 ∧ FRc u rp.2 ∧ rp.2 55 = upd (u 55) part x ∧ FRr v p.2 ∧ (p.2 65 7 = 0 → v 65 7 = 0 ∧ x = p.1) ∧ NB p.1 hi) ∨ (rp.1 = 0 ∧ rp.2 = u ∧ WR u v p.2)
theorem pt5 {u : SG} {part : Nat} {x : Int32} (hp : part < 5) : pt 5 u 55 (nI part) x = up u 55 part x := by
  unfold pt
  rw [if_neg (nI_pos (by omega)), if_neg (show ¬ nI 5 ≤ nI part from nI_ge (by omega) (by decide)), nI_clamp (by omega)]
/-- the class has read a number, whether it can be or not -/
theorem num_go {f : Nat → Int32} {L a e part lo hi : Nat} {u v : SG} {x : Int32} (h : SM f L a e u v) (hp : part < 5) (ae : a < e) (ex : v 64 6 = x) (h9 : NB x 99) (hh : hi ≤ 99) (hlo : lo ≤ hi) (tk5 : v 64 5 = 1) :
    ok (Rnumbered v (nI lo) (nI hi)) (fun p => NO f L a part hi u v (1, advS (up (if inI x (nI lo) (nI hi) = 0 then notS u 2 (u 43 8) else u) 55 part x)) p) := by
  obtain ⟨hc, hr, h8, tk, hf⟩ := h
  have hL := hr.2.1
  have te := tk.2.2.2.2.1
  unfold Rnumbered
  rw [if_pos h8, if_pos tk5, ex]
  have go : ∀ (u1 v1 : SG), (∀ c, c ≠ 43 → u1 c = u c) → (∀ j, j ≠ 2 → j ≠ 3 → u1 43 j = u 43 j) → (∀ c, c ≠ 65 → v1 c = v c) → (∀ j, j ≠ 7 → j ≠ 8 → v1 65 j = v 65 j) → FL e u1 v1 → (v1 65 7 = 0 → v 65 7 = 0 ∧ ¬ inI x (nI lo) (nI hi) = 0) → ok (Rnumbered_44 v1 (nI lo) (nI hi) x) (fun p => NO f L a part hi u v (1, advS (up u1 55 part x)) p) := by
    intro u1 v1 q1 q2 q3 q4 q5 q6
    have cb : CB f L (up u1 55 part x) := CB_of hc (by rw [up_n (by decide)]; exact q2 6 (by decide) (by decide)) (by rw [up_n (by decide)]; exact q2 9 (by decide) (by decide)) (by rw [up_n (by decide), q1 54 (by decide)])
    have rt : RTt f L v1 := RTt_of hr (by rw [q3 64 (by decide)]) (fun j hj => q4 j (by omega) (by omega))
    have fl : FL e (up u1 55 part x) v1 := FL_lo q5 (Nat.le_refl e) (by rw [up_n (by decide)]) (by rw [up_n (by decide)]) rfl rfl
    unfold Rnumbered_44
    refine ok_b (SM_adv cb (by rw [up_n (by decide), q2 9 (by decide) (by decide)]; exact tk.2.1) te rt (by rw [q3 64 (by decide)]; exact tk.2.2.2.1) (by rw [q3 64 (by decide)]; exact h8) fl) (fun w hw => ?_)
    obtain ⟨⟨a2, e2, ha2, sm⟩, w1, w2⟩ := hw
    obtain ⟨_, _, c3, c4⟩ := adv_c cb
    have frc : FRc u (advS (up u1 55 part x)) := ⟨fun c b1 b2 => by rw [c3 c b1, up_n b2, q1 c b1], fun j b1 b2 b3 b4 b5 => by rw [c4 j b3 b4 b5, up_n (by decide), q2 j b1 b2]⟩
    have f55 : advS (up u1 55 part x) 55 = upd (u 55) part x := by rw [c3 55 (by decide), up_s, q1 55 (by decide)]
    have frr : FRr v w := ⟨fun c b1 b2 => by rw [w1 c b1, q3 c b2], fun j b1 b2 => by rw [w1 65 (by decide), q4 j b1 b2], fun j b1 => by rw [w2 j b1, q3 64 (by decide)]⟩
    have w7 : w 65 7 = 0 → v1 65 7 = 0 := fun z => by rw [← w1 65 (by decide)]; exact z
    refine ok_i (fun c => ok_s ?_) (fun c => ok_s ?_)
    · exact Or.inl ⟨rfl, a2, e2, x, by omega, sm, frc, f55, frr, fun z => absurd c (q6 (w7 z)).2, lo, rfl, hlo⟩
    · refine Or.inl ⟨rfl, a2, e2, x, by omega, sm, frc, f55, frr, fun z => ⟨(q6 (w7 z)).1, rfl⟩, ?_⟩
      obtain ⟨n, en, hn⟩ := h9
      refine ⟨n, en, ?_⟩
      rw [en] at c
      unfold inI at c
      by_cases c1 : nI n < nI lo
      · rw [if_pos c1] at c; exact absurd rfl c
      · by_cases c2 : nI hi < nI n
        · rw [if_neg c1, if_pos c2] at c; exact absurd rfl c
        · have := Int32.not_lt.mp c2
          rw [Int32.le_iff_toInt_le, nI_toInt (by omega), nI_toInt (by omega)] at this
          omega
  by_cases ci : inI x (nI lo) (nI hi) = 0
  · rw [if_pos ci, if_pos ci, tk.2.2.1, tk.1]
    refine ok_b (FL_note (b := e) (Or.inl rfl) hf ae h8 (by omega)) (fun v1 hv => ?_)
    obtain ⟨n1, n2⟩ := notS_n (s := u) (x := 2) (y := nI a)
    exact go _ v1 n1 n2 hv.2.2.1 hv.2.2.2 hv.1 (fun z => absurd z hv.2.1)
  · rw [if_neg ci, if_neg ci]
    exact go u v (fun _ _ => rfl) (fun _ _ _ => rfl) (fun _ _ => rfl) (fun _ _ _ => rfl) (FL_lo hf (by omega) rfl rfl rfl rfl) (fun z => ⟨z, ci⟩)
theorem num_no {f : Nat → Int32} {L a e part hi : Nat} {u v : SG} {x y : Int32} (h : SM f L a e u v) (n5 : ¬ v 64 5 = 1) : ok (Rnumbered v x y) (fun p => NO f L a part hi u v (0, u) p) := by
  obtain ⟨_, _, h8, tk, _⟩ := h
  unfold Rnumbered
  rw [if_pos h8, if_neg n5]
  unfold Rnumbered_15
  exact ok_b (ends_w h8 tk) (fun w hw => ok_s (Or.inr ⟨rfl, rfl, hw⟩))
/-- a number of the form g: between lo and hi -/
theorem rea_s {f : Nat → Int32} {L a e part lo hi : Nat} {u v : SG} {g : Int32} (h : SM f L a e u v) (hp : part < 5) (hlo : leaO g = nI lo) (hhi : mosO g = nI hi) (n102 : ¬ g = 102) (hh : hi ≤ 99) (hl : lo ≤ hi) : ok (Rnumbered v (nI lo) (nI hi)) (fun p => NO f L a part hi u v (reaP u g (nI part)) p) := by
  have h0 := h
  obtain ⟨hc, hr, h8, tk, hf⟩ := h
  have hL := hr.2.1
  have te := tk.2.2.2.2.1
  have e9 : en u = e := by unfold en; rw [tk.2.1, nI_clamp (by omega)]
  have e8 : u 43 7 = 2 → a < e ∧ v 64 5 = 1 ∧ numL u (e - a) a 0 = v 64 6 ∧ NB (v 64 6) 99 := by
    intro z
    rcases tk.2.2.2.2.2 with ⟨_, _, k, _⟩ | ⟨ae, ⟨k, _⟩ | ⟨k, k2, k3, k4⟩ | ⟨k, _⟩ | ⟨k, _⟩⟩
    · rw [z] at k; exact absurd k (by decide)
    · rw [z] at k; exact absurd k (by decide)
    · exact ⟨ae, k2, k3, k4⟩
    · rw [z] at k; exact absurd k (by decide)
    · rw [z] at k; exact absurd k (by decide)
  have n8 : ¬ u 43 7 = 2 → ¬ v 64 5 = 1 := by
    intro z q
    rcases tk.2.2.2.2.2 with ⟨_, _, _, k⟩ | ⟨ae, ⟨_, ⟨k, _⟩ | ⟨c, _, k, _⟩⟩ | ⟨k, _⟩ | ⟨_, k⟩ | ⟨_, k⟩⟩
    · rw [q] at k; exact absurd k (by decide)
    · rw [q] at k; exact absurd k (by decide)
    · rw [q] at k; exact absurd k (by decide)
    · exact z k
    · rw [q] at k; exact absurd k (by decide)
    · rw [q] at k; exact absurd k (by decide)
  unfold reaP
  by_cases c : u 43 7 = 2
  · obtain ⟨ae, k2, k3, k4⟩ := e8 c
    have est : st u = a := by unfold st; rw [tk.1, nI_clamp (by omega)]
    rw [if_pos c, e9, est, k3]
    have G := num_go (part := part) (lo := lo) (hi := hi) h0 hp ae rfl k4 hh hl k2
    refine ok_w G (fun p hp2 => ?_)
    have eq : rnuP u g (nI part) (v 64 6) = (1, advS (up (if inI (v 64 6) (nI lo) (nI hi) = 0 then notS u 2 (u 43 8) else u) 55 part (v 64 6))) := by
      unfold rnuP
      rw [if_neg n102, hlo, hhi, pt5 hp, pt5 hp]
      unfold inI
      by_cases c1 : v 64 6 < nI lo
      · simp only [if_pos c1, if_true]
      · by_cases c2 : nI hi < v 64 6
        · simp only [if_neg c1, if_pos c2, if_true]
        · simp only [if_neg c1, if_neg c2]
          rw [if_neg (by decide)]
    rw [eq]; exact hp2
  · rw [if_neg c]
    exact num_no h0 (n8 c)
end XTE
