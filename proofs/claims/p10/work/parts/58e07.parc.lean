section XTG
variable {sc : Nat × (Nat → Int32)} {d : Nat} {K : List KD} {r q t a B m : Nat} {w : EW}
/-! a line of the class, form by form -/
def rlC (so line : Int32) : List Int32 → SG → Nat → Int32 × SG
  | [], s, _ => (1, rlT s so line)
  | c :: t, s, y => if (rpaP s c (nI y)).1 = 0 then refP (rpaP s c (nI y)).2 else rlC so line t (rpaP s c (nI y)).2 (y + 1)
def chs (z : Nat) : Nat → Nat → List Int32
  | 0, _ => []
  | n + 1, j => if chZ z j = 32 then [] else chZ z j :: chs z n (j + 1)
theorem rlL_c {so line : Int32} {z : Nat} : ∀ (n j : Nat) (s : SG) (y : Nat), rlL so line z n j s (nI y) = rlC so line (chs z n j) s y := by
  intro n
  induction n with
  | zero => intro j s y; rfl
  | succ n ih =>
    intro j s y
    rw [rlL, chs]
    by_cases c : chZ z j = 32
    · rw [if_pos c, if_pos c]; rfl
    · rw [if_neg c, if_neg c, rlC]
      by_cases c2 : (rpaP s (chZ z j) (nI y)).1 = 0
      · rw [if_pos c2, if_pos c2]
      · rw [if_neg c2, if_neg c2, ← nI_succ, ih]
def forms (so line : Int32) : List Int32 := chs (fomZ so) (sl (fomZ so) - staN (fomZ so) line) (staN (fomZ so) line)
theorem rliP_c {s : SG} {so : Int32} (h : ¬ choI s (worZ so) = -1) : rliP s so = rlC so (choI s (worZ so)) (forms so (choI s (worZ so))) (rl0 s so) 0 := by
  unfold rliP
  rw [if_neg h]
  exact rlL_c _ _ _ 0
theorem rliP_n {s : SG} {so : Int32} (h : choI s (worZ so) = -1) : rliP s so = refP s := by
  unfold rliP
  rw [if_pos h]
theorem rpa_w {s : SG} {g : Int32} {z part : Nat} (n59 : ¬ g = 59) (n105 : ¬ g = 105) (hz : choZ g = z) (he : isEI z = 0) : rpaP s g (nI part) = cwP s z part := by
  unfold rpaP cwP
  rw [if_neg n59, if_neg n105, hz, if_pos he]
theorem rpa_n {s : SG} {g : Int32} {part : Nat} (n59 : ¬ g = 59) (n105 : ¬ g = 105) (he : ¬ isEI (choZ g) = 0) : rpaP s g (nI part) = reaP s g (nI part) := by
  unfold rpaP
  rw [if_neg n59, if_neg n105, if_neg he]
theorem rpa_s {s : SG} {part : Nat} : rpaP s 59 (nI part) = resP s := by
  unfold rpaP
  rw [if_pos rfl]
theorem rpa_k {s : SG} {part : Nat} : rpaP s 107 (nI part) = cwP s 14 part := rpa_w (by decide) (by decide) (by decide) (by decide)
theorem rpa_y {s : SG} {part : Nat} : rpaP s 121 (nI part) = cwP s 17 part := rpa_w (by decide) (by decide) (by decide) (by decide)
theorem rpa_e {s : SG} {part : Nat} : rpaP s 115 (nI part) = cwP s 15 part := rpa_w (by decide) (by decide) (by decide) (by decide)
theorem rpa_b {s : SG} {part : Nat} : rpaP s 98 (nI part) = cwP s 16 part := rpa_w (by decide) (by decide) (by decide) (by decide)
/-! what a token hangs on -/
theorem istL_g {s t : SG} {z a : Nat} (e8 : t 43 8 = s 43 8) (e54 : t 54 = s 54) : ∀ (n j : Nat), istL t z a n j = istL s z a n j := by
  intro n
  induction n with
  | zero => intro j; rfl
  | succ n ih => intro j; rw [istL, istL, e8, e54, ih]
theorem istI_g {s t : SG} {z a b : Nat} (e8 : t 43 8 = s 43 8) (e9 : t 43 9 = s 43 9) (e54 : t 54 = s 54) : istI t z a b = istI s z a b := by
  unfold istI
  rw [e8, e9, istL_g e8 e54]
theorem choI_g {s t : SG} {z : Nat} (e7 : t 43 7 = s 43 7) (e8 : t 43 8 = s 43 8) (e9 : t 43 9 = s 43 9) (e54 : t 54 = s 54) : choI t z = choI s z := by
  unfold choI
  rw [choL_go, choL_go, e7]
  split
  · generalize WBf z (sl z + 1) 0 0 = l
    generalize (0 : Int32) = y
    induction l generalizing y with
    | nil => rfl
    | cons p l ih => rw [goW, goW, istI_g e8 e9 e54, ih]
  · rfl
theorem numL_g {s t : SG} (e54 : t 54 = s 54) : ∀ (n j : Nat) (y : Int32), numL t n j y = numL s n j y := by
  intro n
  induction n with
  | zero => intro j y; rfl
  | succ n ih =>
    intro j y
    rw [numL, numL, ih]
    unfold tok
    rw [e54]
theorem TK_g {L a e : Nat} {u v u2 v2 : SG} (h : TK L a e u v) (e7 : u2 43 7 = u 43 7) (e8 : u2 43 8 = u 43 8) (e9 : u2 43 9 = u 43 9) (e54 : u2 54 = u 54) (ev : ∀ j, 3 ≤ j → j < 8 → v2 64 j = v 64 j) : TK L a e u2 v2 := by
  obtain ⟨h1, h2, h3, h4, h5, h6⟩ := h
  refine ⟨e8.trans h1, e9.trans h2, (ev 4 (by omega) (by omega)).trans h3, (ev 3 (by omega) (by omega)).trans h4, h5, ?_⟩
  have v5 := ev 5 (by omega) (by omega)
  have v6 := ev 6 (by omega) (by omega)
  have v7 := ev 7 (by omega) (by omega)
  rcases h6 with ⟨a1, a2, a3, a4⟩ | ⟨ae, ⟨a1, ⟨a2, a3⟩ | ⟨c, hc, a2, a3, a4⟩⟩ | ⟨a1, a2, a3, a4⟩ | ⟨a1, a2⟩ | ⟨a1, a2⟩⟩
  · exact Or.inl ⟨a1, a2, e7.trans a3, v5.trans a4⟩
  · exact Or.inr ⟨ae, Or.inl ⟨e7.trans a1, Or.inl ⟨v5.trans a2, fun z hz => by rw [choI_g e7 e8 e9 e54]; exact a3 z hz⟩⟩⟩
  · exact Or.inr ⟨ae, Or.inl ⟨e7.trans a1, Or.inr ⟨c, hc, v5.trans a2, v7.trans a3, fun z hz => by rw [choI_g e7 e8 e9 e54]; exact a4 z hz⟩⟩⟩
  · exact Or.inr ⟨ae, Or.inr (Or.inl ⟨e7.trans a1, v5.trans a2, by rw [numL_g e54, v6]; exact a3, by rw [v6]; exact a4⟩)⟩
  · exact Or.inr ⟨ae, Or.inr (Or.inr (Or.inl ⟨e7.trans a1, v5.trans a2⟩))⟩
  · exact Or.inr ⟨ae, Or.inr (Or.inr (Or.inr ⟨e7.trans a1, v5.trans a2⟩))⟩
theorem SM_g {f : Nat → Int32} {L a e : Nat} {u v u2 v2 : SG} (h : SM f L a e u v) (eu : ∀ j, (j = 2 ∨ j = 3 ∨ (6 ≤ j ∧ j ≤ 9)) → u2 43 j = u 43 j) (e54 : u2 54 = u 54) (e64 : ∀ j, j ≤ 8 → v2 64 j = v 64 j) (e65 : ∀ j, 7 ≤ j → v2 65 j = v 65 j) : SM f L a e u2 v2 := by
  obtain ⟨h1, h2, h3, h4, h5⟩ := h
  exact ⟨CB_of h1 (eu 6 (by omega)) (eu 9 (by omega)) e54, RTt_of h2 (e64 2 (by omega)) (fun j hj => e65 j (by omega)), (e64 8 (by omega)).trans h3, TK_g h4 (eu 7 (by omega)) (eu 8 (by omega)) (eu 9 (by omega)) e54 (fun j _ hj => e64 j (by omega)), FL_lo h5 (Nat.le_refl a) (eu 2 (by omega)) (eu 3 (by omega)) (e65 7 (by omega)) (e65 8 (by omega))⟩
/-! the first word of a line -/
/-- the word that lies there: none of the lists' words, or one -/
theorem TK_c {f : Nat → Int32} {L a e : Nat} {u v : SG} (h : SM f L a e u v) : (¬ v 64 5 = 3 ∧ ∀ z ∈ ZS, choI u z = -1) ∨ ∃ c, c < 32 ∧ a < e ∧ v 64 5 = 3 ∧ v 64 7 = nI (c + 1) ∧ ∀ z ∈ ZS, choI u z = tb z c := by
  obtain ⟨_, _, _, tk, _⟩ := h
  rcases tk.2.2.2.2.2 with ⟨_, _, k, k2⟩ | ⟨ae, ⟨k, ⟨k2, k3⟩ | ⟨c, hc, k2, k3, k4⟩⟩ | ⟨k, k2, _⟩ | ⟨k, k2⟩ | ⟨k, k2⟩⟩
  · exact Or.inl ⟨by rw [k2]; decide, fun z _ => choI_n (by rw [k]; decide)⟩
  · exact Or.inl ⟨by rw [k2]; decide, k3⟩
  · exact Or.inr ⟨c, hc, ae, k2, k3, k4⟩
  · exact Or.inl ⟨by rw [k2]; decide, fun z _ => choI_n (by rw [k]; decide)⟩
  · exact Or.inl ⟨by rw [k2]; decide, fun z _ => choI_n (by rw [k]; decide)⟩
  · exact Or.inl ⟨by rw [k2]; decide, fun z _ => choI_n (by rw [k]; decide)⟩
theorem tak_n {f : Nat → Int32} {L a e : Nat} {u v : SG} {x y : Int32} (h : SM f L a e u v) (n : ¬ v 64 5 = 3 ∨ inI (v 64 7) x y = 0) : ok (Rtakes v x y) (fun p => p.1 = 0 ∧ WR u v p.2) := by
  obtain ⟨_, _, h8, tk, _⟩ := h
  have no : ok (Rtakes_27 v x y) (fun p => p.1 = 0 ∧ WR u v p.2) := by
    unfold Rtakes_27
    exact ok_b (ends_w h8 tk) (fun w hw => ok_s ⟨rfl, hw⟩)
  unfold Rtakes
  rw [if_pos h8]
  rcases n with n | n
  · rw [if_neg n]; exact no
  · refine ok_i (fun _ => ?_) (fun _ => no)
    rw [if_pos n]; exact no
/-- the reference has gone on by a word, the class's u2 too -/
def KY (f : Nat → Int32) (L a : Nat) (u2 v w : SG) : Prop := (∃ a2 e2, a < a2 ∧ CB f L u2 ∧ RTt f L w ∧ w 64 8 = 0 ∧ TK L a2 e2 u2 w) ∧ (∀ c, c ≠ 64 → w c = v c) ∧ ∀ j, (j < 3 ∨ 8 ≤ j) → w 64 j = v 64 j
theorem tak_y {f : Nat → Int32} {L a e : Nat} {u v u1 : SG} {x y : Int32} (h : SM f L a e u v) (ae : a < e) (h5 : v 64 5 = 3) (hi : ¬ inI (v 64 7) x y = 0) (e6 : u1 43 6 = u 43 6) (e9 : u1 43 9 = u 43 9) (e54 : u1 54 = u 54) : ok (Rtakes v x y) (fun p => p.1 = v 64 7 ∧ KY f L a (advS u1) v p.2) := by
  obtain ⟨hc, hr, h8, tk, hf⟩ := h
  have hL := hr.2.1
  have hl := tk.2.2.2.2.1
  have c := CB_of hc e6 e9 e54
  have ee : en u1 = e := by unfold en; rw [e9, tk.2.1, nI_clamp (by omega)]
  obtain ⟨c1, c2, c3, c4⟩ := adv_c c
  rw [ee] at c2
  unfold Rtakes
  rw [if_pos h8, if_pos h5, if_neg hi]
  refine ok_b (adv_r hr tk.2.2.2.1 hl) (fun w hw => ok_s ⟨rfl, ?_, ?_, ?_⟩)
  · have hw2 := hw
    obtain ⟨_, _, _, _, ax, _⟩ := hw2
    obtain ⟨a2, e2, ha, tk2⟩ := tok_2 c1 hr c2 hw
    exact ⟨a2, e2, by omega, c1, AX_RTt ax hr, (ax.2.1 8 (by omega)).trans h8, tk2⟩
  · obtain ⟨_, _, _, _, ax, _⟩ := hw; exact ax.2.2
  · obtain ⟨_, _, _, _, ax, _⟩ := hw; exact ax.2.1
/-! how many lines there may be -/
/-- what counting a line does to the class -/
def cntS (u : SG) (so : Int32) : SG := if ((u 43 10) + 1) ≤ (mosI so) then up u 43 10 ((u 43 10) + 1) else notS (up u 43 10 ((u 43 10) + 1)) 3 (u 43 8)
theorem cou_e {u : SG} {so line : Int32} (h : ¬ so = 0 ∨ line = 0) : couS u so line = cntS u so := by
  unfold couS cntS
  by_cases c : so = 0
  · rw [if_pos c, if_pos (h.resolve_left (fun n => n c))]
  · rw [if_neg c]
theorem cou_n {u : SG} {so line : Int32} (h : so = 0) (h2 : ¬ line = 0) : couS u so line = u := by
  unfold couS
  rw [if_pos h, if_neg h2]
theorem cnt_f {u : SG} {so : Int32} : (∀ c, c ≠ 43 → cntS u so c = u c) ∧ (∀ j, j ≠ 2 → j ≠ 3 → j ≠ 10 → cntS u so 43 j = u 43 j) ∧ cntS u so 43 10 = u 43 10 + 1 := by
  have n := notS_n (s := up u 43 10 (u 43 10 + 1)) (x := 3) (y := u 43 8)
  unfold cntS
  split
  · exact ⟨fun c hc => up_n hc, fun j _ _ h10 => up_bn h10, up_a⟩
  · exact ⟨fun c hc => (n.1 c hc).trans (up_n hc), fun j h2 h3 h10 => (n.2 j h2 h3).trans (up_bn h10), (n.2 10 (by decide) (by decide)).trans up_a⟩
/-- the fault behind the count of a line at a, where the class may have one more -/
theorem lim_a {a b : Nat} {u v w : SG} {so : Int32} (h : FL a u v) (hb : a ≤ b) (e7 : w 65 7 = v 65 7) (e8 : w 65 8 = v 65 8) (z : v 65 7 = 0 → (u 43 10) + 1 ≤ mosI so) : FL b (cntS u so) w := by
  by_cases c : v 65 7 = 0
  · have q := z c
    refine FL_lo h hb ?_ ?_ e7 e8
    · unfold cntS; rw [if_pos q, up_bn (by decide)]
    · unfold cntS; rw [if_pos q, up_bn (by decide)]
  · have c2 : ¬ u 43 2 = 0 := fun q => c ((FL_0 h).1 q)
    refine FL_lo h hb ?_ ?_ e7 e8
    · unfold cntS notS
      split
      · rw [up_bn (by decide)]
      · rw [if_neg (by rw [up_bn (by decide)]; exact c2), if_neg (by decide), up_bn (by decide)]
    · unfold cntS notS
      split
      · rw [up_bn (by decide)]
      · rw [if_neg (by rw [up_bn (by decide)]; exact c2), if_neg (by decide), up_bn (by decide)]
/-- .. and where the reference has one more -/
theorem lim_b {a b : Nat} {u v w : SG} {so : Int32} (h : FL a u v) (hb : a < b) (hl : a ≤ 600) (e8a : u 43 8 = nI a) (w8 : w 64 8 = 0) (e7 : w 65 7 = v 65 7) (e8 : w 65 8 = v 65 8) (z : v 65 7 = 0 → ¬ (u 43 10) + 1 ≤ mosI so) : ok (Ralso w 3 (nI a)) (fun x => FL b (cntS u so) x ∧ ¬ x 65 7 = 0 ∧ (∀ c, c ≠ 65 → x c = w c) ∧ ∀ j, j ≠ 7 → j ≠ 8 → x 65 j = w 65 j) := by
  by_cases c : v 65 7 = 0
  · have q := z c
    have fl : FL a (up u 43 10 (u 43 10 + 1)) w := FL_lo h (Nat.le_refl a) (up_bn (by decide)) (up_bn (by decide)) e7 e8
    refine ok_w (FL_note (Or.inr rfl) fl hb w8 hl) (fun x hx => ⟨?_, hx.2⟩)
    have e : cntS u so = notS (up u 43 10 (u 43 10 + 1)) 3 (nI a) := by unfold cntS; rw [if_neg q, e8a]
    rw [e]; exact hx.1
  · have fb := lim_a (so := so) (w := w) h (Nat.le_of_lt hb) e7 e8 (fun k => absurd k c)
    have h2 := h
    rcases h2 with ⟨_, k, _, _⟩ | ⟨k, p, hk, h1, h2, h3, h4, h5⟩
    · exact absurd k c
    · have ex : Ralso w 3 (nI a) = some w := by
        unfold Ralso
        rw [if_pos w8, rd_nI (x := 7) (e := 7) rfl (by decide) (by decide)]
        show (if w 65 7 = 0 then Ralso_51 w 3 (nI a) else _) = _
        rw [if_neg (by rw [e7]; exact c), rd_nI (x := 8) (e := 8) rfl (by decide) (by decide)]
        show (if w 65 8 < nI a then some w else _) = _
        rw [if_pos (by rw [e8, h4]; exact nI_lt2 h5 (by omega))]
      exact ⟨w, ex, fb, by rw [e7]; exact c, fun _ _ => rfl, fun _ _ _ => rfl⟩
end XTG
