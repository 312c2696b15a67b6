section
section XTS
variable {sc : Nat × (Nat → Int32)} {d : Nat} {K : List KD} {r q t a B m : Nat} {w : EW}
/-! the lines of a text, one after the other, and its end -/
theorem redL_0 {so : Int32} {s : SG} : ∀ n, redL so n s 0 = redT s so := by
  intro n
  cases n with
  | zero => rfl
  | succ n => rw [redL, if_pos rfl]
theorem PB_s {M : Nat} {t : SG} (h : PB M t) : PB (M + 1) t := by
  obtain ⟨sz, nx, h1, h2, h3, h4, h5, h6⟩ := h
  exact ⟨sz, nx, h1, h2, h3, h4, h5, fun q => Nat.le_succ_of_le (h6 q)⟩
/-- off its token, its fault and what it tells the reference is as at the text's beginning -/
def FRM (V v : SG) : Prop := (∀ j, j ≠ 7 → j ≠ 8 → v 65 j = V 65 j) ∧ ∀ c, c ≠ 64 → c ≠ 65 → c ≠ 67 → v c = V c
theorem FRM_FT {V v w : SG} (h : FRM V v) (g : FT v w) : FRM V w := ⟨fun j h7 h8 => (g.1 j h7 h8).trans (h.1 j h7 h8), fun c h1 h2 h3 => (g.2.1 c h1 h2 h3).trans (h.2 c h1 h2 h3)⟩
section LP
variable {f : Nat → Int32} {L : Nat} {y1 y2 : Int32} {V : SG} {I : SG → Prop} {R : SG → SG → Prop} {Ln : SG → Option SG}
theorem loop98 {Q : SG → Int32 × SG → Prop} (tl : ∀ t, (∃ M, PB M t) → I t → ok (Ln t) (fun u => LN t u ∧ I u)) (tb : ∀ r98 r272 t, Rtext_113 r98 r272 t y1 y2 y1 = (Ln t).bind fun u => r98 u y1 y2)
    (lin : ∀ (a e : Nat) (u v : SG), SM f L a e u v → (v 65 7 = 0 → R u v) → pc (Ln v) (fun w => LE (QL f L a R) (rliP u y1) w))
    (fin : ∀ (a e : Nat) (u v : SG) (z : Nat), SM f L a e u v → (v 65 7 = 0 → R u v) → u 43 7 = 0 → v 64 5 = 0 → FRM V v → 201 ≤ z → pc (Rtext_190 (Rtext_R z).1 (Rtext_R z).2 v y1 y2) (fun p => Q (redT u y1) p))
    (bad : ∀ (u v : SG) (z : Nat), v 65 7 = 1 → u 43 2 = 1 → u 43 3 = v 65 8 → FRM V v → pc (Rtext_190 (Rtext_R z).1 (Rtext_R z).2 v y1 y2) (fun p => Q (redT u y1) p)) :
    ∀ (n z a e : Nat) (u v : SG), L ≤ n + a → n + 201 ≤ z → SM f L a e u v → (v 65 7 = 0 → R u v) → (∃ M, PB M v) → I v → FRM V v → pc (Rtext_98 (Rtext_R z).1 (Rtext_R z).2 v y1 y2) (fun p => Q (redL y1 n u 1) p) := by
  intro n
  induction n with
  | zero =>
    intro z a e u v hn hz sm ct p i fr
    have tk := sm.2.2.2.1
    have z5 : u 43 7 = 0 ∧ v 64 5 = 0 := by
      rcases tk.2.2.2.2.2 with ⟨_, _, q1, q2⟩ | ⟨ae, _⟩
      · exact ⟨q1, q2⟩
      · have := tk.2.2.2.2.1; omega
    unfold Rtext_98
    rw [if_pos sm.2.2.1, if_pos z5.2]
    exact fin a e u v z sm ct z5.1 z5.2 fr (by omega)
  | succ n ih =>
    intro z a e u v hn hz sm ct p i fr
    obtain ⟨z, rfl⟩ : ∃ z', z = z' + 1 := ⟨z - 1, by omega⟩
    have tk := sm.2.2.2.1
    have dec : (u 43 7 = 0 ∧ v 64 5 = 0) ∨ (¬ u 43 7 = 0 ∧ ¬ v 64 5 = 0) := by
      rcases tk.2.2.2.2.2 with ⟨_, _, q1, q2⟩ | ⟨ae, ⟨q1, ⟨q2, _⟩ | ⟨c, hc, q2, _⟩⟩ | ⟨q1, q2, _⟩ | ⟨q1, q2⟩ | ⟨q1, q2⟩⟩
      · exact Or.inl ⟨q1, q2⟩
      all_goals exact Or.inr ⟨by rw [q1]; decide, by rw [q2]; decide⟩
    unfold Rtext_98
    rw [if_pos sm.2.2.1]
    rcases dec with ⟨q1, q2⟩ | ⟨q1, q2⟩
    · rw [if_pos q2, redL, if_neg (by decide), if_pos q1]
      exact fin a e u v (z + 1) sm ct q1 q2 fr (by omega)
    · obtain ⟨w, ew, ln, iw⟩ := tl v p i
      rw [if_neg q2, tb, ew, redL, if_neg (by decide), if_neg q1]
      show pc (Rtext_98 (Rtext_R z).1 (Rtext_R z).2 w y1 y2) _
      have frw : FRM V w := FRM_FT fr ln.2
      have pw : ∃ M, PB M w := by
        obtain ⟨M, pm⟩ := p
        exact ⟨M, ln.1 M (PB_s pm)⟩
      rcases lin a e u v sm ct w ew with ⟨r1, a2, e2, ha, sm2, ct2⟩ | ⟨r1, w8, w7, c2, c3⟩
      · rw [r1]
        exact ih z a2 e2 _ w (by omega) (by omega) sm2 ct2 pw iw frw
      · rw [r1, redL_0]
        unfold Rtext_98
        rw [if_neg w8]
        exact bad _ w z w7 c2 c3 frw
end LP
theorem copyv {y1 y2 : Int32} {j P S : Nat} (hP : RplaceOf y1 (nI j) = nI P) (hS : RsizeOf y1 = nI S) (hb : P + S ≤ 1442) (hS2 : S ≤ 201) {w : SG} : ∀ (n i z : Nat) (t : SG), (∀ c, c ≠ 65 → t c = w c) → (∀ x, (x < P ∨ P + S ≤ x) → t 65 x = w 65 x) → (∀ x, x < i → t 65 (P + x) = w 67 x) → i + n = S → n ≤ z → ok (Rtext_272 (Rtext_R z).1 (Rtext_R z).2 t y1 y2 (nI j) (nI i)) (fun p => p.1 = nI j ∧ (∀ c, c ≠ 65 → p.2 c = w c) ∧ (∀ x, (x < P ∨ P + S ≤ x) → p.2 65 x = w 65 x) ∧ ∀ x, x < S → p.2 65 (P + x) = w 67 x) := by
  intro n
  induction n with
  | zero =>
    intro i z t a b c hi hz
    unfold Rtext_272
    rw [hS, if_pos (k_ge hi)]
    exact ok_s ⟨rfl, a, b, fun x hx => c x (by omega)⟩
  | succ n ih =>
    intro i z t a b c hi hz
    obtain ⟨z, rfl⟩ : ∃ z', z = z' + 1 := ⟨z - 1, by omega⟩
    unfold Rtext_272
    rw [hS, if_neg (k_lt hi (by omega))]
    refine ok_be (rd_nI (e := i) rfl (by omega) (by decide)) (ok_be (wr_nI (e := P + i) (by rw [hP, nI_add]) (by omega) (by decide)) ?_)
    show ok (Rtext_272 (Rtext_R z).1 (Rtext_R z).2 (up t 65 (P + i) (t 67 i)) y1 y2 (nI j) (nI i + 1)) _
    rw [← nI_succ]
    refine ih (i + 1) z _ (fun d hd => by rw [up_n hd]; exact a d hd) (fun x hx => by rw [up_bn (by omega)]; exact b x hx) (fun x hx => ?_) (by omega) (by omega)
    by_cases e : x = i
    · subst e; rw [up_a, a 67 (by decide)]
    · rw [up_bn (by omega)]; exact c x (by omega)
/-- behind a text: a fault, on both sides the same, or a place, with what it told -/
def PE (V : SG) (k S : Nat) (P : Nat → Nat) (y2 : Int32) (R : SG → SG → Prop) (u : SG) (p : Int32 × SG) : Prop :=
  (¬ p.2 65 7 = 0 ∧ p.1 = -1 ∧ u 43 2 = p.2 65 7 ∧ u 43 3 = p.2 65 8 ∧ FRM V p.2) ∨
  (p.2 65 7 = 0 ∧ p.2 65 8 = -1 ∧ u 43 2 = 0 ∧ u 43 3 = -1 ∧ ∃ (j : Nat) (v : SG), j < 2 ∧ p.1 = nI j ∧ ((y2 = -1 ∧ V 65 k = nI j ∧ p.2 65 k = nI (j + 1)) ∨ (¬ y2 = -1 ∧ y2 = nI j ∧ p.2 65 k = V 65 k)) ∧ R u v ∧ (∀ c, c ≠ 64 → c ≠ 65 → c ≠ 67 → p.2 c = V c) ∧ (∀ x, x ≠ 7 → x ≠ 8 → x ≠ k → (x < P j ∨ P j + S ≤ x) → p.2 65 x = V 65 x) ∧ ∀ x, x < S → p.2 65 (P j + x) = v 67 x)
section FN
variable {f : Nat → Int32} {L k S : Nat} {P : Nat → Nat} {y1 y2 : Int32} {V u v : SG} {R : SG → SG → Prop} {z : Nat}
theorem fin226 (tp : TP y1 k S P) (ty : TY y2 k V) (fr : FRM V v) (z7 : v 65 7 = 0) (z8 : v 65 8 = -1) (c2 : u 43 2 = 0) (c3 : u 43 3 = -1) (hr : R u v) (hz : 201 ≤ z) : pc (Rtext_226 (Rtext_R z).1 (Rtext_R z).2 v y1 y2) (fun p => PE V k S P y2 R u p) := by
  obtain ⟨e1, hk, hS, hS2, hP⟩ := tp
  unfold Rtext_226
  refine pc_rdv (e := 7) rfl (by decide) (by decide) ?_
  rw [if_pos z7]
  have k65 : v 65 k = V 65 k := fr.1 k (by omega) (by omega)
  have go : ∀ (j : Nat) (w : SG), j < 2 → (∀ c, c ≠ 65 → w c = v c) → (∀ x, x ≠ k → w 65 x = v 65 x) → ((y2 = -1 ∧ V 65 k = nI j ∧ w 65 k = nI (j + 1)) ∨ (¬ y2 = -1 ∧ y2 = nI j ∧ w 65 k = V 65 k)) → pc (Rtext_272 (Rtext_R z).1 (Rtext_R z).2 w y1 y2 (nI j) 0) (fun p => PE V k S P y2 R u p) := by
    intro j w hj hw hx hc
    obtain ⟨hp, hp1, hp2⟩ := hP j hj
    refine pc_ok (ok_w (copyv (P := P j) hp hS hp2 hS2 (w := w) S 0 z w (fun _ _ => rfl) (fun _ _ => rfl) (fun x hx => absurd hx (by omega)) (by omega) (by omega)) (fun p h => ?_))
    obtain ⟨h0, h1, h2, h3⟩ := h
    refine Or.inr ⟨?_, ?_, c2, c3, j, v, hj, h0, ?_, hr, fun c b1 b2 b3 => ?_, fun x b1 b2 b3 b4 => ?_, fun x hx2 => ?_⟩
    · rw [h2 7 (by omega), hx 7 (by omega)]; exact z7
    · rw [h2 8 (by omega), hx 8 (by omega)]; exact z8
    · rw [h2 k (by omega)]; exact hc
    · rw [h1 c b2, hw c b2]; exact fr.2 c b1 b2 b3
    · rw [h2 x b4, hx x b3]; exact fr.1 x b1 b2
    · rw [h3 x hx2, hw 67 (by decide)]
  rcases ty with ⟨ey, c, ec, hc⟩ | ⟨ny, j, ey, hj⟩
  · rw [if_pos ey]
    refine pc_rdv (e := k) e1 (by omega) (by decide) ?_
    rw [k65, ec]
    unfold Rtext_253
    rw [if_pos ey]
    refine pc_rdv (e := k) e1 (by omega) (by decide) ?_
    rw [k65, ec]
    refine pc_wrv (e := k) e1 (by omega) (by decide) ?_
    exact go c _ hc (fun d hd => up_n hd) (fun x hx => up_bn hx) (Or.inl ⟨ey, ec, by rw [up_a, nI_succ]⟩)
  · rw [if_neg ny]
    unfold Rtext_253
    rw [if_neg ny]
    have g := go j v hj (fun _ _ => rfl) (fun _ _ => rfl) (Or.inr ⟨ny, ey, k65⟩)
    rw [← ey] at g
    exact g
theorem redT_f {s : SG} {so : Int32} (h : ¬ s 43 2 = 0) : redT s so 43 2 = s 43 2 ∧ redT s so 43 3 = s 43 3 := by
  have n : notS s 4 (s 43 6) = s := by unfold notS; rw [if_neg h, if_neg (by decide)]
  unfold redT
  rw [n]
  repeat' split
  all_goals exact ⟨rfl, rfl⟩
theorem gt_n : ∀ T, T < 64 → ∀ n, n ≤ 6 → (nI T >>> (nI n &&& 31) = 0 ↔ gr T < nI n) := by decide +kernel
/-- a fault ends the text -/
theorem fin_f (n7 : ¬ v 65 7 = 0) (e2 : u 43 2 = v 65 7) (e3 : u 43 3 = v 65 8) (fr : FRM V v) : pc (Rtext_190 (Rtext_R z).1 (Rtext_R z).2 v y1 y2) (fun p => PE V k S P y2 R (redT u y1) p) := by
  have n2 : ¬ u 43 2 = 0 := by rw [e2]; exact n7
  obtain ⟨r2, r3⟩ := redT_f (so := y1) n2
  unfold Rtext_190
  refine pc_rdv (e := 7) rfl (by decide) (by decide) ?_
  rw [if_neg n7]
  unfold Rtext_226
  refine pc_rdv (e := 7) rfl (by decide) (by decide) ?_
  rw [if_neg n7]
  exact pc_s (Or.inl ⟨n7, rfl, r2.trans e2, r3.trans e3, fr⟩)
theorem fin190 {a e : Nat} (tp : TP y1 k S P) (ty : TY y2 k V) (hR : y1 = 0 → ∀ u v, R u v → RPS u v) (sm : SM f L a e u v) (ct : v 65 7 = 0 → R u v) (q1 : u 43 7 = 0) (q2 : v 64 5 = 0) (fr : FRM V v) (hz : 201 ≤ z) : pc (Rtext_190 (Rtext_R z).1 (Rtext_R z).2 v y1 y2) (fun p => PE V k S P y2 R (redT u y1) p) := by
  have fl := sm.2.2.2.2
  rcases fl with ⟨f1, f2, f3, f4⟩ | ⟨kk, pp, hk, f1, f2, f3, f4, f5⟩
  · by_cases c : y1 = 0
    · obtain ⟨n, V', T, rp⟩ := hR c u v (ct f2)
      have e44 : u 44 0 = nI n := rp.2.1.1
      have e67 : v 67 0 = nI n := rp.2.1.2.2
      have e11 : u 43 11 = nI T := rp.2.2.2.2.2.2.2.2.1
      have e9 : v 64 9 = gr T := rp.2.2.2.2.2.2.2.2.2
      have key := gt_n T rp.1.2.2 n rp.1.1
      unfold Rtext_190
      refine pc_rdv (e := 7) rfl (by decide) (by decide) ?_
      rw [if_pos f2, if_pos c]
      refine pc_rdv (e := 0) rfl (by decide) (by decide) ?_
      rw [e67, e9]
      by_cases c2 : gr T < nI n
      · have et : redT u y1 = u := by unfold redT; rw [if_pos c, e11, e44, if_pos (key.2 c2)]
        rw [if_pos c2, et]
        exact fin226 tp ty fr f2 f4 f1 f3 (ct f2) hz
      · have et : redT u y1 = up (up u 43 2 4) 43 3 (u 43 6) := by
          unfold redT notS
          rw [if_pos c, e11, e44, if_neg (fun g => c2 (key.1 g)), if_pos f1]
        have er : Ralso v 4 (v 64 4) = some (up (up v 65 7 4) 65 8 (v 64 4)) := by
          unfold Ralso
          rw [if_pos sm.2.2.1, rd_nI (x := 7) (e := 7) rfl (by decide) (by decide)]
          show (if v 65 7 = 0 then Ralso_51 v 4 (v 64 4) else _) = _
          rw [if_pos f2]
          unfold Ralso_51
          rw [wr_nI (x := 7) (e := 7) rfl (by decide) (by decide)]
          show (wrI (up v 65 7 4) 65 5768 8 (v 64 4)).bind _ = _
          rw [wr_nI (x := 8) (e := 8) rfl (by decide) (by decide)]; rfl
        have tk := sm.2.2.2.1
        have aL : a = L := by
          rcases tk.2.2.2.2.2 with ⟨g, _⟩ | ⟨ae, ⟨g, _⟩ | ⟨g, _⟩ | ⟨g, _⟩ | ⟨g, _⟩⟩
          · exact g
          all_goals (rw [q1] at g; exact absurd g (by decide))
        have e6 : u 43 6 = nI L := by
          obtain ⟨⟨g1, _⟩, g2, _⟩ := sm.1
          rw [g1, g2]
        have e4 : v 64 4 = nI L := by rw [← aL]; exact tk.2.2.1
        rw [if_neg c2, et, er]
        show pc (Rtext_226 (Rtext_R z).1 (Rtext_R z).2 (up (up v 65 7 4) 65 8 (v 64 4)) y1 y2) _
        have e7 : up (up v 65 7 4) 65 8 (v 64 4) 65 7 = 4 := by rw [up_bn (by decide), up_a]
        unfold Rtext_226
        refine pc_rdv (e := 7) rfl (by decide) (by decide) ?_
        rw [if_neg (by rw [e7]; decide)]
        refine pc_s (Or.inl ⟨by show ¬ up (up v 65 7 4) 65 8 (v 64 4) 65 7 = 0; rw [e7]; decide, rfl, ?_, ?_, fun j h7 h8 => ?_, fun c b1 b2 b3 => ?_⟩)
        · show _ = up (up v 65 7 4) 65 8 (v 64 4) 65 7
          rw [e7, up_bn (by decide), up_a]
        · show _ = up (up v 65 7 4) 65 8 (v 64 4) 65 8
          rw [up_a, up_a, e6, e4]
        · show up (up v 65 7 4) 65 8 (v 64 4) 65 j = V 65 j
          rw [up_bn h8, up_bn h7]; exact fr.1 j h7 h8
        · show up (up v 65 7 4) 65 8 (v 64 4) c = V c
          rw [up_n b2, up_n b2]; exact fr.2 c b1 b2 b3
    · have et : redT u y1 = u := by unfold redT; rw [if_neg c]
      rw [et]
      unfold Rtext_190
      refine pc_rdv (e := 7) rfl (by decide) (by decide) ?_
      rw [if_pos f2, if_neg c]
      exact fin226 tp ty fr f2 f4 f1 f3 (ct f2) hz
  · have n7 : ¬ v 65 7 = 0 := by rw [f2]; rcases hk with rfl | rfl <;> decide
    exact fin_f n7 (f1.trans f2.symm) (f3.trans f4.symm) fr
end FN
/-! the beginning of a text -/
def CLV (y1 : Int32) (g : Nat → Int32) : Prop := g 0 = 0 ∧ (y1 = 0 → g 1 = 10 ∧ g 2 = 2 ∧ g 3 = 50 ∧ g 4 = 50 ∧ g 5 = 20) ∧ ∀ i, i < 201 → (y1 = 0 → 6 ≤ i) → g i = 0
theorem clears_w {y1 : Int32} : ∀ (n j z : Nat) (t : SG), (∀ i, i < j → t 67 i = 0) → j + n = 201 → n ≤ z → ok (Rclears_2 (Rclears_R z) t y1 (nI j)) (fun u => CLV y1 (u 67)) := by
  intro n
  induction n with
  | zero =>
    intro j z t h0 hj hz
    unfold Rclears_2
    rw [if_pos (show (201 : Int32) ≤ nI j from k_ge (m := 201) hj)]
    refine ok_i (fun e => ?_) (fun e => ok_s ⟨h0 0 (by omega), fun c => absurd c e, fun i hi _ => h0 i (by omega)⟩)
    refine ok_be (wr_nI (e := 1) rfl (by omega) (by decide)) (ok_be (wr_nI (e := 2) rfl (by omega) (by decide)) (ok_be (wr_nI (e := 3) rfl (by omega) (by decide)) (ok_be (wr_nI (e := 4) rfl (by omega) (by decide)) (ok_be (wr_nI (e := 5) rfl (by omega) (by decide)) (ok_s ⟨?_, fun _ => ⟨?_, ?_, ?_, ?_, ?_⟩, fun i hi h6 => ?_⟩)))))
    · rw [up_bn (by decide), up_bn (by decide), up_bn (by decide), up_bn (by decide), up_bn (by decide)]; exact h0 0 (by omega)
    · rw [up_bn (by decide), up_bn (by decide), up_bn (by decide), up_bn (by decide), up_a]
    · rw [up_bn (by decide), up_bn (by decide), up_bn (by decide), up_a]
    · rw [up_bn (by decide), up_bn (by decide), up_a]
    · rw [up_bn (by decide), up_a]
    · rw [up_a]
    · have := h6 e
      rw [up_bn (by omega), up_bn (by omega), up_bn (by omega), up_bn (by omega), up_bn (by omega)]; exact h0 i (by omega)
  | succ n ih =>
    intro j z t h0 hj hz
    obtain ⟨z, rfl⟩ : ∃ z', z = z' + 1 := ⟨z - 1, by omega⟩
    unfold Rclears_2
    rw [if_neg (show ¬ (201 : Int32) ≤ nI j from k_lt (m := 201) hj (by decide))]
    refine ok_be (wr_nI rfl (by omega) (by decide)) ?_
    show ok (Rclears_2 (Rclears_R z) (up t 67 j 0) y1 (nI j + 1)) _
    rw [← nI_succ]
    refine ih (j + 1) z _ (fun i hi => ?_) (by omega) (by omega)
    by_cases e : i = j
    · subst e; rw [up_a]
    · rw [up_bn e]; exact h0 i (by omega)
theorem clears_v {s : SG} {y1 : Int32} : ok (Rclears s y1) (fun u => CLV y1 (u 67)) := by
  unfold Rclears
  exact clears_w 201 0 xF s (fun i hi => absurd hi (by omega)) rfl (by have := xF_ge; omega)
/-- both have read nothing yet -/
def INI (y1 : Int32) (u v : SG) : Prop := (u 43 10 = 0 ∧ u 43 11 = 0 ∧ ∃ p, u 43 8 = nI p ∧ p ≤ 600) ∧ (u 52 0 = 0 ∧ ∀ j, j < 200 → u 53 j = 0) ∧ (u 44 0 = 0 ∧ u 44 8 = 0 ∧ u 44 9 = 10 ∧ u 44 10 = 2 ∧ u 44 11 = 50 ∧ u 44 12 = 50 ∧ u 44 13 = 20) ∧ ((∀ j, j < 72 → u 49 j = 0) ∧ (∀ j, j < 6 → u 50 j = 0) ∧ ∀ j, j < 3 → u 51 j = 0) ∧ v 64 9 = -1 ∧ CLV y1 (v 67)
theorem fl_aa {n j k : Nat} {s : SG} {x : Int32} (h : j < n) : flS n s k x k j = x := by
  unfold flS
  rw [sF_s]; exact if_pos h
theorem son_INI {y1 : Int32} {s u v : SG} {a : Nat} (e : u = advS (son0 s m)) (h8 : u 43 8 = nI a) (ha : a ≤ 600) (h9 : v 64 9 = -1) (cl : CLV y1 (v 67)) : INI y1 u v := by
  have ac : ∀ c, c ≠ 43 → u c = son0 s m c := by
    intro c hc
    rw [e]
    unfold advS adv1
    repeat' split
    all_goals simp only [up_n hc]
  have aj : ∀ j, j ≠ 7 → j ≠ 8 → j ≠ 9 → u 43 j = son0 s m 43 j := by
    intro j b1 b2 b3
    rw [e]
    unfold advS adv1
    repeat' split
    all_goals simp only [up_bn b1, up_bn b2, up_bn b3]
  refine ⟨⟨?_, ?_, a, h8, ha⟩, ⟨?_, fun j hj => ?_⟩, ⟨?_, ?_, ?_, ?_, ?_, ?_, ?_⟩, ⟨fun j hj => ?_, fun j hj => ?_, fun j hj => ?_⟩, h9, cl⟩
  · rw [aj 10 (by decide) (by decide) (by decide)]; unfold son0; simp (decide := true) only [up_a, up_b]
  · rw [aj 11 (by decide) (by decide) (by decide)]; unfold son0; simp (decide := true) only [up_a, up_b]
  · rw [ac 52 (by decide)]; unfold son0 clwS; simp (decide := true) only [up_a, up_b, up_c, fl_c]
  · rw [ac 53 (by decide)]; unfold son0 clwS; simp (decide := true) only [up_c]; exact fl_aa hj
  · rw [ac 44 (by decide)]; unfold son0 clwS clrS; simp (decide := true) only [up_a, up_b, up_c, fl_c]
  · rw [ac 44 (by decide)]; unfold son0 clwS clrS; simp (decide := true) only [up_a, up_b, up_c, fl_c]
  · rw [ac 44 (by decide)]; unfold son0 clwS clrS; simp (decide := true) only [up_a, up_b, up_c, fl_c]
  · rw [ac 44 (by decide)]; unfold son0 clwS clrS; simp (decide := true) only [up_a, up_b, up_c, fl_c]
  · rw [ac 44 (by decide)]; unfold son0 clwS clrS; simp (decide := true) only [up_a, up_b, up_c, fl_c]
  · rw [ac 44 (by decide)]; unfold son0 clwS clrS; simp (decide := true) only [up_a, up_b, up_c, fl_c]
  · rw [ac 44 (by decide)]; unfold son0 clwS clrS; simp (decide := true) only [up_a, up_b, up_c, fl_c]
  · rw [ac 49 (by decide)]; unfold son0 clwS clrS; simp (decide := true) only [up_c, fl_c]; exact fl_aa hj
  · rw [ac 50 (by decide)]; unfold son0 clwS clrS; simp (decide := true) only [up_c, fl_c]; exact fl_aa hj
  · rw [ac 51 (by decide)]; unfold son0 clwS clrS; simp (decide := true) only [up_c, fl_c]; exact fl_aa hj
theorem INI_rws {y1 : Int32} {u v : SG} {c N : Nat} (h : INI y1 u v) : RWS c N u v :=
  ⟨0, by omega, h.2.1.1, h.1.1, h.2.2.2.2.2.1, fun j i hj _ => absurd hj (by omega), fun _ j hj => absurd hj (by omega)⟩
theorem INI_bgs {y1 : Int32} {u v : SG} (ny : ¬ y1 = 0) (h : INI y1 u v) : BGS u v := by
  obtain ⟨⟨h1, _, p, h8, hp⟩, ⟨_, h53⟩, _, _, _, cl⟩ := h
  exact ⟨⟨0, p, h1, h8, by omega, hp⟩, fun m hm => by rw [h53 _ (by omega), cl.2.2 m (by omega) (fun z => absurd z ny)]⟩
theorem INI_rps {u v : SG} (h : INI 0 u v) : RPS u v := by
  obtain ⟨⟨h1, h11, _⟩, _, ⟨a0, a8, a9, a10, a11, a12, a13⟩, ⟨b49, b50, b51⟩, h9, cl⟩ := h
  obtain ⟨c0, c1, cz⟩ := cl
  obtain ⟨d1, d2, d3, d4, d5⟩ := c1 rfl
  have z : ∀ i, 6 ≤ i → i < 201 → v 67 i = 0 := fun i h6 hi => cz i hi (fun _ => h6)
  have nz : ∀ i N, 6 ≤ i → i < 201 → NB (v 67 i) N := fun i N h6 hi => ⟨0, z i h6 hi, by omega⟩
  refine ⟨0, 0, 0, ⟨by omega, by omega, by omega⟩, ⟨a0, h1, c0⟩, fun i hi => ?_, fun k hk => ⟨by rw [b51 k hk, z _ (by omega) (by omega)], nz _ _ (by omega) (by omega)⟩, ⟨fun m c hm _ => absurd hm (by omega), fun m c hm hc => nz _ _ (by omega) (by omega)⟩, ⟨a8, fun m hm => by rw [z _ (by omega) (by omega), Nat.zero_testBit]; rfl⟩, fun m hm => ⟨by rw [b50 m hm, z _ (by omega) (by omega)], nz _ _ (by omega) (by omega)⟩, fun m i hm hi => ⟨by rw [b49 _ (by omega), z _ (by omega) (by omega)], nz _ _ (by omega) (by omega)⟩, h11, h9⟩
  rcases (by omega : i = 0 ∨ i = 1 ∨ i = 2 ∨ i = 3 ∨ i = 4) with rfl | rfl | rfl | rfl | rfl
  · exact ⟨a9.trans d1.symm, ⟨10, d1, by omega⟩⟩
  · exact ⟨a10.trans d2.symm, ⟨2, d2, by omega⟩⟩
  · exact ⟨a11.trans d3.symm, ⟨50, d3, by omega⟩⟩
  · exact ⟨a12.trans d4.symm, ⟨50, d4, by omega⟩⟩
  · exact ⟨a13.trans d5.symm, ⟨20, d5, by omega⟩⟩
section T74
variable {f : Nat → Int32} {L k S : Nat} {P : Nat → Nat} {y1 y2 : Int32} {I : SG → Prop} {R : SG → SG → Prop} {Ln : SG → Option SG} {t c0 : SG}
theorem text74v (tp : TP y1 k S P) (ti : ∀ t u, SR t u → I t → I u) (tl : ∀ t, (∃ M, PB M t) → I t → ok (Ln t) (fun u => LN t u ∧ I u)) (tb : ∀ r98 r272 t, Rtext_113 r98 r272 t y1 y2 y1 = (Ln t).bind fun u => r98 u y1 y2) (t0 : ∀ u : SG, (y1 = 0 → R0 u) → (¬ y1 = 0 → ∀ i, i < 201 → u 67 i = 0) → I u)
    (lin : ∀ (a e : Nat) (u v : SG), SM f L a e u v → (v 65 7 = 0 → R u v) → pc (Ln v) (fun w => LE (QL f L a R) (rliP u y1) w)) (hR : y1 = 0 → ∀ u v, R u v → RPS u v) (h0 : ∀ u v, INI y1 u v → R u v)
    (e2 : t 64 2 = nI L) (hL : L ≤ 600) (ty : TY y2 k t) (eb : ∀ j, j < L → t 65 (10 + j) = f j) (pos : ∀ j, j < L → 0 ≤ f j) (t7 : t 65 7 = 0) (t8 : t 65 8 = -1) (ef : ∀ j, j < L → c0 54 j = f j) : pc (Rtext_74 (Rtext_R xF).1 (Rtext_R xF).2 t y1 y2) (fun p => PE t k S P y2 R (redL y1 600 (sonS c0 L) 1) p) := by
  unfold Rtext_74
  obtain ⟨v1, ev1, h1, h2, h3⟩ := clears_ok (s := up (up (up t 64 3 0) 64 8 0) 64 9 (-1)) (y1 := y1)
  obtain ⟨v1', ev1', clv⟩ := clears_v (s := up (up (up t 64 3 0) 64 8 0) 64 9 (-1)) (y1 := y1)
  rw [ev1] at ev1'; cases ev1'
  rw [ev1]
  show pc ((Radvance v1).bind fun s2 => Rtext_98 (Rtext_R xF).1 (Rtext_R xF).2 s2 y1 y2) _
  have i0 := t0 v1 h2 h3
  have e64 := h1 64 (by decide)
  have e65 : v1 65 = t 65 := by rw [h1 65 (by decide), up_n (by decide), up_n (by decide), up_n (by decide)]
  have x2 : v1 64 2 = nI L := by rw [e64, up_bn (by decide), up_bn (by decide), up_bn (by decide)]; exact e2
  have x3 : v1 64 3 = nI 0 := by rw [e64, up_bn (by decide), up_bn (by decide), up_a]; rfl
  have x8 : v1 64 8 = 0 := by rw [e64, up_bn (by decide), up_a]
  have x9 : v1 64 9 = -1 := by rw [e64, up_a]
  have p : PB 601 v1 := by
    refine ⟨L, 0, x2, hL, x3, by omega, fun c => absurd x8 c, fun _ => ?_⟩
    split <;> omega
  have rt : RTt f L v1 := ⟨x2, hL, fun j hj => by rw [e65]; exact eb j hj, pos⟩
  have sr := son0_RA (s := c0) hL
  have s6 : son0 c0 L 43 6 = nI L := by unfold son0; simp (decide := true) only [up_a, up_b]
  have cb : CB f L (son0 c0 L) := by
    refine ⟨sr, ?_, fun j hj => ?_⟩
    · unfold ln; rw [s6, nI_clamp (by omega)]
    · unfold tok son0 clwS clrS
      simp (decide := true) only [up_c, fl_c]
      rw [cl_nI (by omega) (by decide)]; exact ef j hj
  have fl : FL 0 (son0 c0 L) v1 := by
    refine Or.inl ⟨?_, by rw [e65]; exact t7, ?_, by rw [e65]; exact t8⟩
    · unfold son0; simp (decide := true) only [up_a, up_b]
    · unfold son0; simp (decide := true) only [up_a, up_b]
  obtain ⟨v2, ev2, ⟨a2, b2, _, sm⟩, k1, k2⟩ := SM_adv (e := 0) cb (by unfold son0; simp (decide := true) only [up_a, up_b]) (Nat.zero_le _) rt x3 x8 fl
  obtain ⟨v2', ev2', hv⟩ := advance_ok (t := v1) ⟨_, p⟩
  rw [ev2] at ev2'; cases ev2'
  rw [ev2]
  show pc (Rtext_98 (Rtext_R xF).1 (Rtext_R xF).2 v2 y1 y2) _
  have fr : FRM t v2 := ⟨fun j _ _ => by rw [k1 65 (by decide), e65], fun c b1 b3 b4 => by rw [k1 c b1, h1 c b4, up_n b1, up_n b1, up_n b1]⟩
  have a600 := SM_600 sm
  have ini : INI y1 (sonS c0 L) v2 := son_INI (a := a2) rfl sm.2.2.2.1.1 a600 (by rw [k2 9 (by omega)]; exact x9) (by rw [k1 67 (by decide)]; exact clv)
  exact loop98 tl tb lin (fun a e u v z sm ct q1 q2 fr hz => fin190 tp ty hR sm ct q1 q2 fr hz) (fun u v z n7 c2 c3 fr => fin_f (by rw [n7]; decide) (c2.trans n7.symm) c3 fr) 600 xF a2 b2 _ v2 (by omega) (by have := xF_ge; omega) sm (fun _ => h0 _ _ ini) ⟨_, hv.1.1.1 _ p⟩ (ti _ _ hv.1 i0) fr
end T74
end XTS
end
section
section XTU
variable {sc : Nat × (Nat → Int32)} {d : Nat} {K : List KD} {r q t a B m : Nat} {w : EW}
/-! what is told, on both sides the same -/
def RK : Nat → SG → SG → Prop
  | 0 => RPS
  | 1 => RWS 5 8
  | 2 => RWS 5 40
  | 3 => RWS 2 8
  | 4 => RWS 4 8
  | _ => BGS
def SZK : Nat → Nat
  | 0 => 118
  | 1 => 41
  | 2 => 201
  | 3 => 17
  | 4 => 33
  | _ => 6
def PLK (k j : Nat) : Nat := match k with
  | 0 => 610 + 118 * j
  | 1 => 846 + 41 * j
  | 2 => 928 + 201 * j
  | 3 => 1330 + 17 * j
  | 4 => 1364 + 33 * j
  | _ => 1430 + 6 * j
def CPK (k j : Nat) : Nat := match k with
  | 0 => 5 + 8 * j
  | k + 1 => 21 + 2 * (k * 2 + j)
def CK (k : Nat) : Nat := match k with
  | 0 => 44
  | _ => 52
theorem text_k {f : Nat → Int32} {L k : Nat} {y1 y2 : Int32} {t c0 : SG} (hk : k < 6) (e1 : y1 = nI k) (e2 : t 64 2 = nI L) (hL : L ≤ 600) (ty : TY y2 k t) (eb : ∀ j, j < L → t 65 (10 + j) = f j) (pos : ∀ j, j < L → 0 ≤ f j) (t7 : t 65 7 = 0) (t8 : t 65 8 = -1) (ef : ∀ j, j < L → c0 54 j = f j) : pc (Rtext_74 (Rtext_R xF).1 (Rtext_R xF).2 t y1 y2) (fun p => PE t k (SZK k) (PLK k) y2 (RK k) (redL y1 600 (sonS c0 L) 1) p) := by
  rcases (by omega : k = 0 ∨ k = 1 ∨ k = 2 ∨ k = 3 ∨ k = 4 ∨ k = 5) with rfl | rfl | rfl | rfl | rfl | rfl <;> subst e1
  · exact text74v (k := 0) (S := 118) (P := fun j => 610 + 118 * j) (R := RPS) (I := R0) (Ln := RrepublicLine) ⟨rfl, by omega, by decide, by omega, fun j hj => ⟨place0, by (try dsimp only); omega, by (try dsimp only); omega⟩⟩ (fun _ _ => R0_SR) (fun _ p i => republicLine_ok p i) (fun _ _ _ => rfl) (fun u h _ => h rfl) (fun a e u v sm ct => lin_0 sm ct) (fun _ _ _ h => h) (fun u v h => INI_rps h) e2 hL ty eb pos t7 t8 ef
  · exact text74v (k := 1) (S := 41) (P := fun j => 846 + 41 * j) (R := RWS 5 8) (I := C8) (Ln := RorderLine) ⟨rfl, by omega, by decide, by omega, fun j hj => ⟨place1, by (try dsimp only); omega, by (try dsimp only); omega⟩⟩ (fun _ _ => C8_SR) (fun _ p i => orderLine_ok p i) (fun _ _ _ => rfl) (fun u _ h => k0 (h (by decide)) 0 8 (by omega)) (fun a e u v sm ct => lin_1 sm ct) (fun c => absurd c (by decide)) (fun u v h => INI_rws h) e2 hL ty eb pos t7 t8 ef
  · refine text74v (k := 2) (S := 201) (P := fun j => 928 + 201 * j) (R := RWS 5 40) (I := Y0) (Ln := RyearLine) ⟨rfl, by omega, by decide, by omega, fun j hj => ⟨place2, by (try dsimp only); omega, by (try dsimp only); omega⟩⟩ (fun _ _ => Y0_SR) (fun _ p i => yearLine_ok p i) (fun _ _ _ => rfl) (fun u _ h => ?_) (fun a e u v sm ct => lin_2 sm ct) (fun c => absurd c (by decide)) (fun u v h => INI_rws h) e2 hL ty eb pos t7 t8 ef
    have z := h (by decide)
    exact ⟨k0 z 0 40 (by omega), fun _ j hj => ⟨fun _ => k0 z _ 3 (by omega), fun _ => k0 z _ 2 (by omega)⟩⟩
  · exact text74v (k := 3) (S := 17) (P := fun j => 1330 + 17 * j) (R := RWS 2 8) (I := C8) (Ln := RleakLine) ⟨rfl, by omega, by decide, by omega, fun j hj => ⟨place3, by (try dsimp only); omega, by (try dsimp only); omega⟩⟩ (fun _ _ => C8_SR) (fun _ p i => leakLine_ok p i) (fun _ _ _ => rfl) (fun u _ h => k0 (h (by decide)) 0 8 (by omega)) (fun a e u v sm ct => lin_3 sm ct) (fun c => absurd c (by decide)) (fun u v h => INI_rws h) e2 hL ty eb pos t7 t8 ef
  · refine text74v (k := 4) (S := 33) (P := fun j => 1364 + 33 * j) (R := RWS 4 8) (I := S0) (Ln := RsummerLine) ⟨rfl, by omega, by decide, by omega, fun j hj => ⟨place4, by (try dsimp only); omega, by (try dsimp only); omega⟩⟩ (fun _ _ => S0_SR) (fun _ p i => summerLine_ok p i) (fun _ _ _ => rfl) (fun u _ h => ?_) (fun a e u v sm ct => lin_4 sm ct) (fun c => absurd c (by decide)) (fun u v h => INI_rws h) e2 hL ty eb pos t7 t8 ef
    have z := h (by decide)
    exact ⟨k0 z 0 8 (by omega), fun _ j hj => ⟨k0 z _ 3 (by omega), k0 z _ 9 (by omega), k0 z _ 9 (by omega), k0 z _ 9 (by omega)⟩⟩
  · exact text74v (k := 5) (S := 6) (P := fun j => 1430 + 6 * j) (R := BGS) (I := fun _ => True) (Ln := RbargainLine) ⟨rfl, by omega, by decide, by omega, fun j hj => ⟨place5, by (try dsimp only); omega, by (try dsimp only); omega⟩⟩ (fun _ _ _ _ => trivial) (fun _ p _ => ok_w (bargainLine_ok p) (fun _ h => ⟨h, trivial⟩)) (fun _ _ _ => rfl) (fun _ _ _ => trivial) (fun a e u v sm ct => lin_5 sm ct) (fun c => absurd c (by decide)) (fun u v h => INI_bgs (by decide) h) e2 hL ty eb pos t7 t8 ef
/-! a told republic, rows, shares: the class's places G, the reference's g -/
def REQ (G : Nat → Nat → Int32) (g : Nat → Int32) : Prop := ∃ n V, (n ≤ 6 ∧ V < 64) ∧ (G 0 0 = nI n ∧ g 0 = nI n) ∧ (∀ i, i < 5 → G 0 (9 + i) = g (1 + i) ∧ NB (g (1 + i)) 99) ∧ (∀ k, k < 3 → G 7 k = g (6 + k) ∧ NB (g (6 + k)) 5) ∧
  ((∀ m c, m < n → c < 4 → G (1 + c) m = g (10 + 18 * m + c)) ∧ ∀ m c, m < 6 → c < 4 → NB (g (10 + 18 * m + c)) 27) ∧
  (G 0 8 = nI V ∧ ∀ m, m < 6 → g (14 + 18 * m) = if V.testBit m then 1 else 0) ∧
  (∀ m, m < 6 → G 6 m = g (15 + 18 * m) ∧ NB (g (15 + 18 * m)) 63) ∧ ∀ m i, m < 6 → i < 12 → G 5 (12 * m + i) = g (16 + 18 * m + i) ∧ NB (g (16 + 18 * m + i)) 9
def WEQ (c N : Nat) (G : Nat → Nat → Int32) (g : Nat → Int32) : Prop := ∃ n, n ≤ N ∧ G 0 0 = nI n ∧ g 0 = nI n ∧ (∀ j i, j < n → i < c → G 1 (5 * j + i) = g (1 + c * j + i)) ∧ (c = 5 → ∀ j, j < n → ROK N (fun i => g (1 + 5 * j + i)))
def BEQ (G : Nat → Nat → Int32) (g : Nat → Int32) : Prop := ∀ m, m < 6 → G 1 (5 * m) = g m
def KEQ : Nat → (Nat → Nat → Int32) → (Nat → Int32) → Prop
  | 0 => REQ
  | 1 => WEQ 5 8
  | 2 => WEQ 5 40
  | 3 => WEQ 2 8
  | 4 => WEQ 4 8
  | _ => BEQ
def KDD : Nat → Nat → Nat → Prop
  | 0 => fun e j => e < 8 ∧ rD e j
  | _ => fun e j => e < 2 ∧ wD e j
section CG
variable {G G2 : Nat → Nat → Int32} {g g2 : Nat → Int32}
theorem REQ_g (e1 : ∀ e j, e < 8 → rD e j → G2 e j = G e j) (e2 : ∀ j, j < 118 → g2 j = g j) (h : REQ G g) : REQ G2 g2 := by
  obtain ⟨n, V, h1, ⟨h2, h3⟩, h4, h5, ⟨h6, h7⟩, ⟨h8, h9⟩, h10, h11⟩ := h
  refine ⟨n, V, h1, ⟨(e1 0 0 (by omega) (Or.inl ⟨rfl, Or.inl rfl⟩)).trans h2, (e2 0 (by omega)).trans h3⟩, fun i hi => ?_, fun k hk => ?_, ⟨fun m c hm hc => ?_, fun m c hm hc => ?_⟩, ⟨?_, fun m hm => ?_⟩, fun m hm => ?_, fun m i hm hi => ?_⟩
  · rw [e1 0 (9 + i) (by omega) (Or.inl ⟨rfl, Or.inr ⟨by omega, by omega⟩⟩), e2 (1 + i) (by omega)]; exact h4 i hi
  · rw [e1 7 k (by omega) (Or.inr (Or.inr (Or.inr ⟨rfl, hk⟩))), e2 (6 + k) (by omega)]; exact h5 k hk
  · rw [e1 (1 + c) m (by omega) (Or.inr (Or.inl ⟨by omega, by omega⟩)), e2 _ (by omega)]; exact h6 m c hm hc
  · rw [e2 _ (by omega)]; exact h7 m c hm hc
  · rw [e1 0 8 (by omega) (Or.inl ⟨rfl, Or.inr ⟨by omega, by omega⟩⟩)]; exact h8
  · rw [e2 _ (by omega)]; exact h9 m hm
  · rw [e1 6 m (by omega) (Or.inr (Or.inl ⟨by omega, by omega⟩)), e2 _ (by omega)]; exact h10 m hm
  · rw [e1 5 _ (by omega) (Or.inr (Or.inr (Or.inl ⟨rfl, by omega⟩))), e2 _ (by omega)]; exact h11 m i hm hi
theorem WEQ_g {c N S : Nat} (hc : c ≤ 5) (hN : N ≤ 40) (hS : S = 1 + c * N) (e1 : ∀ e j, e < 2 → wD e j → G2 e j = G e j) (e2 : ∀ j, j < S → g2 j = g j) (h : WEQ c N G g) : WEQ c N G2 g2 := by
  obtain ⟨n, h1, h2, h3, h4, h5⟩ := h
  refine ⟨n, h1, (e1 0 0 (by omega) (Or.inl ⟨rfl, rfl⟩)).trans h2, (e2 0 (by omega)).trans h3, fun j i hj hi => ?_, fun c5 j hj => by subst c5; exact ROK_g (h5 rfl j hj) (fun i hi => e2 (1 + 5 * j + i) (by omega))⟩
  have l : c * (j + 1) ≤ c * N := Nat.mul_le_mul_left c (by omega)
  rw [Nat.mul_add, Nat.mul_one] at l
  rw [e1 1 (5 * j + i) (by omega) (Or.inr ⟨rfl, by omega⟩), e2 _ (by omega)]; exact h4 j i hj hi
theorem BEQ_g (e1 : ∀ e j, e < 2 → wD e j → G2 e j = G e j) (e2 : ∀ j, j < 6 → g2 j = g j) (h : BEQ G g) : BEQ G2 g2 := by
  intro m hm
  rw [e1 1 (5 * m) (by omega) (Or.inr ⟨rfl, by omega⟩), e2 m hm]; exact h m hm
theorem KEQ_g {k : Nat} (hk : k < 6) (e1 : ∀ e j, KDD k e j → G2 e j = G e j) (e2 : ∀ j, j < SZK k → g2 j = g j) (h : KEQ k G g) : KEQ k G2 g2 := by
  rcases (by omega : k = 0 ∨ k = 1 ∨ k = 2 ∨ k = 3 ∨ k = 4 ∨ k = 5) with rfl | rfl | rfl | rfl | rfl | rfl
  · exact REQ_g (fun e j a b => e1 e j ⟨a, b⟩) e2 h
  · exact WEQ_g (S := 41) (by omega) (by omega) (by omega) (fun e j a b => e1 e j ⟨a, b⟩) e2 h
  · exact WEQ_g (S := 201) (by omega) (by omega) (by omega) (fun e j a b => e1 e j ⟨a, b⟩) e2 h
  · exact WEQ_g (S := 17) (by omega) (by omega) (by omega) (fun e j a b => e1 e j ⟨a, b⟩) e2 h
  · exact WEQ_g (S := 33) (by omega) (by omega) (by omega) (fun e j a b => e1 e j ⟨a, b⟩) e2 h
  · exact BEQ_g (fun e j a b => e1 e j ⟨a, b⟩) e2 h
end CG
theorem KEQ_R {k : Nat} {u v : SG} (hk : k < 6) (h : RK k u v) : KEQ k (fun e j => u (CK k + e) j) (v 67) := by
  rcases (by omega : k = 0 ∨ k = 1 ∨ k = 2 ∨ k = 3 ∨ k = 4 ∨ k = 5) with rfl | rfl | rfl | rfl | rfl | rfl
  · obtain ⟨n, V, T, h1, ⟨h2, _, h3⟩, h4, h5, ⟨h6, h7⟩, h8, h10, h11, _⟩ := h
    exact ⟨n, V, ⟨h1.1, h1.2.1⟩, ⟨h2, h3⟩, h4, h5, ⟨fun m c hm hc => by
      have := h6 m c hm hc
      show u (44 + (1 + c)) m = _
      rw [show 44 + (1 + c) = 45 + c by omega]; exact this, h7⟩, h8, h10, h11⟩
  · obtain ⟨n, h1, h2, _, h3, h4⟩ := h; exact ⟨n, h1, h2, h3, h4⟩
  · obtain ⟨n, h1, h2, _, h3, h4⟩ := h; exact ⟨n, h1, h2, h3, h4⟩
  · obtain ⟨n, h1, h2, _, h3, h4⟩ := h; exact ⟨n, h1, h2, h3, h4⟩
  · obtain ⟨n, h1, h2, _, h3, h4⟩ := h; exact ⟨n, h1, h2, h3, h4⟩
  · exact h.2
/-- all that is told, the class's places G, the reference's g -/
def SIMf (G : Nat → Nat → Int32) (g : Nat → Int32) : Prop := (G 0 1 = g 6 ∧ G 0 2 = g 7 ∧ G 0 3 = g 8) ∧ (∀ j, j < 600 → G 1 j = g (10 + j) ∧ 0 ≤ g (10 + j)) ∧ (∀ k, k < 6 → G 2 k = g k) ∧ ∀ k i n, k < 6 → i < 2 → g k = nI n → n ≤ 2 → i < n → KEQ k (fun e j => G (CPK k i + e) j) (fun j => g (PLK k i + j))
def SIM1 (s : SG) (B o : Nat) : Prop := SIMf (fun c j => s (B + c) j) (fun j => s 65 (o + j))
theorem PLK_0 {j : Nat} : PLK 0 j = 610 + 118 * j := rfl
theorem SZK_0 : SZK 0 = 118 := rfl
theorem PLK_1 {j : Nat} : PLK 1 j = 846 + 41 * j := rfl
theorem SZK_1 : SZK 1 = 41 := rfl
theorem PLK_2 {j : Nat} : PLK 2 j = 928 + 201 * j := rfl
theorem SZK_2 : SZK 2 = 201 := rfl
theorem PLK_3 {j : Nat} : PLK 3 j = 1330 + 17 * j := rfl
theorem SZK_3 : SZK 3 = 17 := rfl
theorem PLK_4 {j : Nat} : PLK 4 j = 1364 + 33 * j := rfl
theorem SZK_4 : SZK 4 = 33 := rfl
theorem PLK_5 {j : Nat} : PLK 5 j = 1430 + 6 * j := rfl
theorem SZK_5 : SZK 5 = 6 := rfl
theorem PLK_in {k i : Nat} (hk : k < 6) (hi : i < 2) : 610 ≤ PLK k i ∧ PLK k i + SZK k ≤ 1442 := by
  rcases (by omega : k = 0 ∨ k = 1 ∨ k = 2 ∨ k = 3 ∨ k = 4 ∨ k = 5) with rfl | rfl | rfl | rfl | rfl | rfl <;> (simp only [PLK_0, SZK_0, PLK_1, SZK_1, PLK_2, SZK_2, PLK_3, SZK_3, PLK_4, SZK_4, PLK_5, SZK_5]; omega)
theorem PLK_dis : ∀ k, k < 6 → ∀ k2, k2 < 6 → ∀ i, i < 2 → ∀ i2, i2 < 2 → ¬ (k = k2 ∧ i = i2) → PLK k i + SZK k ≤ PLK k2 i2 ∨ PLK k2 i2 + SZK k2 ≤ PLK k i := by 
  intro k hk k2 hk2 i hi i2 hi2 h
  rcases (by omega : k = 0 ∨ k = 1 ∨ k = 2 ∨ k = 3 ∨ k = 4 ∨ k = 5) with rfl | rfl | rfl | rfl | rfl | rfl <;> rcases (by omega : k2 = 0 ∨ k2 = 1 ∨ k2 = 2 ∨ k2 = 3 ∨ k2 = 4 ∨ k2 = 5) with rfl | rfl | rfl | rfl | rfl | rfl <;> (simp only [PLK_0, SZK_0, PLK_1, SZK_1, PLK_2, SZK_2, PLK_3, SZK_3, PLK_4, SZK_4, PLK_5, SZK_5]; omega)
theorem CPK_tD {k i e j : Nat} (hk : k < 6) (hi : i < 2) (h : KDD k e j) : tD (CPK k i + e) j := by
  cases k with
  | zero => exact Or.inr (Or.inr (Or.inr (Or.inl ⟨i, e, hi, h.1, rfl, h.2⟩)))
  | succ k => exact Or.inr (Or.inr (Or.inr (Or.inr ⟨k * 2 + i, e, by omega, h.1, rfl, h.2⟩)))
theorem SIMf_g {G G2 : Nat → Nat → Int32} {g g2 : Nat → Int32} (e1 : ∀ c j, tD c j → G2 c j = G c j) (e2 : ∀ j, j < 1442 → g2 j = g j) (h : SIMf G g) : SIMf G2 g2 := by
  obtain ⟨⟨h1, h2, h3⟩, h4, h5, h6⟩ := h
  refine ⟨⟨?_, ?_, ?_⟩, fun j hj => ?_, fun k hk => ?_, fun k i n hk hi en hn hin => ?_⟩
  · rw [e1 0 1 (Or.inl ⟨rfl, by omega, by omega⟩), e2 6 (by omega)]; exact h1
  · rw [e1 0 2 (Or.inl ⟨rfl, by omega, by omega⟩), e2 7 (by omega)]; exact h2
  · rw [e1 0 3 (Or.inl ⟨rfl, by omega, by omega⟩), e2 8 (by omega)]; exact h3
  · rw [e1 1 j (Or.inr (Or.inl ⟨rfl, hj⟩)), e2 _ (by omega)]; exact h4 j hj
  · rw [e1 2 k (Or.inr (Or.inr (Or.inl ⟨rfl, hk⟩))), e2 _ (by omega)]; exact h5 k hk
  · rw [e2 k (by omega)] at en
    have pl := PLK_in hk hi
    exact KEQ_g hk (fun e j hd => e1 _ j (CPK_tD hk hi hd)) (fun j hj => e2 _ (by omega)) (h6 k i n hk hi en hn hin)
theorem SIM_loc : wLoc SIM1 := by
  intro s t B B2 o o2 hc hj h
  exact SIMf_g (G := fun c j => s (B + c) j) (g := fun j => s 65 (o + j)) hc hj h
/-! where the class keeps a text -/
theorem kep_k {i : Nat} (hi : i < 2) : kepO (nI i) = some (6 + 8 * i) := by
  rcases (by omega : i = 0 ∨ i = 1) with rfl | rfl <;> rfl
theorem rkp_k {k i : Nat} (hk : k < 5) (hi : i < 2) : rkpO ((nI (k + 1) - 1) * 2 + nI i) = some (22 + 2 * (k * 2 + i)) := by
  have e : (nI (k + 1) - 1) * 2 + nI i = nI (k * 2 + i) := by
    rw [show nI (k + 1) - 1 = nI k from nI_subn (a := k + 1) (b := 1) (by omega), show (2 : Int32) = nI 2 from rfl, nI_mulx, nI_add]
  rw [e]
  unfold rkpO
  rw [if_neg (nI_pos (by omega)), if_neg (show ¬ (10 : Int32) ≤ nI (k * 2 + i) from nI_ge (b := 10) (by omega) (by decide)), nI_clamp (by omega), if_pos (by omega)]
theorem kee1_a {s : SG} {k i e j : Nat} (hk : k < 6) (hi : i < 2) (h : KDD k e j) : kee1 s (nI k) (nI i) (1 + CPK k i + e) j = s (CK k + e) j := by
  unfold kee1
  cases k with
  | zero =>
    rw [if_pos (show nI 0 = 0 from rfl), kep_k hi]
    show cprS s (6 + 8 * i) 44 (1 + (5 + 8 * i) + e) j = s (44 + e) j
    rw [show 1 + (5 + 8 * i) + e = 6 + 8 * i + e by omega]
    exact cprS_e (by omega) h.2
  | succ k =>
    rw [if_neg (show ¬ nI (k + 1) = 0 from fun q => absurd (nI_inj (b := 0) (by omega) (by decide) q) (by omega)), rkp_k (by omega) hi]
    show cpwS s (22 + 2 * (k * 2 + i)) 52 (1 + (21 + 2 * (k * 2 + i)) + e) j = s (52 + e) j
    rw [show 1 + (21 + 2 * (k * 2 + i)) + e = 22 + 2 * (k * 2 + i) + e by omega]
    exact cpwS_e (by omega) h.2
theorem CPK_dis {k k2 i i2 e e2 : Nat} (hk : k < 6) (hk2 : k2 < 6) (hi : i < 2) (hi2 : i2 < 2) (n : ¬ (k = k2 ∧ i = i2)) (he : e < (if k = 0 then 8 else 2)) (he2 : e2 < (if k2 = 0 then 8 else 2)) : CPK k i + e ≠ CPK k2 i2 + e2 := by
  cases k with
  | zero =>
    rw [if_pos rfl] at he
    cases k2 with
    | zero => rw [if_pos rfl] at he2; unfold CPK; (try dsimp only); omega
    | succ k2 => rw [if_neg (by omega)] at he2; unfold CPK; (try dsimp only); omega
  | succ k =>
    rw [if_neg (by omega)] at he
    cases k2 with
    | zero => rw [if_pos rfl] at he2; unfold CPK; (try dsimp only); omega
    | succ k2 => rw [if_neg (by omega)] at he2; unfold CPK; (try dsimp only); omega
theorem kee1_b {s : SG} {k i c : Nat} (hk : k < 6) (hi : i < 2) (h : ∀ e, e < (if k = 0 then 8 else 2) → c ≠ 1 + CPK k i + e) : kee1 s (nI k) (nI i) c = s c := by
  unfold kee1
  cases k with
  | zero =>
    rw [if_pos (show nI 0 = 0 from rfl), kep_k hi]
    rw [if_pos rfl] at h
    show cprS s (6 + 8 * i) 44 c = s c
    refine cprS_n ?_
    by_cases g : c < 6 + 8 * i
    · exact Or.inl g
    · refine Or.inr (Decidable.byContradiction (fun g2 => ?_))
      refine h (c - (6 + 8 * i)) (by omega) ?_
      show c = 1 + (5 + 8 * i) + (c - (6 + 8 * i))
      omega
  | succ k =>
    rw [if_neg (show ¬ nI (k + 1) = 0 from fun q => absurd (nI_inj (b := 0) (by omega) (by decide) q) (by omega)), rkp_k (by omega) hi]
    rw [if_neg (by omega)] at h
    show cpwS s (22 + 2 * (k * 2 + i)) 52 c = s c
    refine cpwS_n ?_
    by_cases g : c < 22 + 2 * (k * 2 + i)
    · exact Or.inl g
    · refine Or.inr (Decidable.byContradiction (fun g2 => ?_))
      refine h (c - (22 + 2 * (k * 2 + i))) (by omega) ?_
      show c = 1 + (21 + 2 * (k * 2 + i)) + (c - (22 + 2 * (k * 2 + i)))
      omega
end XTU
end
section
section XTV
variable {sc : Nat × (Nat → Int32)} {d : Nat} {K : List KD} {r q t a B m : Nat} {w : EW}
/-! a text keeps what is told the same on both sides -/
def SIMn (s : SG) : Prop := (s 1 1 = s 65 6 ∧ s 1 2 = s 65 7 ∧ s 1 3 = s 65 8) ∧ (∀ j, j < 600 → s 2 j = s 65 (10 + j) ∧ 0 ≤ s 65 (10 + j)) ∧ (∀ k, k < 6 → s 3 k = s 65 k) ∧ ∀ k i n, k < 6 → i < 2 → s 65 k = nI n → n ≤ 2 → i < n → KEQ k (fun e j => s (1 + (CPK k i + e)) j) (fun j => s 65 (PLK k i + j))
theorem SIM_n {s : SG} : SIM1 s 1 0 ↔ SIMn s := by
  have e : (fun j => s 65 (0 + j)) = s 65 := funext (fun j => by rw [Nat.zero_add])
  unfold SIM1
  rw [e]
  exact Iff.rfl
/-- a call that changes lengths and faults alone -/
theorem SIM_fr {s w : SG} (h : SIMn s) (fr : ∀ c, 2 ≤ c → c < 42 → w c = s c) (h1 : w 1 1 = w 65 6 ∧ w 1 2 = w 65 7 ∧ w 1 3 = w 65 8) (f65 : ∀ j, j ≠ 6 → j ≠ 7 → j ≠ 8 → w 65 j = s 65 j) : SIMn w := by
  obtain ⟨_, h4, h5, h6⟩ := h
  refine ⟨h1, fun j hj => ?_, fun k hk => ?_, fun k i n hk hi en hn hin => ?_⟩
  · rw [fr 2 (by omega) (by omega), f65 (10 + j) (by omega) (by omega) (by omega)]; exact h4 j hj
  · rw [fr 3 (by omega) (by omega), f65 k (by omega) (by omega) (by omega)]; exact h5 k hk
  · rw [f65 k (by omega) (by omega) (by omega)] at en
    have pl := PLK_in hk hi
    refine KEQ_g hk (fun e j hd => ?_) (fun j _ => f65 _ (by omega) (by omega) (by omega)) (h6 k i n hk hi en hn hin)
    have c41 := tD_c (CPK_tD hk hi hd)
    have c5 : 5 ≤ CPK k i := by
      cases k with
      | zero => unfold CPK; (try dsimp only); omega
      | succ k => unfold CPK; (try dsimp only); omega
    show w (1 + (CPK k i + e)) j = s (1 + (CPK k i + e)) j
    rw [fr _ (by omega) (by omega)]
theorem KD_e {k e j : Nat} (h : KDD k e j) : e < (if k = 0 then 8 else 2) := by
  cases k with
  | zero => exact h.1
  | succ k => rw [if_neg (by omega)]; exact h.1
theorem iz_n {n : Nat} {x : Int32} (hn : n ≤ 2) : inI x 0 (nI n - 1) = 0 ↔ (x < 0 ∨ nI n ≤ x) := by
  have q : nI n - 1 < x ↔ nI n ≤ x := by
    rcases (by omega : n = 0 ∨ n = 1 ∨ n = 2) with rfl | rfl | rfl
    · rw [Int32.lt_iff_toInt_lt, Int32.le_iff_toInt_le]
      have e1 : (nI 0 - 1 : Int32).toInt = -1 := by decide
      have e2 : (nI 0 : Int32).toInt = 0 := by decide
      omega
    · rw [Int32.lt_iff_toInt_lt, Int32.le_iff_toInt_le]
      have e1 : (nI 1 - 1 : Int32).toInt = 0 := by decide
      have e2 : (nI 1 : Int32).toInt = 1 := by decide
      omega
    · rw [Int32.lt_iff_toInt_lt, Int32.le_iff_toInt_le]
      have e1 : (nI 2 - 1 : Int32).toInt = 1 := by decide
      have e2 : (nI 2 : Int32).toInt = 2 := by decide
      omega
  unfold inI
  by_cases c : x < 0
  · rw [if_pos c]; exact ⟨fun _ => Or.inl c, fun _ => rfl⟩
  · rw [if_neg c]
    by_cases c2 : nI n - 1 < x
    · rw [if_pos c2]; exact ⟨fun _ => Or.inr (q.1 c2), fun _ => rfl⟩
    · rw [if_neg c2]
      exact ⟨fun h => absurd h (by decide), fun h => h.elim (fun g => absurd g c) (fun g => absurd (q.2 g) c2)⟩
theorem inI5_n {x : Int32} : inI x 0 5 = 0 ↔ (x < 0 ∨ ¬ x < 6) := by
  have q : 5 < x ↔ ¬ x < 6 := by
    rw [Int32.lt_iff_toInt_lt, Int32.lt_iff_toInt_lt]
    have e1 : (5 : Int32).toInt = 5 := by decide
    have e2 : (6 : Int32).toInt = 6 := by decide
    omega
  unfold inI
  by_cases c : x < 0
  · rw [if_pos c]; exact ⟨fun _ => Or.inl c, fun _ => rfl⟩
  · rw [if_neg c]
    by_cases c2 : 5 < x
    · rw [if_pos c2]; exact ⟨fun _ => Or.inr (q.1 c2), fun _ => rfl⟩
    · rw [if_neg c2]
      exact ⟨fun h => absurd h (by decide), fun h => h.elim (fun g => absurd g c) (fun g => absurd (q.2 g) c2)⟩
/-- what is told after a text that was taken -/
theorem SIM_ok {s p2 U v : SG} {k n j l : Nat} {x2 : Int32} (h : SIMn s) (hk : k < 6) (hj : j < 2) (en : s 65 k = nI n) (hn : n ≤ 2) (hjn : (n = j) ∨ j < n) (hv : RK k U v) (eU : ∀ c, c < 42 → c ≠ 1 → U c = s c)
    (e1 : p2 1 1 = p2 65 6 ∧ p2 1 2 = p2 65 7 ∧ p2 1 3 = p2 65 8) (e2 : ∀ c, 2 ≤ c → c < 42 → p2 c = keeS U (nI k) (nI j) c) (f65 : ∀ x, x ≠ 6 → x ≠ 7 → x ≠ 8 → x ≠ k → (x < PLK k j ∨ PLK k j + SZK k ≤ x) → p2 65 x = s 65 x) (fk : p2 65 k = nI (if n = j then j + 1 else n)) (fS : ∀ x, x < SZK k → p2 65 (PLK k j + x) = v 67 x) : SIMn p2 := by
  obtain ⟨_, h4, h5, h6⟩ := h
  have plj := PLK_in hk hj
  have kc : ∀ c, c ≠ 3 → keeS U (nI k) (nI j) c = kee1 U (nI k) (nI j) c := fun c hc => by unfold keeS; exact pt_n hc
  have k3 : kee1 U (nI k) (nI j) 3 = s 3 := by
    rw [kee1_b hk hj (fun e _ => ?_), eU 3 (by omega) (by omega)]
    cases k with
    | zero => unfold CPK; (try dsimp only); omega
    | succ k => unfold CPK; (try dsimp only); omega
  have e3k : cl 6 (s 3) (nI k) = nI n := by rw [cl_nI hk (by decide), h5 k hk, en]
  refine ⟨e1, fun i hi => ?_, fun i hi => ?_, fun k2 i n2 hk2 hi en2 hn2 hin => ?_⟩
  · rw [e2 2 (by omega) (by omega), kc 2 (by omega), kee1_b hk hj (fun e _ => ?_), eU 2 (by omega) (by omega), f65 (10 + i) (by omega) (by omega) (by omega) (by omega) (by omega)]
    · exact h4 i hi
    · cases k with
      | zero => unfold CPK; (try dsimp only); omega
      | succ k => unfold CPK; (try dsimp only); omega
  · rw [e2 3 (by omega) (by omega)]
    unfold keeS
    rw [pt_e hk (by decide), k3, e3k]
    by_cases q : i = k
    · subst q
      rw [up_a, fk, show (nI j + 1 : Int32) = nI (j + 1) from (nI_succ j).symm]
      by_cases g : n = j
      · rw [if_pos g, if_pos]
        rw [g]; exact nI_lt2 (by omega) (by omega)
      · rw [if_neg g, if_neg]
        exact Int32.not_lt.mpr (nI_le2 (by omega) (by omega))
    · rw [up_bn q, k3, f65 i (by omega) (by omega) (by omega) q (by omega)]; exact h5 i hi
  · have pl := PLK_in hk2 hi
    by_cases q : k2 = k ∧ i = j
    · obtain ⟨rfl, rfl⟩ := q
      refine KEQ_g hk (fun e x hd => ?_) (fun x hx => fS x hx) (KEQ_R hk hv)
      have c41 := tD_c (CPK_tD hk hi hd)
      have c5 : 5 ≤ CPK k2 i := by
        cases k2 with
        | zero => unfold CPK; (try dsimp only); omega
        | succ k => unfold CPK; (try dsimp only); omega
      show p2 (1 + (CPK k2 i + e)) x = U (CK k2 + e) x
      rw [e2 _ (by omega) (by omega), kc _ (by omega), ← Nat.add_assoc]
      exact kee1_a hk hi hd
    · have dis := PLK_dis k hk k2 hk2 j hj i hi (fun g => q ⟨g.1.symm, g.2.symm⟩)
      have old : ∃ n3, s 65 k2 = nI n3 ∧ n3 ≤ 2 ∧ i < n3 := by
        by_cases g : k2 = k
        · subst g
          rw [fk] at en2
          have e : (if n = j then j + 1 else n) = n2 := nI_inj (by split <;> omega) (by omega) en2
          refine ⟨n, en, hn, ?_⟩
          by_cases g2 : n = j
          · rw [if_pos g2] at e; omega
          · rw [if_neg g2] at e; omega
        · rw [f65 k2 (by omega) (by omega) (by omega) g (by omega)] at en2
          exact ⟨n2, en2, hn2, hin⟩
      obtain ⟨n3, g1, g2, g3⟩ := old
      refine KEQ_g hk2 (fun e x hd => ?_) (fun x hx => f65 _ (by omega) (by omega) (by omega) (by omega) (by omega)) (h6 k2 i n3 hk2 hi g1 g2 g3)
      have c41 := tD_c (CPK_tD hk2 hi hd)
      have c5 : 5 ≤ CPK k2 i := by
        cases k2 with
        | zero => unfold CPK; (try dsimp only); omega
        | succ k => unfold CPK; (try dsimp only); omega
      show p2 (1 + (CPK k2 i + e)) x = s (1 + (CPK k2 i + e)) x
      rw [e2 _ (by omega) (by omega), kc _ (by omega), kee1_b hk hj (fun e2 he2 => ?_), eU _ (by omega) (by omega)]
      have := CPK_dis hk2 hk hi hj q (KD_e hd) he2
      omega
/-- off the cells it speaks of, a told thing hangs on nothing -/
theorem RK_g {k : Nat} {u u2 v : SG} (h : RK k u v) (e : ∀ c, 43 ≤ c → c ≤ 53 → u2 c = u c) : RK k u2 v := by
  have e43 := e 43 (by omega) (by omega)
  have e52 := e 52 (by omega) (by omega)
  have e53 := e 53 (by omega) (by omega)
  have rw_ : ∀ {c N : Nat}, RWS c N u v → RWS c N u2 v := fun {c N} h => by unfold RWS; rw [e43, e52, e53]; exact h
  match k, h with
  | 0, h =>
    obtain ⟨n, V, T, rp⟩ := h
    exact ⟨n, V, T, RPA_g rp (fun c h1 h2 => e c (by omega) (by omega)) (by rw [e43]) (by rw [e43]) rfl rfl⟩
  | 1, h => exact rw_ h
  | 2, h => exact rw_ h
  | 3, h => exact rw_ h
  | 4, h => exact rw_ h
  | k + 5, h =>
    show BGS u2 v
    have h : BGS u v := h
    unfold BGS
    rw [e43, e53]; exact h
theorem cp_a' {n : Nat} {s : SG} {e k j : Nat} (h : j < n) : cpS n s e k k j = s e j := cp_a h
theorem TX_sim {s : SG} {x1 x2 : Int32} {p : Int32 × SG} (tb : TB s 1) (r : RI s) (h0 : SIM1 s 1 0) (e : Rtext (texP s x1 x2).2 x1 x2 = some p) : (texP s x1 x2).1 = p.1 ∧ SIM1 p.2 1 0 := by
  have h := SIM_n.1 h0
  obtain ⟨l, el, hl⟩ := TB_l tb
  obtain ⟨⟨H1, H2, H3⟩, H4, H5, H6⟩ := id h
  have els : le s = l := by unfold le; rw [el, nI_clamp (by omega)]
  have l0 : (texP s x1 x2).2 1 1 = 0 := texP_l
  have c65 : (texP s x1 x2).2 65 = s 65 := texP_n (by omega)
  obtain ⟨s1, es1⟩ : ∃ s1, s1 = (texP s x1 x2).2 := ⟨_, rfl⟩
  rw [← es1] at e l0 c65
  obtain ⟨t, et⟩ : ∃ t, t = up (up (up (up s1 64 2 (nI l)) 65 6 0) 65 7 0) 65 8 (-1) := ⟨_, rfl⟩
  have T65 : ∀ j, j ≠ 6 → j ≠ 7 → j ≠ 8 → t 65 j = s 65 j := fun j a b c => by rw [et, up_bn c, up_bn b, up_bn a, up_n (by decide), c65]
  have T6 : t 65 6 = 0 := by rw [et, up_bn (by decide), up_bn (by decide), up_a]
  have T7 : t 65 7 = 0 := by rw [et, up_bn (by decide), up_a]
  have T8 : t 65 8 = -1 := by rw [et, up_a]
  have T2 : t 64 2 = nI l := by rw [et, up_n (by decide), up_n (by decide), up_n (by decide), up_a]
  have Tc : ∀ c, c ≠ 64 → c ≠ 65 → t c = s1 c := fun c a b => by rw [et, up_n b, up_n b, up_n b, up_n a]
  have key : Rtext s1 x1 x2 = (if inI x1 0 5 = 0 then some (-2, t) else if x2 = -1 then ((rdI t 65 5768 x1).bind fun g5 => if g5 < 2 then Rtext_74 (Rtext_R xF).1 (Rtext_R xF).2 t x1 x2 else some (-2, t)) else (RisOf t x1 x2).bind fun q6 => if q6 = 0 then some (-2, t) else Rtext_74 (Rtext_R xF).1 (Rtext_R xF).2 t x1 x2) := by
    unfold Rtext
    rw [rd_nI (x := 6) (e := 6) rfl (by decide) (by decide), c65, ← H1, el, Option.bind_some, wr_nI (x := 6) (e := 6) rfl (by decide) (by decide), Option.bind_some, wr_nI (x := 7) (e := 7) rfl (by decide) (by decide), Option.bind_some, wr_nI (x := 8) (e := 8) rfl (by decide) (by decide), Option.bind_some, et]
  rw [key] at e
  -- neither takes the text
  have none : plaI s x1 x2 = -1 → p = (-2, t) → (texP s x1 x2).1 = p.1 ∧ SIM1 p.2 1 0 := by
    intro c ep
    have x : texP s x1 x2 = (-2, txt1 s) := by unfold texP; rw [if_pos c]
    rw [ep, x]
    have s1e : s1 = txt1 s := by rw [es1, x]
    refine ⟨rfl, SIM_n.2 (SIM_fr h (fun c h2 h3 => ?_) ⟨?_, ?_, ?_⟩ T65)⟩
    · show t c = s c
      rw [Tc c (by omega) (by omega), s1e]
      unfold txt1
      rw [up_n (by omega), up_n (by omega), up_n (by omega)]
    · show t 1 1 = t 65 6
      rw [Tc 1 (by omega) (by omega), l0, T6]
    · show t 1 2 = t 65 7
      rw [Tc 1 (by omega) (by omega), s1e, T7]
      unfold txt1
      rw [up_bn (by decide), up_a]
    · show t 1 3 = t 65 8
      rw [Tc 1 (by omega) (by omega), s1e, T8]
      unfold txt1
      rw [up_a]
  by_cases c5 : inI x1 0 5 = 0
  · rw [if_pos c5] at e
    refine none ?_ (Option.some.inj e).symm
    unfold plaI
    rcases inI5_n.1 c5 with g | g
    · rw [if_pos g]
    · rw [if_neg g]; split <;> rfl
  rw [if_neg c5] at e
  obtain ⟨k, ek, hk5⟩ := inI_nI (b := 5) (by decide) c5
  have hk : k < 6 := by omega
  obtain ⟨n, en, hn⟩ := r.1.1 k hk
  have t65k : t 65 k = nI n := by rw [T65 k (by omega) (by omega) (by omega)]; exact en
  have pla : plaI s x1 x2 = if x2 = -1 then (if 2 ≤ nI n then -1 else nI n) else if x2 < 0 then -1 else if nI n ≤ x2 then -1 else x2 := by
    unfold plaI
    rw [ek, if_neg (nI_pos (by omega)), if_pos (show nI k < 6 from nI_lt2 (b := 6) hk (by decide)), cl_nI hk (by decide), H5 k hk, en]
  -- both read the text
  have go : ∀ j, j < 2 → plaI s x1 x2 = nI j → (n = j ∨ j < n) → (x2 = -1 → n = j) → (¬ x2 = -1 → j < n) → TY x2 k t → Rtext_74 (Rtext_R xF).1 (Rtext_R xF).2 t x1 x2 = some p → (texP s x1 x2).1 = p.1 ∧ SIM1 p.2 1 0 := by
    intro j hj pj hjn hm1 hm2 ty e74
    have npl : ¬ plaI s x1 x2 = -1 := by rw [pj]; exact nI_n1 (by omega)
    have pe := text_k (f := fun j => s 65 (10 + j)) (L := l) (c0 := cpS 600 (txt1 s) 2 54) hk ek T2 hl ty (fun j hj => T65 _ (by omega) (by omega) (by omega)) (fun j hj => (H4 j (by omega)).2) T7 T8 (fun j hj => by
      rw [cp_a' (by omega)]
      unfold txt1
      rw [up_n (by decide), up_n (by decide), up_n (by decide)]; exact (H4 j (by omega)).1) p e74
    have eU : redS (txt1 s) 2 (le s) x1 = redL x1 600 (sonS (cpS 600 (txt1 s) 2 54) l) 1 := by rw [els]; rfl
    rw [← eU] at pe
    have t2 : txt2 s x1 = up (up (redS (txt1 s) 2 (le s) x1) 1 2 (redS (txt1 s) 2 (le s) x1 43 2)) 1 3 (redS (txt1 s) 2 (le s) x1 43 3) := rfl
    have t43 : txt2 s x1 43 2 = redS (txt1 s) 2 (le s) x1 43 2 := by rw [t2, up_n (by decide), up_n (by decide)]
    have t12 : txt2 s x1 1 2 = redS (txt1 s) 2 (le s) x1 43 2 := by rw [t2, up_bn (by decide), up_a]
    have t13 : txt2 s x1 1 3 = redS (txt1 s) 2 (le s) x1 43 3 := by rw [t2, up_a]
    rcases pe with ⟨n7, p1, u2, u3, fr⟩ | ⟨z7, z8, u2, u3, j2, v, hj2, p1, cnt, rk, fc, fx, fS⟩
    · have x : texP s x1 x2 = (-1, txt2 s x1) := by
        unfold texP
        rw [if_neg npl, if_neg (by rw [t43, u2]; exact n7)]
      have s1e : s1 = txt2 s x1 := by rw [es1, x]
      refine ⟨by rw [x, p1], SIM_n.2 (SIM_fr h (fun c h2 h3 => ?_) ⟨?_, ?_, ?_⟩ (fun j a b c => ?_))⟩
      · rw [fr.2 c (by omega) (by omega) (by omega), Tc c (by omega) (by omega), s1e]
        exact txt2_n (by omega) (by omega)
      · rw [fr.2 1 (by omega) (by omega) (by omega), Tc 1 (by omega) (by omega), l0, fr.1 6 (by omega) (by omega), T6]
      · rw [fr.2 1 (by omega) (by omega) (by omega), Tc 1 (by omega) (by omega), s1e, t12]; exact u2
      · rw [fr.2 1 (by omega) (by omega) (by omega), Tc 1 (by omega) (by omega), s1e, t13]; exact u3
      · rw [fr.1 j b c, T65 j a b c]
    · have x : texP s x1 x2 = (plaI s x1 x2, keeS (txt2 s x1) x1 (plaI s x1 x2)) := by
        unfold texP
        rw [if_neg npl, if_pos (by rw [t43]; exact u2)]
      have s1e : s1 = keeS (txt2 s x1) (nI k) (nI j) := by rw [es1, x, pj, ek]
      have ej : j2 = j := by
        rcases cnt with ⟨g1, g2, _⟩ | ⟨g1, g2, _⟩
        · rw [t65k] at g2
          have := nI_inj (by omega) (by omega) g2
          have := hm1 g1
          omega
        · rw [pla, if_neg g1, g2] at pj
          have g3 : ¬ nI j2 < 0 := nI_pos (by omega)
          rw [if_neg g3] at pj
          by_cases g4 : nI n ≤ nI j2
          · rw [if_pos g4] at pj; exact absurd pj.symm (nI_n1 (by omega))
          · rw [if_neg g4] at pj; exact nI_inj (by omega) (by omega) pj
      subst ej
      have fk : p.2 65 k = nI (if n = j2 then j2 + 1 else n) := by
        rcases cnt with ⟨g1, _, g3⟩ | ⟨g1, _, g3⟩
        · rw [if_pos (hm1 g1)]; exact g3
        · have := hm2 g1
          rw [if_neg (by omega), g3, t65k]
      have k5 : keeS (txt2 s x1) (nI k) (nI j2) 1 = txt2 s x1 1 := keeS_n (by omega)
      refine ⟨by rw [x, pj, p1], SIM_n.2 (SIM_ok (U := txt2 s x1) (v := v) (l := l) (x2 := x2) h hk hj en hn hjn ?_ (fun c h1 h2 => txt2_n h2 (by omega)) ⟨?_, ?_, ?_⟩ (fun c h1 h2 => by rw [fc c (by omega) (by omega) (by omega), Tc c (by omega) (by omega), s1e]) (fun x a b c g1 g2 => by rw [fx x b c g1 g2, T65 x a b c]) fk fS)⟩
      · exact RK_g rk (fun c h1 h2 => by rw [t2, up_n (by omega), up_n (by omega)])
      · have pl := PLK_in hk hj
        rw [fc 1 (by omega) (by omega) (by omega), Tc 1 (by omega) (by omega), l0, fx 6 (by omega) (by omega) (by omega) (by omega), T6]
      · rw [fc 1 (by omega) (by omega) (by omega), Tc 1 (by omega) (by omega), s1e, k5, t12, u2, z7]
      · rw [fc 1 (by omega) (by omega) (by omega), Tc 1 (by omega) (by omega), s1e, k5, t13, u3, z8]
  by_cases c1 : x2 = -1
  · rw [if_pos c1, rd_nI ek (by omega) (by decide)] at e
    replace e : (if t 65 k < 2 then Rtext_74 (Rtext_R xF).1 (Rtext_R xF).2 t x1 x2 else some (-2, t)) = some p := e
    rw [t65k] at e
    rw [if_pos c1] at pla
    by_cases c2 : nI n < 2
    · rw [if_pos c2] at e
      rw [if_neg (Int32.not_le.mpr c2)] at pla
      have n2 : n < 2 := by
        rw [Int32.lt_iff_toInt_lt, nI_toInt (by omega)] at c2
        have : (2 : Int32).toInt = 2 := by decide
        omega
      exact go n n2 pla (Or.inl rfl) (fun _ => rfl) (fun g => absurd c1 g) (Or.inl ⟨c1, n, t65k, n2⟩) e
    · rw [if_neg c2] at e
      rw [if_pos (Int32.not_lt.mp c2)] at pla
      exact none pla (Option.some.inj e).symm
  · have is : RisOf t x1 x2 = some (inI x2 0 (nI n - 1)) := by
      unfold RisOf
      rw [rd_nI ek (by omega) (by decide), t65k]; rfl
    rw [if_neg c1, is] at e
    replace e : (if inI x2 0 (nI n - 1) = 0 then some (-2, t) else Rtext_74 (Rtext_R xF).1 (Rtext_R xF).2 t x1 x2) = some p := e
    rw [if_neg c1] at pla
    by_cases c2 : inI x2 0 (nI n - 1) = 0
    · rw [if_pos c2] at e
      refine none ?_ (Option.some.inj e).symm
      rw [pla]
      rcases (iz_n hn).1 c2 with g | g
      · rw [if_pos g]
      · rw [if_pos g]; split <;> rfl
    · rw [if_neg c2] at e
      have g1 : ¬ x2 < 0 := fun g => c2 ((iz_n hn).2 (Or.inl g))
      have g2 : ¬ nI n ≤ x2 := fun g => c2 ((iz_n hn).2 (Or.inr g))
      rw [if_neg g1, if_neg g2] at pla
      obtain ⟨j, hjn, ej⟩ := nat_of g1 (Int32.not_le.mp g2) (by omega)
      exact go j (by omega) (pla.trans ej) (Or.inr hjn) (fun g => absurd g c1) (fun _ => hjn) (Or.inr ⟨c1, j, ej, by omega⟩) e
end XTV
end
section
section XTW
variable {sc : Nat × (Nat → Int32)} {d : Nat} {K : List KD} {r q t a B m : Nat} {w : EW}
/-! the tape: its bytes on both sides -/
theorem and_nn (y : Int32) : 0 ≤ y &&& 255 := by
  have hm : (y &&& 255).toBitVec.msb = false := by
    rw [Int32.toBitVec_and, BitVec.msb_and, show (255 : Int32).toBitVec.msb = false by decide, Bool.and_false]
  rw [Int32.le_iff_toInt_le]
  show (0 : Int) ≤ (y &&& 255).toBitVec.toInt
  rw [BitVec.toInt_eq_toNat_of_msb hm]
  exact Int.natCast_nonneg _
theorem byt_n {x k : Int32} {n : Nat} (hn : n ≤ 24) (e1 : (x >>> k).toBitVec = x.toBitVec.sshiftRight n) (e2 : ((Int32.toUInt32 x >>> (Int32.toUInt32 k &&& Int32.toUInt32 31)).toInt32).toBitVec = x.toBitVec >>> n) : (x >>> k) &&& 255 = bytI x k := by
  unfold bytI
  refine Int32.toBitVec_inj.mp (BitVec.eq_of_getLsbD_eq (fun i hi => ?_))
  rw [Int32.toBitVec_and, Int32.toBitVec_and, e1, e2, BitVec.getLsbD_and, BitVec.getLsbD_and]
  by_cases c : i < 8
  · rw [BitVec.getLsbD_sshiftRight, BitVec.getLsbD_ushiftRight, if_pos (by omega), show decide (32 ≤ i) = false from decide_eq_false (by omega)]
    rfl
  · have z : ∀ i, i < 32 → ¬ i < 8 → (255 : Int32).toBitVec.getLsbD i = false := by decide
    rw [z i hi c, Bool.and_false, Bool.and_false]
theorem byt_k (x : Int32) : ∀ j, j < 4 → (x >>> nI (24 - 8 * j)) &&& 255 = bytI x (nI (24 - 8 * j)) := by
  intro j hj
  rcases (by omega : j = 0 ∨ j = 1 ∨ j = 2 ∨ j = 3) with rfl | rfl | rfl | rfl
  · exact byt_n (n := 24) (by omega) (by rw [Int32.toBitVec_shiftRight]; rfl) rfl
  · exact byt_n (n := 16) (by omega) (by rw [Int32.toBitVec_shiftRight]; rfl) rfl
  · exact byt_n (n := 8) (by omega) (by rw [Int32.toBitVec_shiftRight]; rfl) rfl
  · exact byt_n (n := 0) (by omega) (by rw [Int32.toBitVec_shiftRight]; rfl) rfl
def bF (v : Int32) (j : Nat) : Int32 := (v >>> ((24 - (8 * (nI j - nI j / 4 * 4))) &&& 31)) &&& 255
theorem bF_s : ∀ j, j < 20 → ((24 - (8 * (nI j - nI j / 4 * 4))) &&& 31 : Int32) = nI (24 - 8 * (j % 4)) := by decide
theorem bF_e {v : Int32} {j : Nat} (hj : j < 20) : bF v j = bytI v (nI (24 - 8 * (j % 4))) := by
  unfold bF
  rw [bF_s j hj]
  exact byt_k v (j % 4) (Nat.mod_lt _ (by omega))
section FD
variable {y1 y2 y3 y4 y5 : Int32}
def wdv (y1 y2 y3 y4 y5 : Int32) (j : Nat) : Int32 := if 4 ≤ j then (if 8 ≤ j then (if 12 ≤ j then (if 16 ≤ j then y5 else y4) else y3) else y2) else y1
def bL (y1 y2 y3 y4 y5 : Int32) : Nat → Nat → List Int32
  | 0, _ => []
  | n + 1, j => bF (wdv y1 y2 y3 y4 y5 j) j :: bL y1 y2 y3 y4 y5 n (j + 1)
theorem bL_20 : bL y1 y2 y3 y4 y5 20 0 = [bytI y1 24, bytI y1 16, bytI y1 8, bytI y1 0, bytI y2 24, bytI y2 16, bytI y2 8, bytI y2 0, bytI y3 24, bytI y3 16, bytI y3 8, bytI y3 0, bytI y4 24, bytI y4 16, bytI y4 8, bytI y4 0, bytI y5 24, bytI y5 16, bytI y5 8, bytI y5 0] := by
  show [bF y1 0, bF y1 1, bF y1 2, bF y1 3, bF y2 4, bF y2 5, bF y2 6, bF y2 7, bF y3 8, bF y3 9, bF y3 10, bF y3 11, bF y4 12, bF y4 13, bF y4 14, bF y4 15, bF y5 16, bF y5 17, bF y5 18, bF y5 19] = _
  rw [bF_e (j := 0) (by omega), bF_e (j := 1) (by omega), bF_e (j := 2) (by omega), bF_e (j := 3) (by omega), bF_e (j := 4) (by omega), bF_e (j := 5) (by omega), bF_e (j := 6) (by omega), bF_e (j := 7) (by omega), bF_e (j := 8) (by omega), bF_e (j := 9) (by omega), bF_e (j := 10) (by omega), bF_e (j := 11) (by omega), bF_e (j := 12) (by omega), bF_e (j := 13) (by omega), bF_e (j := 14) (by omega), bF_e (j := 15) (by omega), bF_e (j := 16) (by omega), bF_e (j := 17) (by omega), bF_e (j := 18) (by omega), bF_e (j := 19) (by omega)]
  rfl
theorem fds_f : ∀ (bs : List Int32) (c : SG), (∀ k, k ≠ 1 → k ≠ 2 → bs.foldl fd1 c k = c k) ∧ ∀ j, j ≠ 1 → bs.foldl fd1 c 1 j = c 1 j := by
  intro bs
  induction bs with
  | nil => intro c; exact ⟨fun _ _ _ => rfl, fun _ _ => rfl⟩
  | cons b bs ih =>
    intro c
    obtain ⟨h1, h2⟩ := ih (fd1 c b)
    refine ⟨fun k a1 a2 => (h1 k a1 a2).trans ?_, fun j a1 => (h2 j a1).trans ?_⟩
    · unfold fd1; rw [up_n a1, pt_n a2]
    · unfold fd1; rw [up_bn a1, pt_n (by decide)]
theorem feed_b {l : Nat} (hl : l + 20 ≤ 600) : ∀ (n j z : Nat) (c t : SG), c 1 1 = nI (l + j) → t 65 6 = nI (l + j) → (∀ i, i < 600 → c 2 i = t 65 (10 + i) ∧ 0 ≤ t 65 (10 + i)) → j + n = 20 → n ≤ z → ok (Rfeed_21 (Rfeed_R z) t y1 y2 y3 y4 y5 (nI j)) (fun p => (p.1 = nI (l + 20) ∧ p.2 65 6 = nI (l + 20) ∧ (bL y1 y2 y3 y4 y5 n j).foldl fd1 c 1 1 = nI (l + 20)) ∧ (∀ i, i < 600 → (bL y1 y2 y3 y4 y5 n j).foldl fd1 c 2 i = p.2 65 (10 + i) ∧ 0 ≤ p.2 65 (10 + i)) ∧ ∀ x, x ≠ 6 → (x < 10 ∨ 610 ≤ x) → p.2 65 x = t 65 x) := by
  intro n
  induction n with
  | zero =>
    intro j z c t ec e h hj hz
    unfold Rfeed_21
    rw [if_pos (show (20 : Int32) ≤ nI j from k_ge (m := 20) hj)]
    have e20 : t 65 6 = nI (l + 20) := by rw [e, show l + j = l + 20 by omega]
    have c20 : c 1 1 = nI (l + 20) := by rw [ec, show l + j = l + 20 by omega]
    exact ok_be (rd_nI (e := 6) rfl (by decide) (by decide)) (ok_s ⟨⟨e20, e20, c20⟩, h, fun _ _ _ => rfl⟩)
  | succ n ih =>
    intro j z c t ec e h hj hz
    obtain ⟨z, rfl⟩ : ∃ z', z = z' + 1 := ⟨z - 1, by omega⟩
    have e74 : ∀ v, v = wdv y1 y2 y3 y4 y5 j → ok (Rfeed_74 (Rfeed_R (z + 1)) t y1 y2 y3 y4 y5 (nI j) v) (fun p => (p.1 = nI (l + 20) ∧ p.2 65 6 = nI (l + 20) ∧ (bL y1 y2 y3 y4 y5 (n + 1) j).foldl fd1 c 1 1 = nI (l + 20)) ∧ (∀ i, i < 600 → (bL y1 y2 y3 y4 y5 (n + 1) j).foldl fd1 c 2 i = p.2 65 (10 + i) ∧ 0 ≤ p.2 65 (10 + i)) ∧ ∀ x, x ≠ 6 → (x < 10 ∨ 610 ≤ x) → p.2 65 x = t 65 x) := by
      intro v ev
      have b0 : 0 ≤ bF v j := and_nn _
      have eb : bF (wdv y1 y2 y3 y4 y5 j) j = bF v j := by rw [ev]
      unfold Rfeed_74
      show ok ((rdI t 65 5768 6).bind fun g1 => (wrI t 65 5768 (10 + g1) (bF v j)).bind fun s2 => (rdI s2 65 5768 6).bind fun g3 => (wrI s2 65 5768 6 (g3 + 1)).bind fun s4 => Rfeed_R (z + 1) s4 y1 y2 y3 y4 y5 (nI j + 1)) _
      generalize bF v j = b at b0 eb
      refine ok_be (rd_nI (e := 6) rfl (by decide) (by decide)) (ok_be (wr_nI (e := 10 + (l + j)) (by rw [e]; show nI 10 + nI (l + j) = _; rw [nI_add]) (by omega) (by decide)) ?_)
      refine ok_be (rd_nI (e := 6) rfl (by decide) (by decide)) (ok_be (wr_nI (e := 6) rfl (by decide) (by decide)) ?_)
      have e6 : up t 65 (10 + (l + j)) b 65 6 = nI (l + j) := by rw [up_bn (by omega)]; exact e
      rw [e6]
      show ok (Rfeed_21 (Rfeed_R z) (up (up t 65 (10 + (l + j)) b) 65 6 (nI (l + j) + 1)) y1 y2 y3 y4 y5 (nI j + 1)) _
      rw [← nI_succ, ← nI_succ]
      have ecb : fd1 c b = up (up c 2 (l + j) b) 1 1 (nI (l + j + 1)) := by
        unfold fd1
        rw [ec, pt_e (by omega) (by decide), ← nI_succ]
      have IH := ih (j + 1) z (fd1 c b) (up (up t 65 (10 + (l + j)) b) 65 6 (nI (l + j + 1))) (by rw [ecb, up_a]; rfl) (by rw [up_a]; rfl) (fun i hi => ?_) (by omega) (by omega)
      · refine ok_w IH (fun p hp => ?_)
        obtain ⟨q1, q2, q3⟩ := hp
        have eL : bL y1 y2 y3 y4 y5 (n + 1) j = b :: bL y1 y2 y3 y4 y5 n (j + 1) := by
          show bF (wdv y1 y2 y3 y4 y5 j) j :: _ = _
          rw [eb]
        rw [eL]
        exact ⟨q1, q2, fun x h6 hx => by rw [q3 x h6 hx, up_bn h6, up_bn (by omega)]⟩
      · rw [ecb, up_n (by decide), up_bn (show 10 + i ≠ 6 by omega)]
        by_cases g : i = l + j
        · subst g; rw [up_a, up_a]; exact ⟨rfl, b0⟩
        · rw [up_bn g, up_bn (by omega)]; exact h i hi
    have le : ∀ a, a ≤ 20 → (nI a ≤ nI j ↔ a ≤ j) := fun a ha => by
      rw [Int32.le_iff_toInt_le, nI_toInt (by omega), nI_toInt (by omega)]; omega
    unfold Rfeed_21
    rw [if_neg (show ¬ (20 : Int32) ≤ nI j from k_lt (m := 20) hj (by decide))]
    refine ok_i (fun c1 => ok_i (fun c2 => ok_i (fun c3 => ok_i (fun c4 => e74 _ ?_) (fun c4 => e74 _ ?_)) (fun c3 => e74 _ ?_)) (fun c2 => e74 _ ?_)) (fun c1 => e74 _ ?_)
    · unfold wdv; rw [if_pos ((le 4 (by omega)).1 c1), if_pos ((le 8 (by omega)).1 c2), if_pos ((le 12 (by omega)).1 c3), if_pos ((le 16 (by omega)).1 c4)]
    · unfold wdv; rw [if_pos ((le 4 (by omega)).1 c1), if_pos ((le 8 (by omega)).1 c2), if_pos ((le 12 (by omega)).1 c3), if_neg (fun g => c4 ((le 16 (by omega)).2 g))]
    · unfold wdv; rw [if_pos ((le 4 (by omega)).1 c1), if_pos ((le 8 (by omega)).1 c2), if_neg (fun g => c3 ((le 12 (by omega)).2 g))]
    · unfold wdv; rw [if_pos ((le 4 (by omega)).1 c1), if_neg (fun g => c2 ((le 8 (by omega)).2 g))]
    · unfold wdv; rw [if_neg (fun g => c1 ((le 4 (by omega)).2 g))]
theorem FD_sim {s : SG} {p : Int32 × SG} (tb : TB s 1) (r : RI s) (h0 : SIM1 s 1 0) (e : Rfeed (feeP s y1 y2 y3 y4 y5).2 y1 y2 y3 y4 y5 = some p) : (feeP s y1 y2 y3 y4 y5).1 = p.1 ∧ SIM1 p.2 1 0 := by
  have h := SIM_n.1 h0
  obtain ⟨l, el, hl⟩ := TB_l tb
  have l65 : s 65 6 = nI l := by rw [← h.1.1]; exact el
  have r1 : RI (feeP s y1 y2 y3 y4 y5).2 := RI_65 (feeP_n (by omega)) r
  have c65 : (feeP s y1 y2 y3 y4 y5).2 65 = s 65 := feeP_n (by omega)
  obtain ⟨b, eb, _, qa⟩ := feed_ok (x := y1) (y := y2) (z := y3) (u := y4) (v := y5) r1
  rw [e] at eb; cases eb
  by_cases c : l + 20 ≤ 600
  · have ef : (feeP s y1 y2 y3 y4 y5).2 = (bL y1 y2 y3 y4 y5 20 0).foldl fd1 s := by
      unfold feeP
      rw [el, if_pos ((le600 hl).2 c), bL_20]; rfl
    have e1 : (feeP s y1 y2 y3 y4 y5).1 = (feeP s y1 y2 y3 y4 y5).2 1 1 := by
      unfold feeP
      rw [el, if_pos ((le600 hl).2 c)]
    have er : Rfeed (feeP s y1 y2 y3 y4 y5).2 y1 y2 y3 y4 y5 = Rfeed_21 (Rfeed_R xF) (feeP s y1 y2 y3 y4 y5).2 y1 y2 y3 y4 y5 (nI 0) := by
      unfold Rfeed
      rw [rd_nI (x := 6) (e := 6) rfl (by decide) (by decide), c65, l65]
      show (if nI l + 20 ≤ 600 then _ else _) = _
      rw [if_pos ((le600 hl).2 c)]; rfl
    obtain ⟨p', ep', ⟨a1, a2, a3⟩, a4, a5⟩ := feed_b (y1 := y1) (y2 := y2) (y3 := y3) (y4 := y4) (y5 := y5) c 20 0 xF s (feeP s y1 y2 y3 y4 y5).2 el (by rw [c65]; exact l65) (fun i hi => by rw [c65]; exact h.2.1 i hi) rfl (by have := xF_ge; omega)
    rw [← er, e] at ep'; cases ep'
    rw [← ef] at a3 a4
    obtain ⟨g1, g2⟩ := fds_f (bL y1 y2 y3 y4 y5 20 0) s
    rw [← ef] at g1 g2
    refine ⟨by rw [e1, a3, a1], SIM_n.2 ⟨⟨?_, ?_, ?_⟩, fun j hj => ?_, fun k hk => ?_, fun k i n hk hi en hn hin => ?_⟩⟩
    · rw [qa.2.2 1 (by omega), a3, a2]
    · rw [qa.2.2 1 (by omega), g2 2 (by omega), a5 7 (by omega) (by omega), c65]; exact h.1.2.1
    · rw [qa.2.2 1 (by omega), g2 3 (by omega), a5 8 (by omega) (by omega), c65]; exact h.1.2.2
    · rw [qa.2.2 2 (by omega)]; exact a4 j hj
    · rw [qa.2.2 3 (by omega), g1 3 (by omega) (by omega), a5 k (by omega) (by omega), c65]; exact h.2.2.1 k hk
    · rw [a5 k (by omega) (by omega), c65] at en
      have pl := PLK_in hk hi
      refine KEQ_g hk (fun e j hd => ?_) (fun j _ => by rw [a5 _ (by omega) (by omega), c65]) (h.2.2.2 k i n hk hi en hn hin)
      have c41 := tD_c (CPK_tD hk hi hd)
      have c5 : 5 ≤ CPK k i := by
        cases k with
        | zero => unfold CPK; (try dsimp only); omega
        | succ k => unfold CPK; (try dsimp only); omega
      show p.2 (1 + (CPK k i + e)) j = s (1 + (CPK k i + e)) j
      rw [qa.2.2 _ (by omega), g1 _ (by omega) (by omega)]
  · have n20 : ¬ nI l + 20 ≤ 600 := fun g => c ((le600 hl).1 g)
    have ef : feeP s y1 y2 y3 y4 y5 = (-1, s) := by
      unfold feeP
      rw [el, if_neg n20]
    rw [ef] at e ⊢
    have er : Rfeed s y1 y2 y3 y4 y5 = some (-1, s) := by
      unfold Rfeed
      rw [rd_nI (x := 6) (e := 6) rfl (by decide) (by decide), l65]
      show (if nI l + 20 ≤ 600 then _ else _) = _
      rw [if_neg n20]
    rw [er] at e; cases e
    exact ⟨rfl, h0⟩
theorem EN_sim {s : SG} {x1 : Int32} {p : Int32 × SG} (h0 : SIM1 s 1 0) (e : Rend (endP s x1).2 x1 = some p) : (endP s x1).1 = p.1 ∧ SIM1 p.2 1 0 := by
  have h := SIM_n.1 h0
  have h1 : s 1 1 = s 65 6 := h.1.1
  have e65 : (endP s x1).2 65 = s 65 := endP_n (by omega)
  have rd : rdI (endP s x1).2 65 5768 6 = some (s 65 6) := by rw [rd_nI (x := 6) (e := 6) rfl (by decide) (by decide), e65]
  have wr : wrI (endP s x1).2 65 5768 6 x1 = some (up (endP s x1).2 65 6 x1) := wr_nI (e := 6) rfl (by decide) (by decide)
  unfold Rend at e
  rw [rd, wr] at e
  unfold endP at e ⊢
  by_cases c1 : x1 < 0
  · simp only [if_pos c1] at e ⊢
    cases e
    exact ⟨rfl, h0⟩
  · by_cases c2 : x1 ≤ s 65 6
    · simp only [if_neg c1, h1, if_pos c2, Option.bind_some] at e ⊢
      cases e
      refine ⟨rfl, SIM_n.2 (SIM_fr h (fun c g1 g2 => ?_) ⟨?_, ?_, ?_⟩ (fun j a b c => ?_))⟩
      · show up (up s 1 1 x1) 65 6 x1 c = s c
        rw [up_n (by omega), up_n (by omega)]
      · show up (up s 1 1 x1) 65 6 x1 1 1 = up (up s 1 1 x1) 65 6 x1 65 6
        rw [up_a, up_n (by decide), up_a]
      · show up (up s 1 1 x1) 65 6 x1 1 2 = up (up s 1 1 x1) 65 6 x1 65 7
        rw [up_n (by decide), up_bn (by decide), up_bn (by decide), up_n (by decide)]; exact h.1.2.1
      · show up (up s 1 1 x1) 65 6 x1 1 3 = up (up s 1 1 x1) 65 6 x1 65 8
        rw [up_n (by decide), up_bn (by decide), up_bn (by decide), up_n (by decide)]; exact h.1.2.2
      · show up (up s 1 1 x1) 65 6 x1 65 j = s 65 j
        rw [up_bn a, up_n (by decide)]
    · simp only [if_neg c1, h1, if_neg c2, Option.bind_some] at e ⊢
      cases e
      exact ⟨rfl, h0⟩
end FD
theorem SIM1_gd : PGd SIM1 := ⟨SIM_loc, fun s x1 x2 x3 x4 x5 p tb r h e => (FD_sim tb r h e).2, fun s x1 p _ _ h e => (EN_sim h e).2, fun s x1 x2 p tb r h e => (TX_sim tb r h e).2⟩
end XTW
end
