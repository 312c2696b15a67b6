section XTS
variable {sc : Nat × (Nat → Int32)} {d : Nat} {K : List KD} {r q t a B m : Nat} {w : EW}
/-! the lines of a text, one after the other, and its end -/
theorem redL_0 {so : Int32} {s : SG} : ∀ n, redL so n s 0 = redT s so := by
  intro n
  cases n with
  | zero => rfl
  | succ n => rw [redL, if_pos rfl]
theorem PB_s {M : Nat} {t : SG} (h : PB M t) : PB (M + 1) t := by
  obtain ⟨sz, nx, h1, h2, h3, h4, h5, h6⟩ := h
  exact ⟨sz, nx, h1, h2, h3, h4, h5, fun q => Nat.le_succ_of_le (h6 q)⟩
/-- off its token, its fault and what it tells the reference is as at the text's beginning -/
def FRM (V v : SG) : Prop := (∀ j, j ≠ 7 → j ≠ 8 → v 65 j = V 65 j) ∧ ∀ c, c ≠ 64 → c ≠ 65 → c ≠ 67 → v c = V c
theorem FRM_FT {V v w : SG} (h : FRM V v) (g : FT v w) : FRM V w := ⟨fun j h7 h8 => (g.1 j h7 h8).trans (h.1 j h7 h8), fun c h1 h2 h3 => (g.2.1 c h1 h2 h3).trans (h.2 c h1 h2 h3)⟩
section LP
variable {f : Nat → Int32} {L : Nat} {y1 y2 : Int32} {V : SG} {I : SG → Prop} {R : SG → SG → Prop} {Ln : SG → Option SG}
theorem loop98 {Q : SG → Int32 × SG → Prop} (tl : ∀ t, (∃ M, PB M t) → I t → ok (Ln t) (fun u => LN t u ∧ I u)) (tb : ∀ r98 r272 t, Rtext_113 r98 r272 t y1 y2 y1 = (Ln t).bind fun u => r98 u y1 y2)
    (lin : ∀ (a e : Nat) (u v : SG), SM f L a e u v → (v 65 7 = 0 → R u v) → pc (Ln v) (fun w => LE (QL f L a R) (rliP u y1) w))
    (fin : ∀ (a e : Nat) (u v : SG) (z : Nat), SM f L a e u v → (v 65 7 = 0 → R u v) → u 43 7 = 0 → v 64 5 = 0 → FRM V v → 201 ≤ z → pc (Rtext_190 (Rtext_R z).1 (Rtext_R z).2 v y1 y2) (fun p => Q (redT u y1) p))
    (bad : ∀ (u v : SG) (z : Nat), v 65 7 = 1 → u 43 2 = 1 → u 43 3 = v 65 8 → FRM V v → pc (Rtext_190 (Rtext_R z).1 (Rtext_R z).2 v y1 y2) (fun p => Q (redT u y1) p)) :
    ∀ (n z a e : Nat) (u v : SG), L ≤ n + a → n + 201 ≤ z → SM f L a e u v → (v 65 7 = 0 → R u v) → (∃ M, PB M v) → I v → FRM V v → pc (Rtext_98 (Rtext_R z).1 (Rtext_R z).2 v y1 y2) (fun p => Q (redL y1 n u 1) p) := by
  intro n
  induction n with
  | zero =>
    intro z a e u v hn hz sm ct p i fr
    have tk := sm.2.2.2.1
    have z5 : u 43 7 = 0 ∧ v 64 5 = 0 := by
      rcases tk.2.2.2.2.2 with ⟨_, _, q1, q2⟩ | ⟨ae, _⟩
      · exact ⟨q1, q2⟩
      · have := tk.2.2.2.2.1; omega
    unfold Rtext_98
    rw [if_pos sm.2.2.1, if_pos z5.2]
    exact fin a e u v z sm ct z5.1 z5.2 fr (by omega)
  | succ n ih =>
    intro z a e u v hn hz sm ct p i fr
    obtain ⟨z, rfl⟩ : ∃ z', z = z' + 1 := ⟨z - 1, by omega⟩
    have tk := sm.2.2.2.1
    have dec : (u 43 7 = 0 ∧ v 64 5 = 0) ∨ (¬ u 43 7 = 0 ∧ ¬ v 64 5 = 0) := by
      rcases tk.2.2.2.2.2 with ⟨_, _, q1, q2⟩ | ⟨ae, ⟨q1, ⟨q2, _⟩ | ⟨c, hc, q2, _⟩⟩ | ⟨q1, q2, _⟩ | ⟨q1, q2⟩ | ⟨q1, q2⟩⟩
      · exact Or.inl ⟨q1, q2⟩
      all_goals exact Or.inr ⟨by rw [q1]; decide, by rw [q2]; decide⟩
    unfold Rtext_98
    rw [if_pos sm.2.2.1]
    rcases dec with ⟨q1, q2⟩ | ⟨q1, q2⟩
    · rw [if_pos q2, redL, if_neg (by decide), if_pos q1]
      exact fin a e u v (z + 1) sm ct q1 q2 fr (by omega)
    · obtain ⟨w, ew, ln, iw⟩ := tl v p i
      rw [if_neg q2, tb, ew, redL, if_neg (by decide), if_neg q1]
      show pc (Rtext_98 (Rtext_R z).1 (Rtext_R z).2 w y1 y2) _
      have frw : FRM V w := FRM_FT fr ln.2
      have pw : ∃ M, PB M w := by
        obtain ⟨M, pm⟩ := p
        exact ⟨M, ln.1 M (PB_s pm)⟩
      rcases lin a e u v sm ct w ew with ⟨r1, a2, e2, ha, sm2, ct2⟩ | ⟨r1, w8, w7, c2, c3⟩
      · rw [r1]
        exact ih z a2 e2 _ w (by omega) (by omega) sm2 ct2 pw iw frw
      · rw [r1, redL_0]
        unfold Rtext_98
        rw [if_neg w8]
        exact bad _ w z w7 c2 c3 frw
end LP
theorem copyv {y1 y2 : Int32} {j P S : Nat} (hP : RplaceOf y1 (nI j) = nI P) (hS : RsizeOf y1 = nI S) (hb : P + S ≤ 1442) (hS2 : S ≤ 201) {w : SG} : ∀ (n i z : Nat) (t : SG), (∀ c, c ≠ 65 → t c = w c) → (∀ x, (x < P ∨ P + S ≤ x) → t 65 x = w 65 x) → (∀ x, x < i → t 65 (P + x) = w 67 x) → i + n = S → n ≤ z → ok (Rtext_272 (Rtext_R z).1 (Rtext_R z).2 t y1 y2 (nI j) (nI i)) (fun p => p.1 = nI j ∧ (∀ c, c ≠ 65 → p.2 c = w c) ∧ (∀ x, (x < P ∨ P + S ≤ x) → p.2 65 x = w 65 x) ∧ ∀ x, x < S → p.2 65 (P + x) = w 67 x) := by
  intro n
  induction n with
  | zero =>
    intro i z t a b c hi hz
    unfold Rtext_272
    rw [hS, if_pos (k_ge hi)]
    exact ok_s ⟨rfl, a, b, fun x hx => c x (by omega)⟩
  | succ n ih =>
    intro i z t a b c hi hz
    obtain ⟨z, rfl⟩ : ∃ z', z = z' + 1 := ⟨z - 1, by omega⟩
    unfold Rtext_272
    rw [hS, if_neg (k_lt hi (by omega))]
    refine ok_be (rd_nI (e := i) rfl (by omega) (by decide)) (ok_be (wr_nI (e := P + i) (by rw [hP, nI_add]) (by omega) (by decide)) ?_)
    show ok (Rtext_272 (Rtext_R z).1 (Rtext_R z).2 (up t 65 (P + i) (t 67 i)) y1 y2 (nI j) (nI i + 1)) _
    rw [← nI_succ]
    refine ih (i + 1) z _ (fun d hd => by rw [up_n hd]; exact a d hd) (fun x hx => by rw [up_bn (by omega)]; exact b x hx) (fun x hx => ?_) (by omega) (by omega)
    by_cases e : x = i
    · subst e; rw [up_a, a 67 (by decide)]
    · rw [up_bn (by omega)]; exact c x (by omega)
/-- behind a text: a fault, on both sides the same, or a place, with what it told -/
def PE (V : SG) (k S : Nat) (P : Nat → Nat) (y2 : Int32) (R : SG → SG → Prop) (u : SG) (p : Int32 × SG) : Prop :=
  (¬ p.2 65 7 = 0 ∧ p.1 = -1 ∧ u 43 2 = p.2 65 7 ∧ u 43 3 = p.2 65 8 ∧ FRM V p.2) ∨
  (p.2 65 7 = 0 ∧ p.2 65 8 = -1 ∧ u 43 2 = 0 ∧ u 43 3 = -1 ∧ ∃ (j : Nat) (v : SG), j < 2 ∧ p.1 = nI j ∧ ((y2 = -1 ∧ V 65 k = nI j ∧ p.2 65 k = nI (j + 1)) ∨ (¬ y2 = -1 ∧ y2 = nI j ∧ p.2 65 k = V 65 k)) ∧ R u v ∧ (∀ c, c ≠ 64 → c ≠ 65 → c ≠ 67 → p.2 c = V c) ∧ (∀ x, x ≠ 7 → x ≠ 8 → x ≠ k → (x < P j ∨ P j + S ≤ x) → p.2 65 x = V 65 x) ∧ ∀ x, x < S → p.2 65 (P j + x) = v 67 x)
section FN
variable {f : Nat → Int32} {L k S : Nat} {P : Nat → Nat} {y1 y2 : Int32} {V u v : SG} {R : SG → SG → Prop} {z : Nat}
theorem fin226 (tp : TP y1 k S P) (ty : TY y2 k V) (fr : FRM V v) (z7 : v 65 7 = 0) (z8 : v 65 8 = -1) (c2 : u 43 2 = 0) (c3 : u 43 3 = -1) (hr : R u v) (hz : 201 ≤ z) : pc (Rtext_226 (Rtext_R z).1 (Rtext_R z).2 v y1 y2) (fun p => PE V k S P y2 R u p) := by
  obtain ⟨e1, hk, hS, hS2, hP⟩ := tp
  unfold Rtext_226
  refine pc_rdv (e := 7) rfl (by decide) (by decide) ?_
  rw [if_pos z7]
  have k65 : v 65 k = V 65 k := fr.1 k (by omega) (by omega)
  have go : ∀ (j : Nat) (w : SG), j < 2 → (∀ c, c ≠ 65 → w c = v c) → (∀ x, x ≠ k → w 65 x = v 65 x) → ((y2 = -1 ∧ V 65 k = nI j ∧ w 65 k = nI (j + 1)) ∨ (¬ y2 = -1 ∧ y2 = nI j ∧ w 65 k = V 65 k)) → pc (Rtext_272 (Rtext_R z).1 (Rtext_R z).2 w y1 y2 (nI j) 0) (fun p => PE V k S P y2 R u p) := by
    intro j w hj hw hx hc
    obtain ⟨hp, hp1, hp2⟩ := hP j hj
    refine pc_ok (ok_w (copyv (P := P j) hp hS hp2 hS2 (w := w) S 0 z w (fun _ _ => rfl) (fun _ _ => rfl) (fun x hx => absurd hx (by omega)) (by omega) (by omega)) (fun p h => ?_))
    obtain ⟨h0, h1, h2, h3⟩ := h
    refine Or.inr ⟨?_, ?_, c2, c3, j, v, hj, h0, ?_, hr, fun c b1 b2 b3 => ?_, fun x b1 b2 b3 b4 => ?_, fun x hx2 => ?_⟩
    · rw [h2 7 (by omega), hx 7 (by omega)]; exact z7
    · rw [h2 8 (by omega), hx 8 (by omega)]; exact z8
    · rw [h2 k (by omega)]; exact hc
    · rw [h1 c b2, hw c b2]; exact fr.2 c b1 b2 b3
    · rw [h2 x b4, hx x b3]; exact fr.1 x b1 b2
    · rw [h3 x hx2, hw 67 (by decide)]
  rcases ty with ⟨ey, c, ec, hc⟩ | ⟨ny, j, ey, hj⟩
  · rw [if_pos ey]
    refine pc_rdv (e := k) e1 (by omega) (by decide) ?_
    rw [k65, ec]
    unfold Rtext_253
    rw [if_pos ey]
    refine pc_rdv (e := k) e1 (by omega) (by decide) ?_
    rw [k65, ec]
    refine pc_wrv (e := k) e1 (by omega) (by decide) ?_
    exact go c _ hc (fun d hd => up_n hd) (fun x hx => up_bn hx) (Or.inl ⟨ey, ec, by rw [up_a, nI_succ]⟩)
  · rw [if_neg ny]
    unfold Rtext_253
    rw [if_neg ny]
    have g := go j v hj (fun _ _ => rfl) (fun _ _ => rfl) (Or.inr ⟨ny, ey, k65⟩)
    rw [← ey] at g
    exact g
theorem redT_f {s : SG} {so : Int32} (h : ¬ s 43 2 = 0) : redT s so 43 2 = s 43 2 ∧ redT s so 43 3 = s 43 3 := by
  have n : notS s 4 (s 43 6) = s := by unfold notS; rw [if_neg h, if_neg (by decide)]
  unfold redT
  rw [n]
  repeat' split
  all_goals exact ⟨rfl, rfl⟩
theorem gt_n : ∀ T, T < 64 → ∀ n, n ≤ 6 → (nI T >>> (nI n &&& 31) = 0 ↔ gr T < nI n) := by decide +kernel
/-- a fault ends the text -/
theorem fin_f (n7 : ¬ v 65 7 = 0) (e2 : u 43 2 = v 65 7) (e3 : u 43 3 = v 65 8) (fr : FRM V v) : pc (Rtext_190 (Rtext_R z).1 (Rtext_R z).2 v y1 y2) (fun p => PE V k S P y2 R (redT u y1) p) := by
  have n2 : ¬ u 43 2 = 0 := by rw [e2]; exact n7
  obtain ⟨r2, r3⟩ := redT_f (so := y1) n2
  unfold Rtext_190
  refine pc_rdv (e := 7) rfl (by decide) (by decide) ?_
  rw [if_neg n7]
  unfold Rtext_226
  refine pc_rdv (e := 7) rfl (by decide) (by decide) ?_
  rw [if_neg n7]
  exact pc_s (Or.inl ⟨n7, rfl, r2.trans e2, r3.trans e3, fr⟩)
theorem fin190 {a e : Nat} (tp : TP y1 k S P) (ty : TY y2 k V) (hR : y1 = 0 → ∀ u v, R u v → RPS u v) (sm : SM f L a e u v) (ct : v 65 7 = 0 → R u v) (q1 : u 43 7 = 0) (q2 : v 64 5 = 0) (fr : FRM V v) (hz : 201 ≤ z) : pc (Rtext_190 (Rtext_R z).1 (Rtext_R z).2 v y1 y2) (fun p => PE V k S P y2 R (redT u y1) p) := by
  have fl := sm.2.2.2.2
  rcases fl with ⟨f1, f2, f3, f4⟩ | ⟨kk, pp, hk, f1, f2, f3, f4, f5⟩
  · by_cases c : y1 = 0
    · obtain ⟨n, V', T, rp⟩ := hR c u v (ct f2)
      have e44 : u 44 0 = nI n := rp.2.1.1
      have e67 : v 67 0 = nI n := rp.2.1.2.2
      have e11 : u 43 11 = nI T := rp.2.2.2.2.2.2.2.2.1
      have e9 : v 64 9 = gr T := rp.2.2.2.2.2.2.2.2.2
      have key := gt_n T rp.1.2.2 n rp.1.1
      unfold Rtext_190
      refine pc_rdv (e := 7) rfl (by decide) (by decide) ?_
      rw [if_pos f2, if_pos c]
      refine pc_rdv (e := 0) rfl (by decide) (by decide) ?_
      rw [e67, e9]
      by_cases c2 : gr T < nI n
      · have et : redT u y1 = u := by unfold redT; rw [if_pos c, e11, e44, if_pos (key.2 c2)]
        rw [if_pos c2, et]
        exact fin226 tp ty fr f2 f4 f1 f3 (ct f2) hz
      · have et : redT u y1 = up (up u 43 2 4) 43 3 (u 43 6) := by
          unfold redT notS
          rw [if_pos c, e11, e44, if_neg (fun g => c2 (key.1 g)), if_pos f1]
        have er : Ralso v 4 (v 64 4) = some (up (up v 65 7 4) 65 8 (v 64 4)) := by
          unfold Ralso
          rw [if_pos sm.2.2.1, rd_nI (x := 7) (e := 7) rfl (by decide) (by decide)]
          show (if v 65 7 = 0 then Ralso_51 v 4 (v 64 4) else _) = _
          rw [if_pos f2]
          unfold Ralso_51
          rw [wr_nI (x := 7) (e := 7) rfl (by decide) (by decide)]
          show (wrI (up v 65 7 4) 65 5768 8 (v 64 4)).bind _ = _
          rw [wr_nI (x := 8) (e := 8) rfl (by decide) (by decide)]; rfl
        have tk := sm.2.2.2.1
        have aL : a = L := by
          rcases tk.2.2.2.2.2 with ⟨g, _⟩ | ⟨ae, ⟨g, _⟩ | ⟨g, _⟩ | ⟨g, _⟩ | ⟨g, _⟩⟩
          · exact g
          all_goals (rw [q1] at g; exact absurd g (by decide))
        have e6 : u 43 6 = nI L := by
          obtain ⟨⟨g1, _⟩, g2, _⟩ := sm.1
          rw [g1, g2]
        have e4 : v 64 4 = nI L := by rw [← aL]; exact tk.2.2.1
        rw [if_neg c2, et, er]
        show pc (Rtext_226 (Rtext_R z).1 (Rtext_R z).2 (up (up v 65 7 4) 65 8 (v 64 4)) y1 y2) _
        have e7 : up (up v 65 7 4) 65 8 (v 64 4) 65 7 = 4 := by rw [up_bn (by decide), up_a]
        unfold Rtext_226
        refine pc_rdv (e := 7) rfl (by decide) (by decide) ?_
        rw [if_neg (by rw [e7]; decide)]
        refine pc_s (Or.inl ⟨by show ¬ up (up v 65 7 4) 65 8 (v 64 4) 65 7 = 0; rw [e7]; decide, rfl, ?_, ?_, fun j h7 h8 => ?_, fun c b1 b2 b3 => ?_⟩)
        · show _ = up (up v 65 7 4) 65 8 (v 64 4) 65 7
          rw [e7, up_bn (by decide), up_a]
        · show _ = up (up v 65 7 4) 65 8 (v 64 4) 65 8
          rw [up_a, up_a, e6, e4]
        · show up (up v 65 7 4) 65 8 (v 64 4) 65 j = V 65 j
          rw [up_bn h8, up_bn h7]; exact fr.1 j h7 h8
        · show up (up v 65 7 4) 65 8 (v 64 4) c = V c
          rw [up_n b2, up_n b2]; exact fr.2 c b1 b2 b3
    · have et : redT u y1 = u := by unfold redT; rw [if_neg c]
      rw [et]
      unfold Rtext_190
      refine pc_rdv (e := 7) rfl (by decide) (by decide) ?_
      rw [if_pos f2, if_neg c]
      exact fin226 tp ty fr f2 f4 f1 f3 (ct f2) hz
  · have n7 : ¬ v 65 7 = 0 := by rw [f2]; rcases hk with rfl | rfl <;> decide
    exact fin_f n7 (f1.trans f2.symm) (f3.trans f4.symm) fr
end FN
/-! the beginning of a text -/
def CLV (y1 : Int32) (g : Nat → Int32) : Prop := g 0 = 0 ∧ (y1 = 0 → g 1 = 10 ∧ g 2 = 2 ∧ g 3 = 50 ∧ g 4 = 50 ∧ g 5 = 20) ∧ ∀ i, i < 201 → (y1 = 0 → 6 ≤ i) → g i = 0
theorem clears_w {y1 : Int32} : ∀ (n j z : Nat) (t : SG), (∀ i, i < j → t 67 i = 0) → j + n = 201 → n ≤ z → ok (Rclears_2 (Rclears_R z) t y1 (nI j)) (fun u => CLV y1 (u 67)) := by
  intro n
  induction n with
  | zero =>
    intro j z t h0 hj hz
    unfold Rclears_2
    rw [if_pos (show (201 : Int32) ≤ nI j from k_ge (m := 201) hj)]
    refine ok_i (fun e => ?_) (fun e => ok_s ⟨h0 0 (by omega), fun c => absurd c e, fun i hi _ => h0 i (by omega)⟩)
    refine ok_be (wr_nI (e := 1) rfl (by omega) (by decide)) (ok_be (wr_nI (e := 2) rfl (by omega) (by decide)) (ok_be (wr_nI (e := 3) rfl (by omega) (by decide)) (ok_be (wr_nI (e := 4) rfl (by omega) (by decide)) (ok_be (wr_nI (e := 5) rfl (by omega) (by decide)) (ok_s ⟨?_, fun _ => ⟨?_, ?_, ?_, ?_, ?_⟩, fun i hi h6 => ?_⟩)))))
    · rw [up_bn (by decide), up_bn (by decide), up_bn (by decide), up_bn (by decide), up_bn (by decide)]; exact h0 0 (by omega)
    · rw [up_bn (by decide), up_bn (by decide), up_bn (by decide), up_bn (by decide), up_a]
    · rw [up_bn (by decide), up_bn (by decide), up_bn (by decide), up_a]
    · rw [up_bn (by decide), up_bn (by decide), up_a]
    · rw [up_bn (by decide), up_a]
    · rw [up_a]
    · have := h6 e
      rw [up_bn (by omega), up_bn (by omega), up_bn (by omega), up_bn (by omega), up_bn (by omega)]; exact h0 i (by omega)
  | succ n ih =>
    intro j z t h0 hj hz
    obtain ⟨z, rfl⟩ : ∃ z', z = z' + 1 := ⟨z - 1, by omega⟩
    unfold Rclears_2
    rw [if_neg (show ¬ (201 : Int32) ≤ nI j from k_lt (m := 201) hj (by decide))]
    refine ok_be (wr_nI rfl (by omega) (by decide)) ?_
    show ok (Rclears_2 (Rclears_R z) (up t 67 j 0) y1 (nI j + 1)) _
    rw [← nI_succ]
    refine ih (j + 1) z _ (fun i hi => ?_) (by omega) (by omega)
    by_cases e : i = j
    · subst e; rw [up_a]
    · rw [up_bn e]; exact h0 i (by omega)
theorem clears_v {s : SG} {y1 : Int32} : ok (Rclears s y1) (fun u => CLV y1 (u 67)) := by
  unfold Rclears
  exact clears_w 201 0 xF s (fun i hi => absurd hi (by omega)) rfl (by have := xF_ge; omega)
/-- both have read nothing yet -/
def INI (y1 : Int32) (u v : SG) : Prop := (u 43 10 = 0 ∧ u 43 11 = 0 ∧ ∃ p, u 43 8 = nI p ∧ p ≤ 600) ∧ (u 52 0 = 0 ∧ ∀ j, j < 200 → u 53 j = 0) ∧ (u 44 0 = 0 ∧ u 44 8 = 0 ∧ u 44 9 = 10 ∧ u 44 10 = 2 ∧ u 44 11 = 50 ∧ u 44 12 = 50 ∧ u 44 13 = 20) ∧ ((∀ j, j < 72 → u 49 j = 0) ∧ (∀ j, j < 6 → u 50 j = 0) ∧ ∀ j, j < 3 → u 51 j = 0) ∧ v 64 9 = -1 ∧ CLV y1 (v 67)
theorem fl_aa {n j k : Nat} {s : SG} {x : Int32} (h : j < n) : flS n s k x k j = x := by
  unfold flS
  rw [sF_s]; exact if_pos h
theorem son_INI {y1 : Int32} {s u v : SG} {a : Nat} (e : u = advS (son0 s m)) (h8 : u 43 8 = nI a) (ha : a ≤ 600) (h9 : v 64 9 = -1) (cl : CLV y1 (v 67)) : INI y1 u v := by
  have ac : ∀ c, c ≠ 43 → u c = son0 s m c := by
    intro c hc
    rw [e]
    unfold advS adv1
    repeat' split
    all_goals simp only [up_n hc]
  have aj : ∀ j, j ≠ 7 → j ≠ 8 → j ≠ 9 → u 43 j = son0 s m 43 j := by
    intro j b1 b2 b3
    rw [e]
    unfold advS adv1
    repeat' split
    all_goals simp only [up_bn b1, up_bn b2, up_bn b3]
  refine ⟨⟨?_, ?_, a, h8, ha⟩, ⟨?_, fun j hj => ?_⟩, ⟨?_, ?_, ?_, ?_, ?_, ?_, ?_⟩, ⟨fun j hj => ?_, fun j hj => ?_, fun j hj => ?_⟩, h9, cl⟩
  · rw [aj 10 (by decide) (by decide) (by decide)]; unfold son0; simp (decide := true) only [up_a, up_b]
  · rw [aj 11 (by decide) (by decide) (by decide)]; unfold son0; simp (decide := true) only [up_a, up_b]
  · rw [ac 52 (by decide)]; unfold son0 clwS; simp (decide := true) only [up_a, up_b, up_c, fl_c]
  · rw [ac 53 (by decide)]; unfold son0 clwS; simp (decide := true) only [up_c]; exact fl_aa hj
  · rw [ac 44 (by decide)]; unfold son0 clwS clrS; simp (decide := true) only [up_a, up_b, up_c, fl_c]
  · rw [ac 44 (by decide)]; unfold son0 clwS clrS; simp (decide := true) only [up_a, up_b, up_c, fl_c]
  · rw [ac 44 (by decide)]; unfold son0 clwS clrS; simp (decide := true) only [up_a, up_b, up_c, fl_c]
  · rw [ac 44 (by decide)]; unfold son0 clwS clrS; simp (decide := true) only [up_a, up_b, up_c, fl_c]
  · rw [ac 44 (by decide)]; unfold son0 clwS clrS; simp (decide := true) only [up_a, up_b, up_c, fl_c]
  · rw [ac 44 (by decide)]; unfold son0 clwS clrS; simp (decide := true) only [up_a, up_b, up_c, fl_c]
  · rw [ac 44 (by decide)]; unfold son0 clwS clrS; simp (decide := true) only [up_a, up_b, up_c, fl_c]
  · rw [ac 49 (by decide)]; unfold son0 clwS clrS; simp (decide := true) only [up_c, fl_c]; exact fl_aa hj
  · rw [ac 50 (by decide)]; unfold son0 clwS clrS; simp (decide := true) only [up_c, fl_c]; exact fl_aa hj
  · rw [ac 51 (by decide)]; unfold son0 clwS clrS; simp (decide := true) only [up_c, fl_c]; exact fl_aa hj
theorem INI_rws {y1 : Int32} {u v : SG} {c N : Nat} (h : INI y1 u v) : RWS c N u v :=
  ⟨0, by omega, h.2.1.1, h.1.1, h.2.2.2.2.2.1, fun j i hj _ => absurd hj (by omega), fun _ j hj => absurd hj (by omega)⟩
theorem INI_bgs {y1 : Int32} {u v : SG} (ny : ¬ y1 = 0) (h : INI y1 u v) : BGS u v := by
  obtain ⟨⟨h1, _, p, h8, hp⟩, ⟨_, h53⟩, _, _, _, cl⟩ := h
  exact ⟨⟨0, p, h1, h8, by omega, hp⟩, fun m hm => by rw [h53 _ (by omega), cl.2.2 m (by omega) (fun z => absurd z ny)]⟩
theorem INI_rps {u v : SG} (h : INI 0 u v) : RPS u v := by
  obtain ⟨⟨h1, h11, _⟩, _, ⟨a0, a8, a9, a10, a11, a12, a13⟩, ⟨b49, b50, b51⟩, h9, cl⟩ := h
  obtain ⟨c0, c1, cz⟩ := cl
  obtain ⟨d1, d2, d3, d4, d5⟩ := c1 rfl
  have z : ∀ i, 6 ≤ i → i < 201 → v 67 i = 0 := fun i h6 hi => cz i hi (fun _ => h6)
  have nz : ∀ i N, 6 ≤ i → i < 201 → NB (v 67 i) N := fun i N h6 hi => ⟨0, z i h6 hi, by omega⟩
  refine ⟨0, 0, 0, ⟨by omega, by omega, by omega⟩, ⟨a0, h1, c0⟩, fun i hi => ?_, fun k hk => ⟨by rw [b51 k hk, z _ (by omega) (by omega)], nz _ _ (by omega) (by omega)⟩, ⟨fun m c hm _ => absurd hm (by omega), fun m c hm hc => nz _ _ (by omega) (by omega)⟩, ⟨a8, fun m hm => by rw [z _ (by omega) (by omega), Nat.zero_testBit]; rfl⟩, fun m hm => ⟨by rw [b50 m hm, z _ (by omega) (by omega)], nz _ _ (by omega) (by omega)⟩, fun m i hm hi => ⟨by rw [b49 _ (by omega), z _ (by omega) (by omega)], nz _ _ (by omega) (by omega)⟩, h11, h9⟩
  rcases (by omega : i = 0 ∨ i = 1 ∨ i = 2 ∨ i = 3 ∨ i = 4) with rfl | rfl | rfl | rfl | rfl
  · exact ⟨a9.trans d1.symm, ⟨10, d1, by omega⟩⟩
  · exact ⟨a10.trans d2.symm, ⟨2, d2, by omega⟩⟩
  · exact ⟨a11.trans d3.symm, ⟨50, d3, by omega⟩⟩
  · exact ⟨a12.trans d4.symm, ⟨50, d4, by omega⟩⟩
  · exact ⟨a13.trans d5.symm, ⟨20, d5, by omega⟩⟩
section T74
variable {f : Nat → Int32} {L k S : Nat} {P : Nat → Nat} {y1 y2 : Int32} {I : SG → Prop} {R : SG → SG → Prop} {Ln : SG → Option SG} {t c0 : SG}
theorem text74v (tp : TP y1 k S P) (ti : ∀ t u, SR t u → I t → I u) (tl : ∀ t, (∃ M, PB M t) → I t → ok (Ln t) (fun u => LN t u ∧ I u)) (tb : ∀ r98 r272 t, Rtext_113 r98 r272 t y1 y2 y1 = (Ln t).bind fun u => r98 u y1 y2) (t0 : ∀ u : SG, (y1 = 0 → R0 u) → (¬ y1 = 0 → ∀ i, i < 201 → u 67 i = 0) → I u)
    (lin : ∀ (a e : Nat) (u v : SG), SM f L a e u v → (v 65 7 = 0 → R u v) → pc (Ln v) (fun w => LE (QL f L a R) (rliP u y1) w)) (hR : y1 = 0 → ∀ u v, R u v → RPS u v) (h0 : ∀ u v, INI y1 u v → R u v)
    (e2 : t 64 2 = nI L) (hL : L ≤ 600) (ty : TY y2 k t) (eb : ∀ j, j < L → t 65 (10 + j) = f j) (pos : ∀ j, j < L → 0 ≤ f j) (t7 : t 65 7 = 0) (t8 : t 65 8 = -1) (ef : ∀ j, j < L → c0 54 j = f j) : pc (Rtext_74 (Rtext_R xF).1 (Rtext_R xF).2 t y1 y2) (fun p => PE t k S P y2 R (redL y1 600 (sonS c0 L) 1) p) := by
  unfold Rtext_74
  obtain ⟨v1, ev1, h1, h2, h3⟩ := clears_ok (s := up (up (up t 64 3 0) 64 8 0) 64 9 (-1)) (y1 := y1)
  obtain ⟨v1', ev1', clv⟩ := clears_v (s := up (up (up t 64 3 0) 64 8 0) 64 9 (-1)) (y1 := y1)
  rw [ev1] at ev1'; cases ev1'
  rw [ev1]
  show pc ((Radvance v1).bind fun s2 => Rtext_98 (Rtext_R xF).1 (Rtext_R xF).2 s2 y1 y2) _
  have i0 := t0 v1 h2 h3
  have e64 := h1 64 (by decide)
  have e65 : v1 65 = t 65 := by rw [h1 65 (by decide), up_n (by decide), up_n (by decide), up_n (by decide)]
  have x2 : v1 64 2 = nI L := by rw [e64, up_bn (by decide), up_bn (by decide), up_bn (by decide)]; exact e2
  have x3 : v1 64 3 = nI 0 := by rw [e64, up_bn (by decide), up_bn (by decide), up_a]; rfl
  have x8 : v1 64 8 = 0 := by rw [e64, up_bn (by decide), up_a]
  have x9 : v1 64 9 = -1 := by rw [e64, up_a]
  have p : PB 601 v1 := by
    refine ⟨L, 0, x2, hL, x3, by omega, fun c => absurd x8 c, fun _ => ?_⟩
    split <;> omega
  have rt : RTt f L v1 := ⟨x2, hL, fun j hj => by rw [e65]; exact eb j hj, pos⟩
  have sr := son0_RA (s := c0) hL
  have s6 : son0 c0 L 43 6 = nI L := by unfold son0; simp (decide := true) only [up_a, up_b]
  have cb : CB f L (son0 c0 L) := by
    refine ⟨sr, ?_, fun j hj => ?_⟩
    · unfold ln; rw [s6, nI_clamp (by omega)]
    · unfold tok son0 clwS clrS
      simp (decide := true) only [up_c, fl_c]
      rw [cl_nI (by omega) (by decide)]; exact ef j hj
  have fl : FL 0 (son0 c0 L) v1 := by
    refine Or.inl ⟨?_, by rw [e65]; exact t7, ?_, by rw [e65]; exact t8⟩
    · unfold son0; simp (decide := true) only [up_a, up_b]
    · unfold son0; simp (decide := true) only [up_a, up_b]
  obtain ⟨v2, ev2, ⟨a2, b2, _, sm⟩, k1, k2⟩ := SM_adv (e := 0) cb (by unfold son0; simp (decide := true) only [up_a, up_b]) (Nat.zero_le _) rt x3 x8 fl
  obtain ⟨v2', ev2', hv⟩ := advance_ok (t := v1) ⟨_, p⟩
  rw [ev2] at ev2'; cases ev2'
  rw [ev2]
  show pc (Rtext_98 (Rtext_R xF).1 (Rtext_R xF).2 v2 y1 y2) _
  have fr : FRM t v2 := ⟨fun j _ _ => by rw [k1 65 (by decide), e65], fun c b1 b3 b4 => by rw [k1 c b1, h1 c b4, up_n b1, up_n b1, up_n b1]⟩
  have a600 := SM_600 sm
  have ini : INI y1 (sonS c0 L) v2 := son_INI (a := a2) rfl sm.2.2.2.1.1 a600 (by rw [k2 9 (by omega)]; exact x9) (by rw [k1 67 (by decide)]; exact clv)
  exact loop98 tl tb lin (fun a e u v z sm ct q1 q2 fr hz => fin190 tp ty hR sm ct q1 q2 fr hz) (fun u v z n7 c2 c3 fr => fin_f (by rw [n7]; decide) (c2.trans n7.symm) c3 fr) 600 xF a2 b2 _ v2 (by omega) (by have := xF_ge; omega) sm (fun _ => h0 _ _ ini) ⟨_, hv.1.1.1 _ p⟩ (ti _ _ hv.1 i0) fr
end T74
end XTS
