section XTN
variable {sc : Nat × (Nat → Int32)} {d : Nat} {K : List KD} {r q t a B m : Nat} {w : EW}
/-! lines of republics, on both sides -/
/-- the greatest of told ministers, -1 without -/
def gr (T : Nat) : Int32 := if T = 0 then -1 else nI (Nat.log2 T)
theorem gr_or : ∀ T, T < 64 → ∀ m, m < 6 → (if nI m ≤ gr T then gr T else nI m) = gr (T ||| 2 ^ m) := by decide +kernel
theorem tl_or : ∀ T, T < 64 → ∀ m, m < 6 → (nI T ||| (1 <<< (nI m &&& 31))) = nI (T ||| 2 ^ m) ∧ T ||| 2 ^ m < 64 := by decide +kernel
theorem vt_or : ∀ V, V < 64 → ∀ m, m < 6 → ∀ i, i < 6 → (V ||| 2 ^ m).testBit i = (V.testBit i || i == m) := by decide +kernel
theorem or_0 (x : Int32) : x ||| 0 = x := Int32.or_zero
/-- a republic so far: n ministers, the vetoes V, those told of T -/
def RPA (n V T : Nat) (u v : SG) : Prop :=
  (n ≤ 6 ∧ V < 64 ∧ T < 64) ∧ (u 44 0 = nI n ∧ u 43 10 = nI n ∧ v 67 0 = nI n) ∧
  (∀ i, i < 5 → u 44 (9 + i) = v 67 (1 + i) ∧ NB (v 67 (1 + i)) 99) ∧ (∀ k, k < 3 → u 51 k = v 67 (6 + k) ∧ NB (v 67 (6 + k)) 5) ∧
  ((∀ m c, m < n → c < 4 → u (45 + c) m = v 67 (10 + 18 * m + c)) ∧ ∀ m c, m < 6 → c < 4 → NB (v 67 (10 + 18 * m + c)) 27) ∧
  (u 44 8 = nI V ∧ ∀ m, m < 6 → v 67 (14 + 18 * m) = if V.testBit m then 1 else 0) ∧
  (∀ m, m < 6 → u 50 m = v 67 (15 + 18 * m) ∧ NB (v 67 (15 + 18 * m)) 63) ∧ (∀ m i, m < 6 → i < 12 → u 49 (12 * m + i) = v 67 (16 + 18 * m + i) ∧ NB (v 67 (16 + 18 * m + i)) 9) ∧
  (u 43 11 = nI T ∧ v 64 9 = gr T)
def RPS (u v : SG) : Prop := ∃ n V T, RPA n V T u v
/-- off what is told the reference is as before -/
def FRm (v w : SG) : Prop := (∀ c, c ≠ 64 → c ≠ 65 → w c = v c) ∧ ∀ j, j ≠ 7 → j ≠ 8 → w 65 j = v 65 j
theorem also_id {v v1 : SG} {k x : Int32} (hk : ¬ k = 0) (h8 : v 64 8 = 0) (h : Ralso v k x = some v1) : Ralso v1 k x = some v1 := by
  have two : ∀ s : SG, s 64 8 = 0 → Ralso (up (up s 65 7 k) 65 8 x) k x = some (up (up s 65 7 k) 65 8 x) := by
    intro s hs
    unfold Ralso
    have e7 : up (up s 65 7 k) 65 8 x 65 7 = k := by rw [up_bn (by decide), up_a]
    rw [if_pos (by rw [up_n (by decide), up_n (by decide)]; exact hs), rd_nI (x := 7) (e := 7) rfl (by decide) (by decide)]
    show (if up (up s 65 7 k) 65 8 x 65 7 = 0 then _ else _) = _
    rw [if_neg (by rw [e7]; exact hk), rd_nI (x := 8) (e := 8) rfl (by decide) (by decide)]
    show (if up (up s 65 7 k) 65 8 x 65 8 < x then _ else _) = _
    by_cases c : up (up s 65 7 k) 65 8 x 65 8 < x
    · rw [if_pos c]
    · rw [if_neg c]
      show (if up (up s 65 7 k) 65 8 x 65 8 = x then _ else _) = _
      rw [if_pos up_a]
      show (if k < up (up s 65 7 k) 65 8 x 65 7 then _ else _) = _
      rw [e7, if_neg (Int32.lt_irrefl)]
  have e51 : Ralso_51 v k x = some (up (up v 65 7 k) 65 8 x) := by
    unfold Ralso_51
    rw [wr_nI (x := 7) (e := 7) rfl (by decide) (by decide)]
    show (wrI (up v 65 7 k) 65 5768 8 x).bind _ = _
    rw [wr_nI (x := 8) (e := 8) rfl (by decide) (by decide)]; rfl
  have h0 := h
  unfold Ralso at h
  rw [if_pos h8, rd_nI (x := 7) (e := 7) rfl (by decide) (by decide)] at h
  replace h : (if v 65 7 = 0 then Ralso_51 v k x else (rdI v 65 5768 8).bind fun g2 => if g2 < x then some v else (rdI v 65 5768 8).bind fun g3 => if g3 = x then ((rdI v 65 5768 7).bind fun g4 => if k < g4 then Ralso_51 v k x else some v) else Ralso_51 v k x) = some v1 := h
  rw [e51, rd_nI (x := 8) (e := 8) rfl (by decide) (by decide)] at h
  have done : v1 = v ∨ v1 = up (up v 65 7 k) 65 8 x := by
    split at h
    · cases h; exact Or.inr rfl
    · replace h : (if v 65 8 < x then some v else (if v 65 8 = x then ((rdI v 65 5768 7).bind fun g4 => if k < g4 then some (up (up v 65 7 k) 65 8 x) else some v) else some (up (up v 65 7 k) 65 8 x))) = some v1 := h
      split at h
      · cases h; exact Or.inl rfl
      · split at h
        · rw [rd_nI (x := 7) (e := 7) rfl (by decide) (by decide)] at h
          replace h : (if k < v 65 7 then some (up (up v 65 7 k) 65 8 x) else some v) = some v1 := h
          split at h
          · cases h; exact Or.inr rfl
          · cases h; exact Or.inl rfl
        · cases h; exact Or.inr rfl
  rcases done with rfl | rfl
  · exact h0
  · exact two v h8
section LXR
variable {f : Nat → Int32} {L a e part : Nat} {u v : SG} {so line : Int32} {l : List Int32} {Q : SG → SG → Prop}
/-- a minister told of, then the rest -/
theorem min_b {β : Type} {s : SG} {y : Int32} {k : Int32 × SG → Option β} : ((if y ≤ (s 64 9) then RministerTold_24 s y (s 64 9) else RministerTold_24 s y y).bind k) = k (y, up s 64 9 (if y ≤ s 64 9 then s 64 9 else y)) := by
  unfold RministerTold_24
  split <;> rfl
theorem LX_min {k : Int32 × SG → Option SG} (h : SM f L a e u v) (hp : part < 5)
    (g1 : ∀ (u2 w2 : SG) (a2 e2 m : Nat) (x : Int32), a < a2 → SM f L a2 e2 u2 w2 → FRc u u2 → u2 55 = upd (u 55) part x → FRm v w2 → w2 64 9 = (if nI m ≤ v 64 9 then v 64 9 else nI m) → (w2 65 7 = 0 → v 65 7 = 0 ∧ x = nI m) → m ≤ 5 → pc (k (nI m, w2)) (fun w => LE Q (rlC so line l u2 (part + 1)) w))
    (g2 : ∀ z w, WE u w → pc (k (z, w)) (fun w => WE u w)) : pc ((RministerTold v).bind k) (fun w => LE Q (rlC so line (109 :: l) u part) w) := by
  unfold RministerTold
  refine pc_as ?_
  refine LX_m h hp (fun u2 p a2 e2 x ha sm frc f55 frr hx nb => ?_) (fun z w hw => ?_)
  · obtain ⟨m, em, hm⟩ := nb
    show pc ((if p.1 ≤ (p.2 64 9) then RministerTold_24 p.2 p.1 (p.2 64 9) else RministerTold_24 p.2 p.1 p.1).bind k) _
    rw [min_b, em]
    refine g1 u2 _ a2 e2 m x ha (SM_g sm (fun _ _ => rfl) rfl (fun j hj => by rw [up_bn (by omega)]) (fun j _ => by rw [up_n (by decide)])) frc f55 ⟨fun c b1 b2 => by rw [up_n b1, frr.1 c b1 b2], fun j b1 b2 => by rw [up_n (by decide), frr.2.1 j b1 b2]⟩ (by rw [up_a, frr.2.2 9 (by omega)]) (fun q => ?_) hm
    rw [up_n (by decide)] at q
    rw [← em]; exact hx q
  · show pc ((if z ≤ (w 64 9) then RministerTold_24 w z (w 64 9) else RministerTold_24 w z z).bind k) _
    rw [min_b]
    exact g2 _ _ (we_649 hw)
/-- the second minister of a feud, then the rest -/
theorem LX_feu {y : Int32} {X : SG → Option SG} {k : Int32 × SG → Option SG} (h : SM f L a e u v) (hX : ∀ s, X s = (RministerTold s).bind k) (hy : v 65 7 = 0 → u 55 0 = y)
    (g1 : ∀ (u2 w2 : SG) (a2 e2 m : Nat) (x : Int32), a < a2 → SM f L a2 e2 u2 w2 → FRc u u2 → u2 55 = upd (u 55) 1 x → FRm v w2 → w2 64 9 = (if nI m ≤ v 64 9 then v 64 9 else nI m) → (w2 65 7 = 0 → v 65 7 = 0 ∧ x = nI m) → m ≤ 5 → pc (k (nI m, w2)) (fun w => LE Q (rlC so line l u2 (1 + 1)) w))
    (g2 : ∀ z w, WE u w → pc (k (z, w)) (fun w => WE u w)) : pc (if (v 64 8) = 0 then (if (v 64 5) = 1 then (if (v 64 6) = y then ((Ralso v 2 (v 64 4)).bind fun s2 => X s2) else X v) else X v) else X v) (fun w => LE Q (rlC so line (102 :: l) u 1) w) := by
  have h0 := h
  obtain ⟨hc, hr, h8, tk, hf⟩ := h
  have hL := hr.2.1
  have te := tk.2.2.2.2.1
  have e9 : en u = e := by unfold en; rw [tk.2.1, nI_clamp (by omega)]
  rw [if_pos h8]
  have tkn : (u 43 7 = 2 ∧ a < e ∧ v 64 5 = 1 ∧ numL u (e - a) a 0 = v 64 6 ∧ NB (v 64 6) 99) ∨ (¬ u 43 7 = 2 ∧ ¬ v 64 5 = 1) := by
    rcases tk.2.2.2.2.2 with ⟨_, _, k, k2⟩ | ⟨ae, ⟨k, ⟨k2, _⟩ | ⟨c, _, k2, _⟩⟩ | ⟨k, k2, k3, k4⟩ | ⟨k, k2⟩ | ⟨k, k2⟩⟩
    · exact Or.inr ⟨by rw [k]; decide, by rw [k2]; decide⟩
    · exact Or.inr ⟨by rw [k]; decide, by rw [k2]; decide⟩
    · exact Or.inr ⟨by rw [k]; decide, by rw [k2]; decide⟩
    · exact Or.inl ⟨k, ae, k2, k3, k4⟩
    · exact Or.inr ⟨by rw [k]; decide, by rw [k2]; decide⟩
    · exact Or.inr ⟨by rw [k]; decide, by rw [k2]; decide⟩
  have rp : rpaP u 102 (nI 1) = reaP u 102 (nI 1) := rpa_n (by decide) (by decide) (by decide)
  rcases tkn with ⟨k1, ae, k2, k3, k4⟩ | ⟨k1, k2⟩
  · rw [if_pos k2]
    have est : st u = a := by unfold st; rw [tk.1, nI_clamp (by omega)]
    have a600 : a ≤ 600 := by omega
    obtain ⟨x, ex⟩ : ∃ x, v 64 6 = x := ⟨_, rfl⟩
    -- the class's state
    have cl0 : cl 5 (u 55) 0 = u 55 0 := cl5 (k := 0) (by decide)
    obtain ⟨u1, eu1⟩ : ∃ u1, u1 = (if x = u 55 0 ∨ inI x 0 5 = 0 then notS u 2 (u 43 8) else u) := ⟨_, rfl⟩
    have rea : reaP u 102 (nI 1) = (1, advS (up u1 55 1 x)) := by
      unfold reaP
      rw [if_pos k1, e9, est, k3, ex]
      unfold rnuP
      rw [if_pos rfl, cl0, pt5 (by decide), pt5 (by decide), show leaO 102 = 0 by decide, show mosO 102 = 5 by decide, eu1]
      unfold inI
      by_cases c0 : x = u 55 0
      · rw [if_pos c0, if_pos (Or.inl c0)]
        split
        · rfl
        · split <;> rfl
      · rw [if_neg c0]
        by_cases c1 : x < 0
        · rw [if_pos c1, if_pos (Or.inr (by rw [if_pos c1]))]
        · by_cases c2 : 5 < x
          · rw [if_neg c1, if_pos c2, if_pos (Or.inr (by rw [if_neg c1, if_pos c2]))]
          · rw [if_neg c1, if_neg c2, if_neg]
            rintro (q | q)
            · exact c0 q
            · rw [if_neg c1, if_neg c2] at q; exact absurd q (by decide)
    have n1 := notS_n (s := u) (x := 2) (y := u 43 8)
    have u1c : ∀ c, c ≠ 43 → u1 c = u c := by
      intro c hc
      rw [eu1]; split
      · exact n1.1 c hc
      · rfl
    have u1j : ∀ j, j ≠ 2 → j ≠ 3 → u1 43 j = u 43 j := by
      intro j q1 q2
      rw [eu1]; split
      · exact n1.2 j q1 q2
      · rfl
    -- the reference behind its notes
    have step : ∀ v1 : SG, (∀ c, c ≠ 65 → v1 c = v c) → (∀ j, j ≠ 7 → j ≠ 8 → v1 65 j = v 65 j) → FL e u1 v1 → (v1 65 7 = 0 → v 65 7 = 0 ∧ ¬ inI x 0 5 = 0) → pc ((Rnumbered_44 v1 0 5 x).bind fun p1 => (if p1.1 ≤ (p1.2 64 9) then RministerTold_24 p1.2 p1.1 (p1.2 64 9) else RministerTold_24 p1.2 p1.1 p1.1).bind k) (fun w => LE Q (rlC so line (102 :: l) u 1) w) := by
      intro v1 q1 q2 q3 q4
      have cb : CB f L (up u1 55 1 x) := CB_of hc (by rw [up_n (by decide)]; exact u1j 6 (by decide) (by decide)) (by rw [up_n (by decide)]; exact u1j 9 (by decide) (by decide)) (by rw [up_n (by decide), u1c 54 (by decide)])
      have rt : RTt f L v1 := RTt_of hr (by rw [q1 64 (by decide)]) (fun j hj => q2 j (by omega) (by omega))
      have fl : FL e (up u1 55 1 x) v1 := FL_lo q3 (Nat.le_refl e) (by rw [up_n (by decide)]) (by rw [up_n (by decide)]) rfl rfl
      unfold Rnumbered_44
      refine pc_as (pc_b (pc_ok (SM_adv cb (by rw [up_n (by decide), u1j 9 (by decide) (by decide)]; exact tk.2.1) te rt (by rw [q1 64 (by decide)]; exact tk.2.2.2.1) (by rw [q1 64 (by decide)]; exact h8) fl)) (fun w1 hw1 => ?_))
      obtain ⟨⟨a2, e2, ha2, sm⟩, w1c, w1j⟩ := hw1
      obtain ⟨_, _, c3, c4⟩ := adv_c cb
      have frc : FRc u (advS (up u1 55 1 x)) := ⟨fun c b1 b2 => by rw [c3 c b1, up_n b2, u1c c b1], fun j b1 b2 b3 b4 b5 => by rw [c4 j b3 b4 b5, up_n (by decide), u1j j b1 b2]⟩
      have f55 : advS (up u1 55 1 x) 55 = upd (u 55) 1 x := by rw [c3 55 (by decide), up_s, u1c 55 (by decide)]
      have e94 : w1 64 9 = v 64 9 := by rw [w1j 9 (by omega), q1 64 (by decide)]
      have w7 : w1 65 7 = v1 65 7 := by rw [w1c 65 (by decide)]
      have go : ∀ m, m ≤ 5 → (w1 65 7 = 0 → x = nI m) → pc (k (nI m, up w1 64 9 (if nI m ≤ w1 64 9 then w1 64 9 else nI m))) (fun w => LE Q (rlC so line (102 :: l) u 1) w) := by
        intro m hm hx
        rw [rlC, rp, rea, if_neg (show ¬ ((1 : Int32), advS (up u1 55 1 x)).1 = 0 from (by decide : ¬ (1 : Int32) = 0))]
        refine g1 _ _ a2 e2 m x (by omega) (SM_g sm (fun _ _ => rfl) rfl (fun j hj => by rw [up_bn (by omega)]) (fun j _ => by rw [up_n (by decide)])) frc f55 ⟨fun c b1 b2 => by rw [up_n b1, w1c c b1, q1 c b2], fun j b1 b2 => by rw [up_n (by decide), w1c 65 (by decide), q2 j b1 b2]⟩ (by rw [up_a, e94]) (fun z => ?_) hm
        rw [up_n (by decide)] at z
        exact ⟨(q4 (by rw [← w7]; exact z)).1, hx z⟩
      show pc ((if (inI x 0 5) = 0 then some ((0 : Int32), w1) else some (x, w1)).bind fun p1 => (if p1.1 ≤ (p1.2 64 9) then RministerTold_24 p1.2 p1.1 (p1.2 64 9) else RministerTold_24 p1.2 p1.1 p1.1).bind k) _
      by_cases ci : inI x 0 5 = 0
      · rw [if_pos ci]
        show pc ((if (0 : Int32) ≤ (w1 64 9) then RministerTold_24 w1 0 (w1 64 9) else RministerTold_24 w1 0 0).bind k) _
        rw [min_b]
        exact go 0 (by omega) (fun z => absurd ci (q4 (by rw [← w7]; exact z)).2)
      · rw [if_neg ci]
        show pc ((if x ≤ (w1 64 9) then RministerTold_24 w1 x (w1 64 9) else RministerTold_24 w1 x x).bind k) _
        obtain ⟨m, em, hm⟩ := inI_nI (b := 5) (by decide) ci
        rw [min_b, em]
        exact go m hm (fun _ => em)
    have num : ∀ v1 : SG, v1 64 8 = 0 → v1 64 5 = 1 → v1 64 6 = x → X v1 = (if (inI x 0 5) = 0 then ((Ralso v1 2 (v1 64 4)).bind fun s1 => Rnumbered_44 s1 0 5 x) else Rnumbered_44 v1 0 5 x).bind fun p1 => (if p1.1 ≤ (p1.2 64 9) then RministerTold_24 p1.2 p1.1 (p1.2 64 9) else RministerTold_24 p1.2 p1.1 p1.1).bind k := by
      intro v1 r8 r5 r6
      rw [hX]
      unfold RministerTold Rnumbered
      rw [if_pos r8, if_pos r5, r6]
      cases (if (inI x 0 5) = 0 then ((Ralso v1 2 (v1 64 4)).bind fun s1 => Rnumbered_44 s1 0 5 x) else Rnumbered_44 v1 0 5 x) <;> rfl
    have fln := FL_note (b := e) (p := a) (u := u) (v := v) (Or.inl rfl) hf ae h8 a600
    obtain ⟨va, eva, fa, na, ca, ja⟩ := fln
    have e4 : v 64 4 = nI a := tk.2.2.1
    have n8 : u 43 8 = nI a := tk.1
    -- with a note on the reference's side
    have yes : (x = y ∨ inI x 0 5 = 0) → FL e u1 va := by
      intro q
      rw [eu1, n8]
      by_cases fz : v 65 7 = 0
      · rw [if_pos (q.imp_left (fun z => z.trans (hy fz).symm))]; exact fa
      · split
        · exact fa
        · have va_e : va = v ∨ True := Or.inr trivial
          have hf2 := hf
          rcases hf2 with ⟨_, z, _, _⟩ | ⟨kk, p, hk, f1, f2, f3, f4, f5⟩
          · exact absurd z fz
          · have : Ralso v 2 (nI a) = some v := by
              unfold Ralso
              rw [if_pos h8, rd_nI (x := 7) (e := 7) rfl (by decide) (by decide)]
              show (if v 65 7 = 0 then _ else _) = _
              rw [if_neg fz, rd_nI (x := 8) (e := 8) rfl (by decide) (by decide)]
              show (if v 65 8 < nI a then _ else _) = _
              rw [if_pos (by rw [f4]; exact nI_lt2 f5 (by omega))]
            rw [this] at eva; cases eva
            exact FL_lo hf (by omega) rfl rfl rfl rfl
    have no : ¬ (x = y ∨ inI x 0 5 = 0) → FL e u1 v := by
      intro q
      rw [eu1, n8]
      by_cases fz : v 65 7 = 0
      · rw [if_neg (fun z => q (z.imp_left (fun z => z.trans (hy fz))))]; exact FL_lo hf (by omega) rfl rfl rfl rfl
      · have c2 : ¬ u 43 2 = 0 := fun z => fz ((FL_0 hf).1 z)
        refine FL_lo hf (by omega) ?_ ?_ rfl rfl
        · split
          · unfold notS; rw [if_neg c2, if_neg (by decide)]
          · rfl
        · split
          · unfold notS; rw [if_neg c2, if_neg (by decide)]
          · rfl
    have va8 : va 64 8 = 0 := by rw [ca 64 (by decide)]; exact h8
    have vaX : X va = (if (inI x 0 5) = 0 then ((Ralso va 2 (va 64 4)).bind fun s1 => Rnumbered_44 s1 0 5 x) else Rnumbered_44 va 0 5 x).bind _ := num va va8 (by rw [ca 64 (by decide)]; exact k2) (by rw [ca 64 (by decide)]; exact ex)
    rw [ex]
    by_cases c0 : x = y
    · rw [if_pos c0, e4, eva]
      show pc (X va) _
      rw [vaX, show va 64 4 = nI a by rw [ca 64 (by decide)]; exact e4, also_id (by decide) h8 eva]
      have same : (if (inI x 0 5) = 0 then ((some va).bind fun s1 => Rnumbered_44 s1 0 5 x) else Rnumbered_44 va 0 5 x) = Rnumbered_44 va 0 5 x := by split <;> rfl
      rw [same]
      exact step va ca ja (yes (Or.inl c0)) (fun z => absurd z na)
    · rw [if_neg c0, num v h8 k2 ex]
      by_cases ci : inI x 0 5 = 0
      · rw [if_pos ci, e4, eva]
        exact step va ca ja (yes (Or.inr ci)) (fun z => absurd z na)
      · rw [if_neg ci]
        exact step v (fun _ _ => rfl) (fun _ _ _ => rfl) (no (fun q => q.elim c0 ci)) (fun z => ⟨z, ci⟩)
  · rw [if_neg k2, hX]
    unfold RministerTold
    refine pc_as (pc_b (pc_ok (num_no (part := 1) (hi := 5) h0 k2)) (fun p hno => ?_))
    have rea : reaP u 102 (nI 1) = (0, u) := by unfold reaP; rw [if_neg k1]
    rw [rlC, rp, rea, if_pos (show ((0 : Int32), u).1 = 0 from rfl)]
    rcases hno with ⟨r1, _⟩ | ⟨_, _, wr⟩
    · exact absurd r1 (by decide : ¬ (0 : Int32) = 1)
    · rw [min_b]
      exact pc_w (g2 _ _ (we_649 (WE_of wr))) (fun w hw => LE_w hw)
end LXR
end XTN
