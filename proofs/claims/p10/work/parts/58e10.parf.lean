section XTJ
variable {sc : Nat × (Nat → Int32)} {d : Nat} {K : List KD} {r q t a B m : Nat} {w : EW}
/-! lines of leaks, summers and bargains, on both sides -/
/-- both go on behind a line, with R of what is told so far, if there is no fault -/
def QL (f : Nat → Int32) (L a : Nat) (R : SG → SG → Prop) (u w : SG) : Prop := ∃ a2 e2, a < a2 ∧ SM f L a2 e2 u w ∧ (w 65 7 = 0 → R u w)
/-- the greatest sort of an order, of a deed -/
def bnd (N : Nat) : Nat := if N = 8 then 3 else 5
/-- an order's, a deed's row: its sort; a motion's day -/
def ROK (N : Nat) (f : Nat → Int32) : Prop := NB (f 0) (bnd N) ∧ (N = 40 → f 0 = 0 → NB (f 2) 9 ∧ NB (f 3) 9 ∧ NB (f 4) 9)
theorem ROK_g {N : Nat} {f g : Nat → Int32} (h : ROK N f) (e : ∀ i, i < 5 → g i = f i) : ROK N g := by
  unfold ROK
  rw [e 0 (by omega), e 2 (by omega), e 3 (by omega), e 4 (by omega)]; exact h
/-- rows so far: c columns of each on the reference's side, at most N; the sorts of orders and deeds are bounded -/
def RWS (c N : Nat) (u v : SG) : Prop := ∃ n, n ≤ N ∧ u 52 0 = nI n ∧ u 43 10 = nI n ∧ v 67 0 = nI n ∧ (∀ j i, j < n → i < c → u 53 (5 * j + i) = v 67 (1 + c * j + i)) ∧ (c = 5 → ∀ j, j < n → ROK N (fun i => v 67 (1 + 5 * j + i)))
theorem fin_l {f : Nat → Int32} {L a a2 e2 y : Nat} {u2 w2 : SG} {so line : Int32} {R : SG → SG → Prop} (ha : a < a2) (sm : SM f L a2 e2 u2 w2) (hR : w2 65 7 = 0 → (∀ j, j ≠ 11 → tkeS u2 so line 43 j = u2 43 j) ∧ tkeS u2 so line 54 = u2 54 ∧ R (tkeS u2 so line) w2) : LE (QL f L a R) (rlC so line [] u2 y) w2 := by
  refine Or.inl ⟨rfl, ?_⟩
  show QL f L a R (rlT u2 so line) w2
  have fl := sm.2.2.2.2
  unfold rlT
  by_cases c : w2 65 7 = 0
  · obtain ⟨h1, h2, h3⟩ := hR c
    rw [if_pos ((FL_0 fl).2 c)]
    exact ⟨a2, e2, ha, SM_g sm (fun j hj => h1 j (by omega)) h2 (fun _ _ => rfl) (fun _ _ => rfl), fun _ => h3⟩
  · rw [if_neg (fun q => c ((FL_0 fl).1 q))]
    exact ⟨a2, e2, ha, sm, fun q => absurd q c⟩
theorem row_add {c N n y : Nat} {u2 v w2 : SG} {x : Int32} (hc : c ≤ 5) (hn : n < N) (hN : N ≤ 40) (hy : y ≤ 1) (en : u2 52 0 = nI n) (el : u2 43 10 = nI (n + 1)) (old : ∀ j i, j < n → i < c → u2 53 (5 * j + i) = v 67 (1 + c * j + i)) (w0 : w2 67 0 = nI (n + 1)) (wo : ∀ i, 1 ≤ i → i < 1 + c * n → w2 67 i = v 67 i) (bd : c = 5 → ROK N (fun i => w2 67 (1 + 5 * n + i)) ∧ ∀ j, j < n → ROK N (fun i => v 67 (1 + 5 * j + i))) (new : ∀ i, i < c → w2 67 (1 + c * n + i) = if i = 0 then x else cl 5 (u2 55) (nI (y + i - 1))) :
    (∀ j, adwS u2 x (nI y) 43 j = u2 43 j) ∧ adwS u2 x (nI y) 54 = u2 54 ∧ RWS c N (adwS u2 x (nI y)) w2 := by
  obtain ⟨h1, h2, h3, h4, h5⟩ := adw_e (x := x) en (by omega) hy
  refine ⟨fun j => by rw [h5 43 (by decide) (by decide)], h5 54 (by decide) (by decide), n + 1, by omega, h1, by rw [h5 43 (by decide) (by decide)]; exact el, w0, fun j i hj hi => ?_, fun c5 j hj => ?_⟩
  rotate_left
  · obtain ⟨b1, b2⟩ := bd c5
    subst c5
    by_cases q : j = n
    · subst q; exact b1
    · exact ROK_g (b2 j (by omega)) (fun i hi => wo (1 + 5 * j + i) (by omega) (by omega))
  by_cases q : j = n
  · subst q
    rw [new i hi]
    by_cases z : i = 0
    · subst z; rw [if_pos rfl]; exact h2
    · rw [if_neg z]; exact h3 i (by omega) (by omega)
  · have lt : c * j + i < c * n := by
      have : c * (j + 1) ≤ c * n := Nat.mul_le_mul_left c (by omega)
      rw [Nat.mul_add, Nat.mul_one] at this
      omega
    have lt5 : 5 * j + i < 5 * n := by omega
    rw [h4 _ lt5, old j i (by omega) hi, wo _ (by omega) (by omega)]
/-- yes or no, then the rest -/
theorem LX_yn {f : Nat → Int32} {L a e part : Nat} {u v : SG} {so line : Int32} {l : List Int32} {Q : SG → SG → Prop} {k : Int32 × SG → Option SG} (h : SM f L a e u v) (hp : part < 5)
    (g1 : ∀ (u2 w2 : SG) (a2 e2 : Nat) (b : Bool), a < a2 → SM f L a2 e2 u2 w2 → FRc u u2 → u2 55 = upd (u 55) part (bif b then 1 else 0) → FRr v w2 → w2 65 = v 65 → pc (k (bif b then 30 else 18, w2)) (fun w => LE Q (rlC so line l u2 (part + 1)) w))
    (g2 : ∀ z w, WE u w → pc (k (z, w)) (fun w => WE u w)) : pc (if (v 64 7) = 30 then (Rtakes v 30 30).bind k else (Rtakes v 18 18).bind k) (fun w => LE Q (rlC so line (121 :: l) u part) w) := by
  have t17 : ∀ c, c < 32 → tb 17 c = if c = 17 then 0 else if c = 29 then 1 else -1 := by decide +kernel
  have no : (choI u 17 = -1) → (¬ v 64 5 = 3 ∨ (¬ v 64 7 = 30 ∧ ¬ v 64 7 = 18)) → pc (if (v 64 7) = 30 then (Rtakes v 30 30).bind k else (Rtakes v 18 18).bind k) (fun w => LE Q (rlC so line (121 :: l) u part) w) := by
    intro c1 c2
    rw [rlC, rpa_y]
    unfold cwP
    rw [if_pos c1, if_pos rfl]
    have iz : ∀ x y : Int32, ¬ x = y → inI x y y = 0 := by
      intro x y hxy
      unfold inI
      by_cases q : x < y
      · rw [if_pos q]
      · rw [if_neg q, if_pos]
        have := Int32.not_lt.mp q
        rw [Int32.le_iff_toInt_le] at this
        rw [Int32.lt_iff_toInt_lt]
        have ne : x.toInt ≠ y.toInt := fun z => hxy (Int32.toInt_inj.mp z)
        omega
    refine pc_i (fun q => ?_) (fun q => ?_)
    · refine pc_b (pc_ok (tak_n (x := 30) (y := 30) h (c2.imp_right (fun z => iz _ _ z.1)))) (fun p hp2 => ?_)
      exact fun w hw => LE_w (g2 p.1 p.2 (WE_of hp2.2) w hw)
    · refine pc_b (pc_ok (tak_n (x := 18) (y := 18) h (c2.imp_right (fun z => iz _ _ z.2)))) (fun p hp2 => ?_)
      exact fun w hw => LE_w (g2 p.1 p.2 (WE_of hp2.2) w hw)
  rcases TK_c h with ⟨n5, hz⟩ | ⟨c, hc, ae, h5, h7, hz⟩
  · exact no (hz 17 (by decide)) (Or.inl n5)
  · have tz := hz 17 (by decide)
    rw [t17 c hc] at tz
    have ne : ∀ x, x ≤ 100 → c + 1 ≠ x → ¬ v 64 7 = nI x := fun x hx hne q => hne (nI_inj (by omega) (by omega) (h7.symm.trans q))
    have yes : ∀ b : Bool, choI u 17 = (bif b then 1 else 0) → v 64 7 = (bif b then 30 else 18) → ¬ inI (v 64 7) (bif b then 30 else 18) (bif b then 30 else 18) = 0 → pc ((Rtakes v (bif b then 30 else 18) (bif b then 30 else 18)).bind k) (fun w => LE Q (rlC so line (121 :: l) u part) w) := by
      intro b cb e7 hi
      have n1 : ¬ choI u 17 = -1 := by rw [cb]; cases b <;> decide
      rw [rlC, rpa_y]
      unfold cwP
      rw [if_neg n1, if_neg (show ¬ ((1 : Int32), advS (pt 5 u 55 (nI part) (choI u 17))).1 = 0 from (by decide : ¬ (1 : Int32) = 0)), cb, pt5 hp]
      have y0 := tak_y (u1 := up u 55 part (bif b then 1 else 0)) h ae h5 hi (by rw [up_n (by decide)]) (by rw [up_n (by decide)]) (by rw [up_n (by decide)])
      refine pc_b (pc_ok y0) (fun p hp2 => ?_)
      obtain ⟨p1, ⟨a2, e2, ha2, cb2, rt2, w8, tk2⟩, k1, k2⟩ := hp2
      obtain ⟨hcb, hr, h8, tk, hf⟩ := h
      have a1 : ∀ j, j ≠ 7 → j ≠ 8 → j ≠ 9 → advS (up u 55 part (bif b then 1 else 0)) 43 j = u 43 j := by
        intro j b1 b2 b3
        unfold advS adv1
        repeat' split
        all_goals simp (disch := decide) only [up_n, up_bn b1, up_bn b2, up_bn b3]
      have a3 : ∀ c, c ≠ 43 → advS (up u 55 part (bif b then 1 else 0)) c = up u 55 part (bif b then 1 else 0) c := by
        intro c hc
        unfold advS adv1
        repeat' split
        all_goals simp only [up_n hc]
      have sm : SM f L a2 e2 (advS (up u 55 part (bif b then 1 else 0))) p.2 := ⟨cb2, rt2, w8, tk2, FL_lo hf (Nat.le_of_lt ha2) (a1 2 (by decide) (by decide) (by decide)) (a1 3 (by decide) (by decide) (by decide)) (by rw [k1 65 (by decide)]) (by rw [k1 65 (by decide)])⟩
      have frc : FRc u (advS (up u 55 part (bif b then 1 else 0))) := ⟨fun c b1 b2 => by rw [a3 c b1, up_n b2], fun j b1 b2 b3 b4 b5 => a1 j b3 b4 b5⟩
      have frr : FRr v p.2 := ⟨fun c b1 b2 => k1 c b1, fun j b1 b2 => by rw [k1 65 (by decide)], k2⟩
      have := g1 _ p.2 a2 e2 b ha2 sm frc (by rw [a3 55 (by decide), up_s]) frr (k1 65 (by decide))
      rw [← e7, ← p1] at this
      exact this
    by_cases c17 : c = 17
    · subst c17
      rw [if_pos rfl] at tz
      have e7 : v 64 7 = 18 := h7
      rw [if_neg (by rw [e7]; decide)]
      exact yes false tz e7 (by rw [e7]; decide)
    · by_cases c29 : c = 29
      · subst c29
        rw [if_neg (by decide), if_pos rfl] at tz
        have e7 : v 64 7 = 30 := h7
        rw [if_pos e7]
        exact yes true tz e7 (by rw [e7]; decide)
      · rw [if_neg c17, if_neg c29] at tz
        exact no tz (Or.inr ⟨ne 30 (by decide) (by omega), ne 18 (by decide) (by omega)⟩)
/-- the semicolon of a line, and what the class takes then -/
theorem end_l {f : Nat → Int32} {L a a2 e2 y : Nat} {u3 w4 : SG} {so line : Int32} {R : SG → SG → Prop} (ha : a < a2) (sm : SM f L a2 e2 u3 w4) (hR : w4 65 7 = 0 → ∀ u4 w5 : SG, FRc u3 u4 → u4 55 = u3 55 → FRr w4 w5 → (∀ j, j ≠ 11 → tkeS u4 so line 43 j = u4 43 j) ∧ tkeS u4 so line 54 = u4 54 ∧ R (tkeS u4 so line) w5) : pc ((RendsLine w4).bind fun s1 => some s1) (fun w => LE (QL f L a R) (rlC so line [59] u3 y) w) := by
  refine LX_sem sm (fun u4 w5 a5 e5 ha5 sm5 frc5 f55 frr5 e655 => pc_s (fin_l (by omega) sm5 (fun z => ?_))) (fun w hw => pc_s hw)
  rw [e655] at z
  exact hR z u4 w5 frc5 f55 frr5
theorem SM_67 {f : Nat → Int32} {L a e : Nat} {u v v2 : SG} (h : SM f L a e u v) (q : ∀ c, c ≠ 67 → v2 c = v c) : SM f L a e u v2 :=
  SM_g h (fun _ _ => rfl) rfl (fun j _ => by rw [q 64 (by decide)]) (fun j _ => by rw [q 65 (by decide)])
theorem cl5 {g : Nat → Int32} {k : Nat} (h : k < 5) : cl 5 g (nI k) = g k := cl_nI h (by decide)
theorem upd_a {g : Nat → Int32} {k : Nat} {x : Int32} : upd g k x k = x := pk_us
theorem upd_b {g : Nat → Int32} {i k : Nat} {x : Int32} (h : i ≠ k) : upd g k x i = g i := pk_un h
/-- rows at the beginning of a line, if there is no fault -/
theorem rws_0 {c N : Nat} {u v u0 w0 : SG} (ct : v 65 7 = 0 → RWS c N u v) (hN : N ≤ 40) (f0 : RL0 u u0) (hz : w0 65 7 = 0 → v 65 7 = 0 ∧ ∃ n, n < N ∧ u 43 10 = nI n ∧ v 67 0 = nI n) (z : w0 65 7 = 0) : ∃ n, n < N ∧ u0 52 0 = nI n ∧ u0 43 10 = nI (n + 1) ∧ v 67 0 = nI n ∧ (∀ j i, j < n → i < c → u0 53 (5 * j + i) = v 67 (1 + c * j + i)) ∧ (c = 5 → ∀ j, j < n → ROK N (fun i => v 67 (1 + 5 * j + i))) := by
  obtain ⟨zv, n, hn, e10, e67⟩ := hz z
  obtain ⟨n2, hn2, r52, r10, r67, rows, bds⟩ := ct zv
  obtain rfl : n2 = n := nI_inj (by omega) (by omega) (r67.symm.trans e67)
  exact ⟨n2, hn, by rw [f0.1 52 (by decide) (by decide)]; exact r52, by rw [f0.2.1, e10, ← nI_succ], r67, fun j i hj hi => by rw [f0.1 53 (by decide) (by decide)]; exact rows j i hj hi, bds⟩
/-! leaks -/
theorem w_leak137 {u w : SG} {x y z : Int32} (hw : WE u w) : pc (RleakLine_137 w x y z) (fun w => WE u w) := by
  unfold RleakLine_137
  exact we_sem hw (pc_s hw)
theorem w_leak126 {u w : SG} {x y z g h : Int32} (hw : WE u w) : pc (RleakLine_126 w x y z g h) (fun w => WE u w) := by
  unfold RleakLine_126
  exact we_wri hw (fun w1 h1 => pc_rd (fun _ => we_wri h1 (fun w2 h2 => w_leak137 h2)))
theorem w_leak73 {u w : SG} {x y z : Int32} (hw : WE u w) : pc (RleakLine_73 w x y z) (fun w => WE u w) := by
  unfold RleakLine_73
  exact pc_rd (fun _ => pc_i (fun _ => w_leak137 hw) (fun _ => pc_rd (fun _ => we_wri hw (fun w1 h1 => pc_rd (fun _ => pc_i (fun _ => w_leak126 h1) (fun _ => w_leak126 h1))))))
theorem w_leak38 {u v : SG} {y1 : Int32} (h : WE u v) : pc (RleakLine_38 v y1) (fun w => WE u w) := by
  unfold RleakLine_38
  exact we_num h (fun z => pc_i (fun _ => we_tak h (fun _ => w_leak73 h)) (fun _ => we_tak h (fun _ => w_leak73 h)))
theorem lin_3 {f : Nat → Int32} {L a e : Nat} {u v : SG} (h : SM f L a e u v) (ct : v 65 7 = 0 → RWS 2 8 u v) : pc (RleakLine v) (fun w => LE (QL f L a (RWS 2 8)) (rliP u 3) w) := by
  unfold RleakLine
  refine pc_b (key_c (z := 3) (lo := 29) (hi := 29) h (by decide) (by decide +kernel) (by decide) (by decide) (by decide)) (fun p hp => ?_)
  rcases hp with ⟨c1, we⟩ | ⟨k, ae, hk, c1, ep, ky⟩
  · rw [rliP_n (so := 3) (show choI u (worZ 3) = -1 from c1)]
    exact pc_w (Q := fun w => WE u w) (pc_i (fun z => absurd z we.1) (fun _ => w_leak38 we)) (fun w hw => LE_w hw)
  · obtain rfl : k = 0 := by omega
    have c2 : choI u (worZ 3) = nI 0 := c1
    rw [rliP_c (so := 3) (by rw [c2]; decide), c2, show forms 3 (nI 0) = [109, 121, 59] by decide +kernel]
    obtain ⟨n1, n2, n3⟩ := cnt_f (u := u) (so := 3)
    refine sta_l (so := 3) (M := 8) (X := fun w => RleakLine_38 w (v 64 4)) h (by decide) (by decide) (cou_e (Or.inl (by decide))) (ky _ (n2 6 (by decide) (by decide) (by decide)) (n2 9 (by decide) (by decide) (by decide)) (n1 54 (by decide))) (fun z => by obtain ⟨n, hn, _, q1, q2, _⟩ := ct z; exact ⟨n, hn, q1, q2⟩) (fun w0 a2 e2 ha2 sm f0 f67 f65 f64 hz => ?_)
    show pc (RleakLine_38 w0 (v 64 4)) _
    unfold RleakLine_38
    refine LX_m sm (by omega) (fun u2 p1 a3 e3 x ha3 sm2 frc2 f552 frr2 hx nb => ?_) (fun z w hw => pc_i (fun _ => we_tak hw (fun _ => w_leak73 hw)) (fun _ => we_tak hw (fun _ => w_leak73 hw)))
    refine LX_yn (k := fun p2 => RleakLine_73 p2.2 (v 64 4) p1.1 p2.1) sm2 (by omega) (fun u3 w3 a4 e4 b ha4 sm3 frc3 f553 frr3 e653 => ?_) (fun z w hw => w_leak73 hw)
    show pc (RleakLine_73 w3 (v 64 4) p1.1 (bif b then 30 else 18)) _
    have fin : ∀ w4 : SG, (∀ c, c ≠ 67 → w4 c = w3 c) → (w3 65 7 = 0 → ∃ n, n < 8 ∧ u3 52 0 = nI n ∧ u3 43 10 = nI (n + 1) ∧ (∀ j i, j < n → i < 2 → u3 53 (5 * j + i) = v 67 (1 + 2 * j + i)) ∧ w4 67 0 = nI (n + 1) ∧ (∀ i, 1 ≤ i → i < 1 + 2 * n → w4 67 i = v 67 i) ∧ w4 67 (1 + 2 * n) = u3 55 0 ∧ w4 67 (1 + 2 * n + 1) = u3 55 1) → pc (RleakLine_137 w4 (v 64 4) p1.1 (bif b then 30 else 18)) (fun w => LE (QL f L a (RWS 2 8)) (rlC 3 (nI 0) [59] u3 (0 + 1 + 1)) w) := by
      intro w4 q1 q2
      unfold RleakLine_137
      refine end_l (by omega) (SM_67 sm3 q1) (fun z u4 w5 frc5 f55 frr5 => ?_)
      rw [q1 65 (by decide)] at z
      obtain ⟨n, hn, en, el, rows, g0, gi, gn, gn1⟩ := q2 z
      have et : tkeS u4 3 (nI 0) = adwS u4 (cl 5 (u4 55) 0) (nI 1) := by
        unfold tkeS tkeSW
        rw [if_neg (by decide), if_neg (by decide), if_neg (by decide), if_pos rfl]; rfl
      rw [et]
      have e67 : w5 67 = w4 67 := frr5.1 67 (by decide) (by decide)
      have rr := row_add (c := 2) (N := 8) (n := n) (y := 1) (u2 := u4) (v := v) (w2 := w5) (x := cl 5 (u4 55) 0) (by decide) hn (by decide) (by decide) (by rw [frc5.1 52 (by decide) (by decide)]; exact en) (by rw [frc5.2 10 (by decide) (by decide) (by decide) (by decide) (by decide)]; exact el) (fun j i hj hi => by rw [frc5.1 53 (by decide) (by decide)]; exact rows j i hj hi) (by rw [e67]; exact g0) (fun i h1 h2 => by rw [e67]; exact gi i h1 h2) (fun q => absurd q (by decide)) (fun i hi => ?_)
      · exact ⟨fun j _ => rr.1 j, rr.2.1, rr.2.2⟩
      · rw [e67, f55]
        rcases (by omega : i = 0 ∨ i = 1) with rfl | rfl
        · rw [if_pos rfl, Nat.add_zero, gn]; exact (cl5 (k := 0) (by decide)).symm
        · rw [if_neg (by decide), gn1]; exact (cl5 (k := 1) (by decide)).symm
    unfold RleakLine_73
    by_cases fz : w3 65 7 = 0
    · have fz2 : p1.2 65 7 = 0 := by rw [← e653]; exact fz
      obtain ⟨fz1, ex⟩ := hx fz2
      obtain ⟨n, hn, en, el, r67, rows, _⟩ := rws_0 ct (by decide) f0 hz fz1
      have g67 : w3 67 = v 67 := by rw [frr3.1 67 (by decide) (by decide), frr2.1 67 (by decide) (by decide), f67 67 (by decide) (by decide)]
      have d52 : u3 52 = rl0 u 3 52 := by rw [frc3.1 52 (by decide) (by decide), frc2.1 52 (by decide) (by decide)]
      have d53 : u3 53 = rl0 u 3 53 := by rw [frc3.1 53 (by decide) (by decide), frc2.1 53 (by decide) (by decide)]
      have d10 : u3 43 10 = rl0 u 3 43 10 := by rw [frc3.2 10 (by decide) (by decide) (by decide) (by decide) (by decide), frc2.2 10 (by decide) (by decide) (by decide) (by decide) (by decide)]
      have d0 : u3 55 0 = p1.1 := by rw [f553, upd_b (by decide), f552, upd_a]; exact ex
      have d1 : u3 55 1 = bif b then 1 else 0 := by rw [f553, upd_a]
      refine pc_rdv (e := 0) rfl (by decide) (by decide) ?_
      rw [g67, r67, if_neg (show ¬ (8 : Int32) ≤ nI n from nI_ge (b := 8) (by omega) (by decide))]
      refine pc_rdv (e := 0) rfl (by decide) (by decide) ?_
      rw [g67, r67]
      refine pc_wrv (e := 1 + 2 * n) (by rw [show (2 : Int32) * nI n = nI (2 * n) from nI_mulx 2 n]; exact nI_add 1 _) (by omega) (by decide) ?_
      refine pc_rdv (e := 0) rfl (by decide) (by decide) ?_
      rw [up_bn (by omega), g67, r67]
      have go : ∀ x, x = (bif b then (1 : Int32) else 0) → pc (RleakLine_126 (up w3 67 (1 + 2 * n) p1.1) (v 64 4) p1.1 (bif b then 30 else 18) x (2 + 2 * nI n)) (fun w => LE (QL f L a (RWS 2 8)) (rlC 3 (nI 0) [59] u3 (0 + 1 + 1)) w) := by
        intro x exb
        unfold RleakLine_126
        refine pc_wrv (e := 2 + 2 * n) (by rw [show (2 : Int32) * nI n = nI (2 * n) from nI_mulx 2 n]; exact nI_add 2 _) (by omega) (by decide) ?_
        refine pc_rdv (e := 0) rfl (by decide) (by decide) ?_
        refine pc_wrv (e := 0) rfl (by decide) (by decide) ?_
        rw [up_bn (by omega), up_bn (by omega), g67, r67, ← nI_succ]
        refine fin _ (fun c hc => by rw [up_n hc, up_n hc, up_n hc]) (fun _ => ⟨n, hn, by rw [d52]; exact en, by rw [d10]; exact el, fun j i hj hi => by rw [d53]; exact rows j i hj hi, up_a, fun i h1 h2 => ?_, ?_, ?_⟩)
        · rw [up_bn (by omega), up_bn (by omega), up_bn (by omega), g67]
        · rw [up_bn (by omega), up_bn (by omega), up_a, d0]
        · rw [up_bn (by omega), show 1 + 2 * n + 1 = 2 + 2 * n by omega, up_a, d1, exb]
      cases b
      · rw [if_neg (show ¬ (bif false then (30 : Int32) else 18) = 30 by decide)]; exact go 0 rfl
      · rw [if_pos (show (bif true then (30 : Int32) else 18) = 30 from rfl)]; exact go 1 rfl
    · have imp : ∀ w4 : SG, (∀ c, c ≠ 67 → w4 c = w3 c) → pc (RleakLine_137 w4 (v 64 4) p1.1 (bif b then 30 else 18)) (fun w => LE (QL f L a (RWS 2 8)) (rlC 3 (nI 0) [59] u3 (0 + 1 + 1)) w) := fun w4 q1 => fin w4 q1 (fun z => absurd z fz)
      have i126 : ∀ (w4 : SG) (x y : Int32), (∀ c, c ≠ 67 → w4 c = w3 c) → pc (RleakLine_126 w4 (v 64 4) p1.1 (bif b then 30 else 18) x y) (fun w => LE (QL f L a (RWS 2 8)) (rlC 3 (nI 0) [59] u3 (0 + 1 + 1)) w) := by
        intro w4 x y q1
        unfold RleakLine_126
        exact pc_wr (fun j1 => pc_rd (fun _ => pc_wr (fun j2 => imp _ (fun c hc => by rw [up_n hc, up_n hc, q1 c hc]))))
      exact pc_rd (fun _ => pc_i (fun _ => imp _ (fun _ _ => rfl)) (fun _ => pc_rd (fun _ => pc_wr (fun j => pc_rd (fun _ => pc_i (fun _ => i126 _ _ _ (fun c hc => up_n hc)) (fun _ => i126 _ _ _ (fun c hc => up_n hc)))))))
end XTJ
