section XTB
variable {sc : Nat × (Nat → Int32)} {d : Nat} {K : List KD} {r q t a B m : Nat} {w : EW}
/-! the reference's side -/
def RTt (f : Nat → Int32) (L : Nat) (t : SG) : Prop := t 64 2 = nI L ∧ L ≤ 600 ∧ (∀ j, j < L → t 65 (10 + j) = f j) ∧ ∀ j, j < L → 0 ≤ f j
theorem bA_f {f : Nat → Int32} {L p : Nat} {t : SG} (h : RTt f L t) (hp : p < L) : bA t L p = f p := by
  unfold bA
  rw [if_neg (by omega)]; exact h.2.2.1 p hp
theorem bA_n {L p : Nat} {t : SG} (hp : L ≤ p) : bA t L p = -1 := if_pos hp
/-- off its token the reference is as before -/
def AX (t u : SG) (n : Nat) : Prop := u 64 3 = nI n ∧ (∀ j, (j < 3 ∨ 8 ≤ j) → u 64 j = t 64 j) ∧ ∀ c, c ≠ 64 → u c = t c
theorem AX_up {t u : SG} {n j : Nat} {x : Int32} (h : AX t u n) (h1 : 3 < j) (h2 : j < 8) : AX t (up u 64 j x) n :=
  ⟨by rw [up_bn (by omega)]; exact h.1, fun i hi => by rw [up_bn (by omega)]; exact h.2.1 i hi, fun c hc => by rw [up_n hc]; exact h.2.2 c hc⟩
theorem AX_next {t u : SG} {n : Nat} (h : AX t u n) : AX t (up u 64 3 (u 64 3 + 1)) (n + 1) :=
  ⟨by rw [up_a, h.1, nI_succ], fun i hi => by rw [up_bn (by omega)]; exact h.2.1 i hi, fun c hc => by rw [up_n hc]; exact h.2.2 c hc⟩
theorem AX_RTt {f : Nat → Int32} {L n : Nat} {t u : SG} (h : AX t u n) (r : RTt f L t) : RTt f L u :=
  ⟨(h.2.1 2 (by omega)).trans r.1, r.2.1, fun j hj => by rw [h.2.2 65 (by decide)]; exact r.2.2.1 j hj, r.2.2.2⟩
theorem AX_by {f : Nat → Int32} {L n : Nat} {t u : SG} (h : AX t u n) (r : RTt f L t) (hn : n < L) : RbyteAt u (u 64 3) = some (f n) := by
  have r2 := AX_RTt h r
  rw [byteAt_eq r2.1 h.1 r.2.1 (by have := r.2.1; omega), bA_f r2 hn]
theorem AX_end {f : Nat → Int32} {L n : Nat} {t u : SG} (h : AX t u n) (r : RTt f L t) (hn : n = L) : RbyteAt u (u 64 3) = some (-1) := by
  have r2 := AX_RTt h r
  rw [byteAt_eq r2.1 h.1 r.2.1 (by have := r.2.1; omega), bA_n (by omega)]
/-- a number's value -/
def nuF (f : Nat → Int32) : Nat → Nat → Int32 → Int32
  | 0, _, y => y
  | n + 1, j, y => nuF f n (j + 1) (y * 10 + f j - 48)
theorem nuF_s {f : Nat → Int32} : ∀ (n j : Nat) (y : Int32), nuF f (n + 1) j y = 10 * nuF f n j y + f (j + n) - 48 := by
  intro n
  induction n with
  | zero => intro j y; rw [nuF, nuF, nuF, Int32.mul_comm]; rfl
  | succ n ih =>
    intro j y
    rw [nuF, ih (j + 1), show j + 1 + n = j + (n + 1) by omega]; rfl
/-- a word's letters, five bits each -/
def enF (f : Nat → Int32) : Nat → Nat → Int64 → Int64
  | 0, _, y => y
  | n + 1, j, y => enF f n (j + 1) (32 * y + Int32.toInt64 (f j) - 96)
theorem enF_s {f : Nat → Int32} : ∀ (n j : Nat) (y : Int64), enF f (n + 1) j y = 32 * enF f n j y + Int32.toInt64 (f (j + n)) - 96 := by
  intro n
  induction n with
  | zero => intro j y; rfl
  | succ n ih =>
    intro j y
    rw [enF, ih (j + 1), show j + 1 + n = j + (n + 1) by omega]; rfl
noncomputable def cod (f : Nat → Int32) (a k : Nat) : Int32 := if k ≤ 8 then RwordOf (enF f k a 0) else 99
theorem sub_le {n a : Nat} (c : Nat) (h : a ≤ n) (hn : n ≤ 600) (hc : c ≤ 600) : (nI n - nI a ≤ nI c ↔ n - a ≤ c) ∧ (nI c ≤ nI n - nI a ↔ c ≤ n - a) := by
  rw [nI_subn h]
  refine ⟨⟨fun q => ?_, fun q => nI_le2 q (by omega)⟩, ⟨fun q => ?_, fun q => nI_le2 q (by omega)⟩⟩
  · rw [Int32.le_iff_toInt_le, nI_toInt (by omega), nI_toInt (by omega)] at q; omega
  · rw [Int32.le_iff_toInt_le, nI_toInt (by omega), nI_toInt (by omega)] at q; omega
theorem rx198 {f : Nat → Int32} {L a : Nat} {t : SG} {y1 : Int32} (r : RTt f L t) : ∀ (m n z : Nat) (u : SG), AX t u n → u 64 4 = nI a → n + m = L → m ≤ z → a ≤ n → u 64 6 = nuF f (min (n - a) 2) a 0 → ok (Radvance_198 (Radvance_R z).1 (Radvance_R z).2.1 (Radvance_R z).2.2 u y1) (fun w => AX t w (pD f m n) ∧ w 64 4 = nI a ∧ w 64 5 = (if pD f m n - a ≤ 2 then 1 else 4) ∧ (pD f m n - a ≤ 2 → w 64 6 = nuF f (pD f m n - a) a 0)) := by
  have hL := r.2.1
  have fin : ∀ (n z : Nat) (u : SG), AX t u n → u 64 4 = nI a → n ≤ L → a ≤ n → u 64 6 = nuF f (min (n - a) 2) a 0 → ok (if ((u 64 3) - (u 64 4)) ≤ 2 then Radvance_280 (Radvance_R z).1 (Radvance_R z).2.1 (Radvance_R z).2.2 u y1 (1) else Radvance_280 (Radvance_R z).1 (Radvance_R z).2.1 (Radvance_R z).2.2 u y1 (4)) (fun w => AX t w n ∧ w 64 4 = nI a ∧ w 64 5 = (if n - a ≤ 2 then 1 else 4) ∧ (n - a ≤ 2 → w 64 6 = nuF f (n - a) a 0)) := by
    intro n z u h h4 hn ha h6
    have e := (sub_le 2 ha (by omega) (by omega)).1
    rw [← h.1, ← h4] at e
    unfold Radvance_280
    refine ok_i (fun c => ok_s ⟨AX_up h (by decide) (by decide), ?_, ?_, fun q => ?_⟩) (fun c => ok_s ⟨AX_up h (by decide) (by decide), ?_, ?_, fun q => absurd (e.2 q) c⟩)
    · rw [up_bn (by decide)]; exact h4
    · rw [up_a, if_pos (e.1 c)]
    · rw [up_bn (by decide), h6, Nat.min_eq_left q]
    · rw [up_bn (by decide)]; exact h4
    · rw [up_a, if_neg (fun q => c (e.2 q))]
  intro m
  induction m with
  | zero =>
    intro n z u h h4 hn hz ha h6
    unfold Radvance_198
    refine ok_be (AX_end h r (by omega)) ?_
    rw [if_pos (show RisDigit (-1) = 0 by decide)]
    exact fin n z u h h4 (by omega) ha h6
  | succ m ih =>
    intro n z u h h4 hn hz ha h6
    obtain ⟨z, rfl⟩ : ∃ z', z = z' + 1 := ⟨z - 1, by omega⟩
    unfold Radvance_198
    refine ok_be (AX_by h r (by omega)) ?_
    rw [pD]
    by_cases c : isd_I (f n) = 0
    · rw [if_pos (show RisDigit (f n) = 0 from c), if_pos c]
      exact fin n (z + 1) u h h4 (by omega) ha h6
    · rw [if_neg (show ¬ RisDigit (f n) = 0 from c), if_neg c]
      have e := (sub_le (n := n) (a := a) 2 ha (by omega) (by omega)).2
      rw [← h.1, ← h4] at e
      refine ok_i (fun q => ?_) (fun q => ok_be (AX_by h r (by omega)) ?_)
      · refine ih (n + 1) z _ (AX_next h) (by rw [up_bn (by decide)]; exact h4) (by omega) (by omega) (by omega) ?_
        rw [up_bn (by decide), h6]
        have := e.1 q
        rw [show min (n - a) 2 = 2 by omega, show min (n + 1 - a) 2 = 2 by omega]
      · have q2 : ¬ 2 ≤ n - a := fun k => q (e.2 k)
        have h' := AX_up (j := 6) (x := 10 * u 64 6 + f n - 48) h (by decide) (by decide)
        refine ih (n + 1) z _ (AX_next h') (by rw [up_bn (by decide), up_bn (by decide)]; exact h4) (by omega) (by omega) (by omega) ?_
        rw [up_bn (by decide), up_a, h6, show min (n - a) 2 = n - a by omega, show min (n + 1 - a) 2 = (n - a) + 1 by omega, nuF_s, show a + (n - a) = n by omega]
theorem rx77 {f : Nat → Int32} {L a : Nat} {t : SG} {y1 : Int32} (r : RTt f L t) : ∀ (m n z : Nat) (u : SG) (y2 : Int64), AX t u n → u 64 4 = nI a → n + m = L → m ≤ z → a ≤ n → y2 = enF f (min (n - a) 8) a 0 → ok (Radvance_77 (Radvance_R z).1 (Radvance_R z).2.1 (Radvance_R z).2.2 u y1 y2) (fun w => AX t w (pL f m n) ∧ w 64 4 = nI a ∧ w 64 7 = cod f a (pL f m n - a) ∧ w 64 5 = (if cod f a (pL f m n - a) = 99 then 4 else 3)) := by
  have hL := r.2.1
  have end_ : ∀ (n z : Nat) (u : SG) (y2 : Int64) (v : Int32), AX t u n → u 64 4 = nI a → v = cod f a (n - a) → ok (Radvance_162 (Radvance_R z).1 (Radvance_R z).2.1 (Radvance_R z).2.2 u y1 y2 v) (fun w => AX t w n ∧ w 64 4 = nI a ∧ w 64 7 = cod f a (n - a) ∧ w 64 5 = (if cod f a (n - a) = 99 then 4 else 3)) := by
    intro n z u y2 v h h4 hv
    unfold Radvance_162 Radvance_180
    have h' := AX_up (j := 7) (x := v) h (by decide) (by decide)
    refine ok_i (fun c => ok_s ⟨AX_up h' (by decide) (by decide), ?_, ?_, ?_⟩) (fun c => ok_s ⟨AX_up h' (by decide) (by decide), ?_, ?_, ?_⟩)
    · rw [up_bn (by decide), up_bn (by decide)]; exact h4
    · rw [up_bn (by decide), up_a]; exact hv
    · rw [up_a, ← hv, if_pos c]
    · rw [up_bn (by decide), up_bn (by decide)]; exact h4
    · rw [up_bn (by decide), up_a]; exact hv
    · rw [up_a, ← hv, if_neg c]
  have fin : ∀ (n z : Nat) (u : SG) (y2 : Int64), AX t u n → u 64 4 = nI a → n ≤ L → a ≤ n → y2 = enF f (min (n - a) 8) a 0 → ok (if ((u 64 3) - (u 64 4)) ≤ 8 then Radvance_162 (Radvance_R z).1 (Radvance_R z).2.1 (Radvance_R z).2.2 u y1 y2 (RwordOf y2) else Radvance_162 (Radvance_R z).1 (Radvance_R z).2.1 (Radvance_R z).2.2 u y1 y2 (99)) (fun w => AX t w n ∧ w 64 4 = nI a ∧ w 64 7 = cod f a (n - a) ∧ w 64 5 = (if cod f a (n - a) = 99 then 4 else 3)) := by
    intro n z u y2 h h4 hn ha hy
    have e := (sub_le 8 ha (by omega) (by omega)).1
    rw [← h.1, ← h4] at e
    refine ok_i (fun c => end_ n z u y2 _ h h4 ?_) (fun c => end_ n z u y2 _ h h4 ?_)
    · unfold cod
      rw [if_pos (e.1 c), hy, Nat.min_eq_left (e.1 c)]
    · unfold cod
      rw [if_neg (fun q => c (e.2 q))]
  intro m
  induction m with
  | zero =>
    intro n z u y2 h h4 hn hz ha hy
    unfold Radvance_77
    refine ok_be (AX_end h r (by omega)) ?_
    rw [if_pos (show RisLetter (-1) = 0 by decide)]
    exact fin n z u y2 h h4 (by omega) ha hy
  | succ m ih =>
    intro n z u y2 h h4 hn hz ha hy
    obtain ⟨z, rfl⟩ : ∃ z', z = z' + 1 := ⟨z - 1, by omega⟩
    unfold Radvance_77
    refine ok_be (AX_by h r (by omega)) ?_
    rw [pL]
    by_cases c : isl_I (f n) = 0
    · rw [if_pos (show RisLetter (f n) = 0 from c), if_pos c]
      exact fin n (z + 1) u y2 h h4 (by omega) ha hy
    · rw [if_neg (show ¬ RisLetter (f n) = 0 from c), if_neg c]
      have e := (sub_le (n := n) (a := a) 8 ha (by omega) (by omega)).2
      rw [← h.1, ← h4] at e
      refine ok_i (fun q => ?_) (fun q => ok_be (AX_by h r (by omega)) ?_)
      · refine ih (n + 1) z _ y2 (AX_next h) (by rw [up_bn (by decide)]; exact h4) (by omega) (by omega) (by omega) ?_
        have := e.1 q
        rw [hy, show min (n - a) 8 = 8 by omega, show min (n + 1 - a) 8 = 8 by omega]
      · have q2 : ¬ 8 ≤ n - a := fun k => q (e.2 k)
        refine ih (n + 1) z _ _ (AX_next h) (by rw [up_bn (by decide)]; exact h4) (by omega) (by omega) (by omega) ?_
        rw [hy, show min (n - a) 8 = n - a by omega, show min (n + 1 - a) 8 = (n - a) + 1 by omega, enF_s, show a + (n - a) = n by omega]
/-- what kind of token lies from a to e, as the reference says it -/
def KR (f : Nat → Int32) (L a e : Nat) (v : SG) : Prop := (a = L ∧ e = L ∧ v 64 5 = 0) ∨ (a < L ∧ ¬ isl_I (f a) = 0 ∧ e = pL f (L - a) a ∧ v 64 7 = cod f a (e - a) ∧ v 64 5 = if cod f a (e - a) = 99 then 4 else 3) ∨ (a < L ∧ isl_I (f a) = 0 ∧ ¬ isd_I (f a) = 0 ∧ e = pD f (L - a) a ∧ (v 64 5 = if e - a ≤ 2 then 1 else 4) ∧ (e - a ≤ 2 → v 64 6 = nuF f (e - a) a 0)) ∨ (a < L ∧ isl_I (f a) = 0 ∧ isd_I (f a) = 0 ∧ e = a + 1 ∧ v 64 5 = if f a = 59 then 2 else 4)
/-- the reference's token, after it went on from p -/
def RTk (f : Nat → Int32) (L p : Nat) (t v : SG) : Prop := ∃ e, e ≤ L ∧ pB f (L - p) p ≤ e ∧ v 64 4 = nI (pB f (L - p) p) ∧ AX t v e ∧ KR f L (pB f (L - p) p) e v
theorem rx0 {f : Nat → Int32} {L : Nat} {t : SG} (r : RTt f L t) : ∀ (m n z : Nat) (u : SG), AX t u n → n + m = L → m ≤ z → ok (Radvance_0 (Radvance_R z).1 (Radvance_R z).2.1 (Radvance_R z).2.2 u) (fun w => ∃ e, e ≤ L ∧ pB f m n ≤ e ∧ w 64 4 = nI (pB f m n) ∧ AX t w e ∧ KR f L (pB f m n) e w) := by
  have hL := r.2.1
  have last : ∀ (n z m : Nat) (u : SG), AX t u n → n + m = L → m ≤ z → ok ((RbyteAt (up u 64 4 (u 64 3)) (u 64 3)).bind fun q3 => if 0 ≤ q3 then (if (RisLetter q3) = 0 then (if (RisDigit q3) = 0 then (if q3 = 59 then Radvance_308 (Radvance_R z).1 (Radvance_R z).2.1 (Radvance_R z).2.2 (up (up u 64 4 (u 64 3)) 64 3 ((u 64 3) + 1)) q3 (2) else Radvance_308 (Radvance_R z).1 (Radvance_R z).2.1 (Radvance_R z).2.2 (up (up u 64 4 (u 64 3)) 64 3 ((u 64 3) + 1)) q3 (4)) else Radvance_198 (Radvance_R z).1 (Radvance_R z).2.1 (Radvance_R z).2.2 (up (up u 64 4 (u 64 3)) 64 6 0) q3) else Radvance_77 (Radvance_R z).1 (Radvance_R z).2.1 (Radvance_R z).2.2 (up u 64 4 (u 64 3)) q3 (0)) else some (up (up u 64 4 (u 64 3)) 64 5 0)) (fun w => ∃ e, e ≤ L ∧ n ≤ e ∧ w 64 4 = nI n ∧ AX t w e ∧ KR f L n e w) := by
    intro n z m u h hn hz
    have h' := AX_up (j := 4) (x := u 64 3) h (by decide) (by decide)
    have e3 : up u 64 4 (u 64 3) 64 3 = u 64 3 := up_bn (by decide)
    have h4 : up u 64 4 (u 64 3) 64 4 = nI n := by rw [up_a]; exact h.1
    by_cases c0 : n < L
    · have b := AX_by h' r c0
      rw [e3] at b
      refine ok_be b ?_
      rw [if_pos (r.2.2.2 n c0)]
      by_cases c1 : isl_I (f n) = 0
      · rw [if_pos (show RisLetter (f n) = 0 from c1)]
        by_cases c2 : isd_I (f n) = 0
        · rw [if_pos (show RisDigit (f n) = 0 from c2)]
          have h2 := AX_next h'
          rw [e3] at h2
          have h24 : up (up u 64 4 (u 64 3)) 64 3 (u 64 3 + 1) 64 4 = nI n := by rw [up_bn (by decide)]; exact h4
          unfold Radvance_308
          refine ok_i (fun c => ok_s ⟨n + 1, by omega, by omega, ?_, AX_up h2 (by decide) (by decide), Or.inr (Or.inr (Or.inr ⟨c0, c1, c2, rfl, ?_⟩))⟩) (fun c => ok_s ⟨n + 1, by omega, by omega, ?_, AX_up h2 (by decide) (by decide), Or.inr (Or.inr (Or.inr ⟨c0, c1, c2, rfl, ?_⟩))⟩)
          · rw [up_bn (by decide)]; exact h24
          · rw [up_a, if_pos c]
          · rw [up_bn (by decide)]; exact h24
          · rw [up_a, if_neg c]
        · rw [if_neg (show ¬ RisDigit (f n) = 0 from c2)]
          have lD := pD_le (f := f) m n
          refine ok_w (rx198 (a := n) r m n z _ (AX_up h' (by decide) (by decide)) (by rw [up_bn (by decide)]; exact h4) hn hz (Nat.le_refl n) (by rw [up_a, Nat.sub_self]; rfl)) (fun w hw => ?_)
          rw [show m = L - n by omega] at hw lD
          exact ⟨pD f (L - n) n, by omega, by omega, hw.2.1, hw.1, Or.inr (Or.inr (Or.inl ⟨c0, c1, c2, rfl, hw.2.2.1, hw.2.2.2⟩))⟩
      · rw [if_neg (show ¬ RisLetter (f n) = 0 from c1)]
        have lL := pL_le (f := f) m n
        refine ok_w (rx77 (a := n) r m n z _ 0 h' h4 hn hz (Nat.le_refl n) (by rw [Nat.sub_self]; rfl)) (fun w hw => ?_)
        rw [show m = L - n by omega] at hw lL
        exact ⟨pL f (L - n) n, by omega, by omega, hw.2.1, hw.1, Or.inr (Or.inl ⟨c0, c1, rfl, hw.2.2.1, hw.2.2.2⟩)⟩
    · have b := AX_end h' r (by omega)
      rw [e3] at b
      refine ok_be b ?_
      rw [if_neg (by decide)]
      have en : n = L := by omega
      exact ok_s ⟨L, by omega, by omega, by rw [up_bn (by decide)]; exact h4, by rw [← en]; exact AX_up h' (by decide) (by decide), Or.inl ⟨en, rfl, up_a⟩⟩
  intro m
  induction m with
  | zero =>
    intro n z u h hn hz
    unfold Radvance_0
    refine ok_be (AX_end h r (by omega)) ?_
    rw [if_neg (by decide)]
    refine ok_be (AX_end h r (by omega)) ?_
    rw [if_neg (by decide)]
    exact last n z 0 u h hn hz
  | succ m ih =>
    intro n z u h hn hz
    obtain ⟨z, rfl⟩ : ∃ z', z = z' + 1 := ⟨z - 1, by omega⟩
    unfold Radvance_0
    have go : ¬ isb_I (f n) = 0 → ok (Radvance_26 (Radvance_R (z + 1)).1 (Radvance_R (z + 1)).2.1 (Radvance_R (z + 1)).2.2 u) (fun w => ∃ e, e ≤ L ∧ pB f (m + 1) n ≤ e ∧ w 64 4 = nI (pB f (m + 1) n) ∧ AX t w e ∧ KR f L (pB f (m + 1) n) e w) := by
      intro c
      rw [pB, if_neg c]
      exact ih (n + 1) z _ (AX_next h) (by omega) (by omega)
    refine ok_be (AX_by h r (by omega)) (ok_i (fun c => go ?_) (fun c1 => ?_))
    · rw [c]; decide
    · refine ok_be (AX_by h r (by omega)) (ok_i (fun c => go ?_) (fun c2 => ?_))
      · rw [c]; decide
      · have c : isb_I (f n) = 0 := by unfold isb_I; rw [if_neg c1, if_neg c2]
        rw [pB, if_pos c]
        exact last n (z + 1) (m + 1) u h hn hz
theorem adv_r {f : Nat → Int32} {L p : Nat} {t : SG} (r : RTt f L t) (e3 : t 64 3 = nI p) (hp : p ≤ L) : ok (Radvance t) (fun v => RTk f L p t v) := by
  unfold Radvance
  exact rx0 r (L - p) p xF t ⟨e3, fun _ _ => rfl, fun _ _ => rfl⟩ (by omega) (by have := xF_ge; have := r.2.1; omega)
end XTB
