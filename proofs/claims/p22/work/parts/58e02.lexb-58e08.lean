section
section XTB
variable {sc : Nat × (Nat → Int32)} {d : Nat} {K : List KD} {r q t a B m : Nat} {w : EW}
/-! the reference's side -/
def RTt (f : Nat → Int32) (L : Nat) (t : SG) : Prop := t 64 2 = nI L ∧ L ≤ 600 ∧ (∀ j, j < L → t 65 (10 + j) = f j) ∧ ∀ j, j < L → 0 ≤ f j
theorem bA_f {f : Nat → Int32} {L p : Nat} {t : SG} (h : RTt f L t) (hp : p < L) : bA t L p = f p := by
  unfold bA
  rw [if_neg (by omega)]; exact h.2.2.1 p hp
theorem bA_n {L p : Nat} {t : SG} (hp : L ≤ p) : bA t L p = -1 := if_pos hp
/-- off its token the reference is as before -/
def AX (t u : SG) (n : Nat) : Prop := u 64 3 = nI n ∧ (∀ j, (j < 3 ∨ 8 ≤ j) → u 64 j = t 64 j) ∧ ∀ c, c ≠ 64 → u c = t c
theorem AX_up {t u : SG} {n j : Nat} {x : Int32} (h : AX t u n) (h1 : 3 < j) (h2 : j < 8) : AX t (up u 64 j x) n :=
  ⟨by rw [up_bn (by omega)]; exact h.1, fun i hi => by rw [up_bn (by omega)]; exact h.2.1 i hi, fun c hc => by rw [up_n hc]; exact h.2.2 c hc⟩
theorem AX_next {t u : SG} {n : Nat} (h : AX t u n) : AX t (up u 64 3 (u 64 3 + 1)) (n + 1) :=
  ⟨by rw [up_a, h.1, nI_succ], fun i hi => by rw [up_bn (by omega)]; exact h.2.1 i hi, fun c hc => by rw [up_n hc]; exact h.2.2 c hc⟩
theorem AX_RTt {f : Nat → Int32} {L n : Nat} {t u : SG} (h : AX t u n) (r : RTt f L t) : RTt f L u :=
  ⟨(h.2.1 2 (by omega)).trans r.1, r.2.1, fun j hj => by rw [h.2.2 65 (by decide)]; exact r.2.2.1 j hj, r.2.2.2⟩
theorem AX_by {f : Nat → Int32} {L n : Nat} {t u : SG} (h : AX t u n) (r : RTt f L t) (hn : n < L) : RbyteAt u (u 64 3) = some (f n) := by
  have r2 := AX_RTt h r
  rw [byteAt_eq r2.1 h.1 r.2.1 (by have := r.2.1; omega), bA_f r2 hn]
theorem AX_end {f : Nat → Int32} {L n : Nat} {t u : SG} (h : AX t u n) (r : RTt f L t) (hn : n = L) : RbyteAt u (u 64 3) = some (-1) := by
  have r2 := AX_RTt h r
  rw [byteAt_eq r2.1 h.1 r.2.1 (by have := r.2.1; omega), bA_n (by omega)]
/-- a number's value -/
def nuF (f : Nat → Int32) : Nat → Nat → Int32 → Int32
  | 0, _, y => y
  | n + 1, j, y => nuF f n (j + 1) (y * 10 + f j - 48)
theorem nuF_s {f : Nat → Int32} : ∀ (n j : Nat) (y : Int32), nuF f (n + 1) j y = 10 * nuF f n j y + f (j + n) - 48 := by
  intro n
  induction n with
  | zero => intro j y; rw [nuF, nuF, nuF, Int32.mul_comm]; rfl
  | succ n ih =>
    intro j y
    rw [nuF, ih (j + 1), show j + 1 + n = j + (n + 1) by omega]; rfl
/-- a word's letters, five bits each -/
def enF (f : Nat → Int32) : Nat → Nat → Int64 → Int64
  | 0, _, y => y
  | n + 1, j, y => enF f n (j + 1) (32 * y + Int32.toInt64 (f j) - 96)
theorem enF_s {f : Nat → Int32} : ∀ (n j : Nat) (y : Int64), enF f (n + 1) j y = 32 * enF f n j y + Int32.toInt64 (f (j + n)) - 96 := by
  intro n
  induction n with
  | zero => intro j y; rfl
  | succ n ih =>
    intro j y
    rw [enF, ih (j + 1), show j + 1 + n = j + (n + 1) by omega]; rfl
noncomputable def cod (f : Nat → Int32) (a k : Nat) : Int32 := if k ≤ 8 then RwordOf (enF f k a 0) else 99
theorem sub_le {n a : Nat} (c : Nat) (h : a ≤ n) (hn : n ≤ 600) (hc : c ≤ 600) : (nI n - nI a ≤ nI c ↔ n - a ≤ c) ∧ (nI c ≤ nI n - nI a ↔ c ≤ n - a) := by
  rw [nI_subn h]
  refine ⟨⟨fun q => ?_, fun q => nI_le2 q (by omega)⟩, ⟨fun q => ?_, fun q => nI_le2 q (by omega)⟩⟩
  · rw [Int32.le_iff_toInt_le, nI_toInt (by omega), nI_toInt (by omega)] at q; omega
  · rw [Int32.le_iff_toInt_le, nI_toInt (by omega), nI_toInt (by omega)] at q; omega
theorem rx198 {f : Nat → Int32} {L a : Nat} {t : SG} {y1 : Int32} (r : RTt f L t) : ∀ (m n z : Nat) (u : SG), AX t u n → u 64 4 = nI a → n + m = L → m ≤ z → a ≤ n → u 64 6 = nuF f (min (n - a) 2) a 0 → ok (Radvance_198 (Radvance_R z).1 (Radvance_R z).2.1 (Radvance_R z).2.2 u y1) (fun w => AX t w (pD f m n) ∧ w 64 4 = nI a ∧ w 64 5 = (if pD f m n - a ≤ 2 then 1 else 4) ∧ (pD f m n - a ≤ 2 → w 64 6 = nuF f (pD f m n - a) a 0)) := by
  have hL := r.2.1
  have fin : ∀ (n z : Nat) (u : SG), AX t u n → u 64 4 = nI a → n ≤ L → a ≤ n → u 64 6 = nuF f (min (n - a) 2) a 0 → ok (if ((u 64 3) - (u 64 4)) ≤ 2 then Radvance_280 (Radvance_R z).1 (Radvance_R z).2.1 (Radvance_R z).2.2 u y1 (1) else Radvance_280 (Radvance_R z).1 (Radvance_R z).2.1 (Radvance_R z).2.2 u y1 (4)) (fun w => AX t w n ∧ w 64 4 = nI a ∧ w 64 5 = (if n - a ≤ 2 then 1 else 4) ∧ (n - a ≤ 2 → w 64 6 = nuF f (n - a) a 0)) := by
    intro n z u h h4 hn ha h6
    have e := (sub_le 2 ha (by omega) (by omega)).1
    rw [← h.1, ← h4] at e
    unfold Radvance_280
    refine ok_i (fun c => ok_s ⟨AX_up h (by decide) (by decide), ?_, ?_, fun q => ?_⟩) (fun c => ok_s ⟨AX_up h (by decide) (by decide), ?_, ?_, fun q => absurd (e.2 q) c⟩)
    · rw [up_bn (by decide)]; exact h4
    · rw [up_a, if_pos (e.1 c)]
    · rw [up_bn (by decide), h6, Nat.min_eq_left q]
    · rw [up_bn (by decide)]; exact h4
    · rw [up_a, if_neg (fun q => c (e.2 q))]
  intro m
  induction m with
  | zero =>
    intro n z u h h4 hn hz ha h6
    unfold Radvance_198
    refine ok_be (AX_end h r (by omega)) ?_
    rw [if_pos (show RisDigit (-1) = 0 by decide)]
    exact fin n z u h h4 (by omega) ha h6
  | succ m ih =>
    intro n z u h h4 hn hz ha h6
    obtain ⟨z, rfl⟩ : ∃ z', z = z' + 1 := ⟨z - 1, by omega⟩
    unfold Radvance_198
    refine ok_be (AX_by h r (by omega)) ?_
    rw [pD]
    by_cases c : isd_I (f n) = 0
    · rw [if_pos (show RisDigit (f n) = 0 from c), if_pos c]
      exact fin n (z + 1) u h h4 (by omega) ha h6
    · rw [if_neg (show ¬ RisDigit (f n) = 0 from c), if_neg c]
      have e := (sub_le (n := n) (a := a) 2 ha (by omega) (by omega)).2
      rw [← h.1, ← h4] at e
      refine ok_i (fun q => ?_) (fun q => ok_be (AX_by h r (by omega)) ?_)
      · refine ih (n + 1) z _ (AX_next h) (by rw [up_bn (by decide)]; exact h4) (by omega) (by omega) (by omega) ?_
        rw [up_bn (by decide), h6]
        have := e.1 q
        rw [show min (n - a) 2 = 2 by omega, show min (n + 1 - a) 2 = 2 by omega]
      · have q2 : ¬ 2 ≤ n - a := fun k => q (e.2 k)
        have h' := AX_up (j := 6) (x := 10 * u 64 6 + f n - 48) h (by decide) (by decide)
        refine ih (n + 1) z _ (AX_next h') (by rw [up_bn (by decide), up_bn (by decide)]; exact h4) (by omega) (by omega) (by omega) ?_
        rw [up_bn (by decide), up_a, h6, show min (n - a) 2 = n - a by omega, show min (n + 1 - a) 2 = (n - a) + 1 by omega, nuF_s, show a + (n - a) = n by omega]
theorem rx77 {f : Nat → Int32} {L a : Nat} {t : SG} {y1 : Int32} (r : RTt f L t) : ∀ (m n z : Nat) (u : SG) (y2 : Int64), AX t u n → u 64 4 = nI a → n + m = L → m ≤ z → a ≤ n → y2 = enF f (min (n - a) 8) a 0 → ok (Radvance_77 (Radvance_R z).1 (Radvance_R z).2.1 (Radvance_R z).2.2 u y1 y2) (fun w => AX t w (pL f m n) ∧ w 64 4 = nI a ∧ w 64 7 = cod f a (pL f m n - a) ∧ w 64 5 = (if cod f a (pL f m n - a) = 99 then 4 else 3)) := by
  have hL := r.2.1
  have end_ : ∀ (n z : Nat) (u : SG) (y2 : Int64) (v : Int32), AX t u n → u 64 4 = nI a → v = cod f a (n - a) → ok (Radvance_162 (Radvance_R z).1 (Radvance_R z).2.1 (Radvance_R z).2.2 u y1 y2 v) (fun w => AX t w n ∧ w 64 4 = nI a ∧ w 64 7 = cod f a (n - a) ∧ w 64 5 = (if cod f a (n - a) = 99 then 4 else 3)) := by
    intro n z u y2 v h h4 hv
    unfold Radvance_162 Radvance_180
    have h' := AX_up (j := 7) (x := v) h (by decide) (by decide)
    refine ok_i (fun c => ok_s ⟨AX_up h' (by decide) (by decide), ?_, ?_, ?_⟩) (fun c => ok_s ⟨AX_up h' (by decide) (by decide), ?_, ?_, ?_⟩)
    · rw [up_bn (by decide), up_bn (by decide)]; exact h4
    · rw [up_bn (by decide), up_a]; exact hv
    · rw [up_a, ← hv, if_pos c]
    · rw [up_bn (by decide), up_bn (by decide)]; exact h4
    · rw [up_bn (by decide), up_a]; exact hv
    · rw [up_a, ← hv, if_neg c]
  have fin : ∀ (n z : Nat) (u : SG) (y2 : Int64), AX t u n → u 64 4 = nI a → n ≤ L → a ≤ n → y2 = enF f (min (n - a) 8) a 0 → ok (if ((u 64 3) - (u 64 4)) ≤ 8 then Radvance_162 (Radvance_R z).1 (Radvance_R z).2.1 (Radvance_R z).2.2 u y1 y2 (RwordOf y2) else Radvance_162 (Radvance_R z).1 (Radvance_R z).2.1 (Radvance_R z).2.2 u y1 y2 (99)) (fun w => AX t w n ∧ w 64 4 = nI a ∧ w 64 7 = cod f a (n - a) ∧ w 64 5 = (if cod f a (n - a) = 99 then 4 else 3)) := by
    intro n z u y2 h h4 hn ha hy
    have e := (sub_le 8 ha (by omega) (by omega)).1
    rw [← h.1, ← h4] at e
    refine ok_i (fun c => end_ n z u y2 _ h h4 ?_) (fun c => end_ n z u y2 _ h h4 ?_)
    · unfold cod
      rw [if_pos (e.1 c), hy, Nat.min_eq_left (e.1 c)]
    · unfold cod
      rw [if_neg (fun q => c (e.2 q))]
  intro m
  induction m with
  | zero =>
    intro n z u y2 h h4 hn hz ha hy
    unfold Radvance_77
    refine ok_be (AX_end h r (by omega)) ?_
    rw [if_pos (show RisLetter (-1) = 0 by decide)]
    exact fin n z u y2 h h4 (by omega) ha hy
  | succ m ih =>
    intro n z u y2 h h4 hn hz ha hy
    obtain ⟨z, rfl⟩ : ∃ z', z = z' + 1 := ⟨z - 1, by omega⟩
    unfold Radvance_77
    refine ok_be (AX_by h r (by omega)) ?_
    rw [pL]
    by_cases c : isl_I (f n) = 0
    · rw [if_pos (show RisLetter (f n) = 0 from c), if_pos c]
      exact fin n (z + 1) u y2 h h4 (by omega) ha hy
    · rw [if_neg (show ¬ RisLetter (f n) = 0 from c), if_neg c]
      have e := (sub_le (n := n) (a := a) 8 ha (by omega) (by omega)).2
      rw [← h.1, ← h4] at e
      refine ok_i (fun q => ?_) (fun q => ok_be (AX_by h r (by omega)) ?_)
      · refine ih (n + 1) z _ y2 (AX_next h) (by rw [up_bn (by decide)]; exact h4) (by omega) (by omega) (by omega) ?_
        have := e.1 q
        rw [hy, show min (n - a) 8 = 8 by omega, show min (n + 1 - a) 8 = 8 by omega]
      · have q2 : ¬ 8 ≤ n - a := fun k => q (e.2 k)
        refine ih (n + 1) z _ _ (AX_next h) (by rw [up_bn (by decide)]; exact h4) (by omega) (by omega) (by omega) ?_
        rw [hy, show min (n - a) 8 = n - a by omega, show min (n + 1 - a) 8 = (n - a) + 1 by omega, enF_s, show a + (n - a) = n by omega]
/-- what kind of token lies from a to e, as the reference says it -/
def KR (f : Nat → Int32) (L a e : Nat) (v : SG) : Prop := (a = L ∧ e = L ∧ v 64 5 = 0) ∨ (a < L ∧ ¬ isl_I (f a) = 0 ∧ e = pL f (L - a) a ∧ v 64 7 = cod f a (e - a) ∧ v 64 5 = if cod f a (e - a) = 99 then 4 else 3) ∨ (a < L ∧ isl_I (f a) = 0 ∧ ¬ isd_I (f a) = 0 ∧ e = pD f (L - a) a ∧ (v 64 5 = if e - a ≤ 2 then 1 else 4) ∧ (e - a ≤ 2 → v 64 6 = nuF f (e - a) a 0)) ∨ (a < L ∧ isl_I (f a) = 0 ∧ isd_I (f a) = 0 ∧ e = a + 1 ∧ v 64 5 = if f a = 59 then 2 else 4)
/-- the reference's token, after it went on from p -/
def RTk (f : Nat → Int32) (L p : Nat) (t v : SG) : Prop := ∃ e, e ≤ L ∧ pB f (L - p) p ≤ e ∧ v 64 4 = nI (pB f (L - p) p) ∧ AX t v e ∧ KR f L (pB f (L - p) p) e v
theorem rx0 {f : Nat → Int32} {L : Nat} {t : SG} (r : RTt f L t) : ∀ (m n z : Nat) (u : SG), AX t u n → n + m = L → m ≤ z → ok (Radvance_0 (Radvance_R z).1 (Radvance_R z).2.1 (Radvance_R z).2.2 u) (fun w => ∃ e, e ≤ L ∧ pB f m n ≤ e ∧ w 64 4 = nI (pB f m n) ∧ AX t w e ∧ KR f L (pB f m n) e w) := by
  have hL := r.2.1
  have last : ∀ (n z m : Nat) (u : SG), AX t u n → n + m = L → m ≤ z → ok ((RbyteAt (up u 64 4 (u 64 3)) (u 64 3)).bind fun q3 => if 0 ≤ q3 then (if (RisLetter q3) = 0 then (if (RisDigit q3) = 0 then (if q3 = 59 then Radvance_308 (Radvance_R z).1 (Radvance_R z).2.1 (Radvance_R z).2.2 (up (up u 64 4 (u 64 3)) 64 3 ((u 64 3) + 1)) q3 (2) else Radvance_308 (Radvance_R z).1 (Radvance_R z).2.1 (Radvance_R z).2.2 (up (up u 64 4 (u 64 3)) 64 3 ((u 64 3) + 1)) q3 (4)) else Radvance_198 (Radvance_R z).1 (Radvance_R z).2.1 (Radvance_R z).2.2 (up (up u 64 4 (u 64 3)) 64 6 0) q3) else Radvance_77 (Radvance_R z).1 (Radvance_R z).2.1 (Radvance_R z).2.2 (up u 64 4 (u 64 3)) q3 (0)) else some (up (up u 64 4 (u 64 3)) 64 5 0)) (fun w => ∃ e, e ≤ L ∧ n ≤ e ∧ w 64 4 = nI n ∧ AX t w e ∧ KR f L n e w) := by
    intro n z m u h hn hz
    have h' := AX_up (j := 4) (x := u 64 3) h (by decide) (by decide)
    have e3 : up u 64 4 (u 64 3) 64 3 = u 64 3 := up_bn (by decide)
    have h4 : up u 64 4 (u 64 3) 64 4 = nI n := by rw [up_a]; exact h.1
    by_cases c0 : n < L
    · have b := AX_by h' r c0
      rw [e3] at b
      refine ok_be b ?_
      rw [if_pos (r.2.2.2 n c0)]
      by_cases c1 : isl_I (f n) = 0
      · rw [if_pos (show RisLetter (f n) = 0 from c1)]
        by_cases c2 : isd_I (f n) = 0
        · rw [if_pos (show RisDigit (f n) = 0 from c2)]
          have h2 := AX_next h'
          rw [e3] at h2
          have h24 : up (up u 64 4 (u 64 3)) 64 3 (u 64 3 + 1) 64 4 = nI n := by rw [up_bn (by decide)]; exact h4
          unfold Radvance_308
          refine ok_i (fun c => ok_s ⟨n + 1, by omega, by omega, ?_, AX_up h2 (by decide) (by decide), Or.inr (Or.inr (Or.inr ⟨c0, c1, c2, rfl, ?_⟩))⟩) (fun c => ok_s ⟨n + 1, by omega, by omega, ?_, AX_up h2 (by decide) (by decide), Or.inr (Or.inr (Or.inr ⟨c0, c1, c2, rfl, ?_⟩))⟩)
          · rw [up_bn (by decide)]; exact h24
          · rw [up_a, if_pos c]
          · rw [up_bn (by decide)]; exact h24
          · rw [up_a, if_neg c]
        · rw [if_neg (show ¬ RisDigit (f n) = 0 from c2)]
          have lD := pD_le (f := f) m n
          refine ok_w (rx198 (a := n) r m n z _ (AX_up h' (by decide) (by decide)) (by rw [up_bn (by decide)]; exact h4) hn hz (Nat.le_refl n) (by rw [up_a, Nat.sub_self]; rfl)) (fun w hw => ?_)
          rw [show m = L - n by omega] at hw lD
          exact ⟨pD f (L - n) n, by omega, by omega, hw.2.1, hw.1, Or.inr (Or.inr (Or.inl ⟨c0, c1, c2, rfl, hw.2.2.1, hw.2.2.2⟩))⟩
      · rw [if_neg (show ¬ RisLetter (f n) = 0 from c1)]
        have lL := pL_le (f := f) m n
        refine ok_w (rx77 (a := n) r m n z _ 0 h' h4 hn hz (Nat.le_refl n) (by rw [Nat.sub_self]; rfl)) (fun w hw => ?_)
        rw [show m = L - n by omega] at hw lL
        exact ⟨pL f (L - n) n, by omega, by omega, hw.2.1, hw.1, Or.inr (Or.inl ⟨c0, c1, rfl, hw.2.2.1, hw.2.2.2⟩)⟩
    · have b := AX_end h' r (by omega)
      rw [e3] at b
      refine ok_be b ?_
      rw [if_neg (by decide)]
      have en : n = L := by omega
      exact ok_s ⟨L, by omega, by omega, by rw [up_bn (by decide)]; exact h4, by rw [← en]; exact AX_up h' (by decide) (by decide), Or.inl ⟨en, rfl, up_a⟩⟩
  intro m
  induction m with
  | zero =>
    intro n z u h hn hz
    unfold Radvance_0
    refine ok_be (AX_end h r (by omega)) ?_
    rw [if_neg (by decide)]
    refine ok_be (AX_end h r (by omega)) ?_
    rw [if_neg (by decide)]
    exact last n z 0 u h hn hz
  | succ m ih =>
    intro n z u h hn hz
    obtain ⟨z, rfl⟩ : ∃ z', z = z' + 1 := ⟨z - 1, by omega⟩
    unfold Radvance_0
    have go : ¬ isb_I (f n) = 0 → ok (Radvance_26 (Radvance_R (z + 1)).1 (Radvance_R (z + 1)).2.1 (Radvance_R (z + 1)).2.2 u) (fun w => ∃ e, e ≤ L ∧ pB f (m + 1) n ≤ e ∧ w 64 4 = nI (pB f (m + 1) n) ∧ AX t w e ∧ KR f L (pB f (m + 1) n) e w) := by
      intro c
      rw [pB, if_neg c]
      exact ih (n + 1) z _ (AX_next h) (by omega) (by omega)
    refine ok_be (AX_by h r (by omega)) (ok_i (fun c => go ?_) (fun c1 => ?_))
    · rw [c]; decide
    · refine ok_be (AX_by h r (by omega)) (ok_i (fun c => go ?_) (fun c2 => ?_))
      · rw [c]; decide
      · have c : isb_I (f n) = 0 := by unfold isb_I; rw [if_neg c1, if_neg c2]
        rw [pB, if_pos c]
        exact last n (z + 1) (m + 1) u h hn hz
theorem adv_r {f : Nat → Int32} {L p : Nat} {t : SG} (r : RTt f L t) (e3 : t 64 3 = nI p) (hp : p ≤ L) : ok (Radvance t) (fun v => RTk f L p t v) := by
  unfold Radvance
  exact rx0 r (L - p) p xF t ⟨e3, fun _ _ => rfl, fun _ _ => rfl⟩ (by omega) (by have := xF_ge; have := r.2.1; omega)
end XTB
end
section
section XTC
variable {sc : Nat × (Nat → Int32)} {d : Nat} {K : List KD} {r q t a B m : Nat} {w : EW}
/-! words, on both sides -/
/-- k bytes from j on -/
def tkl (f : Nat → Int32) : Nat → Nat → List Int32
  | 0, _ => []
  | n + 1, j => f j :: tkl f n (j + 1)
theorem tkl_len {f : Nat → Int32} : ∀ (n j : Nat), (tkl f n j).length = n := by
  intro n
  induction n with
  | zero => intro j; rfl
  | succ n ih => intro j; rw [tkl, List.length_cons, ih]
theorem tkl_c {f g : Nat → Int32} {i : Nat} : ∀ (n j : Nat), (∀ k, k < n → f (j + k) = g (i + j + k)) → tkl f n j = tkl g n (i + j) := by
  intro n
  induction n with
  | zero => intro j _; rfl
  | succ n ih =>
    intro j h
    have h0 := h 0 (by omega)
    rw [Nat.add_zero, Nat.add_zero] at h0
    rw [tkl, tkl, h0, ih (j + 1) (fun k hk => by rw [show j + 1 + k = j + (k + 1) by omega, h (k + 1) (by omega), show i + (j + 1) + k = i + j + (k + 1) by omega]), show i + (j + 1) = i + j + 1 by omega]
theorem tkl_i {f g : Nat → Int32} : ∀ (n j i : Nat), tkl f n j = tkl g n i → ∀ k, k < n → f (j + k) = g (i + k) := by
  intro n
  induction n with
  | zero => intro j i _ k hk; omega
  | succ n ih =>
    intro j i h k hk
    rw [tkl, tkl] at h
    obtain ⟨h1, h2⟩ := List.cons.inj h
    cases k with
    | zero => exact h1
    | succ k =>
      have := ih (j + 1) (i + 1) h2 k (by omega)
      rw [show j + (k + 1) = j + 1 + k by omega, show i + (k + 1) = i + 1 + k by omega]; exact this
theorem tkl_e {f g : Nat → Int32} : ∀ (n j i : Nat), (∀ k, k < n → f (j + k) = g (i + k)) → tkl f n j = tkl g n i := by
  intro n
  induction n with
  | zero => intro j i _; rfl
  | succ n ih =>
    intro j i h
    have h0 := h 0 (by omega)
    rw [Nat.add_zero, Nat.add_zero] at h0
    rw [tkl, tkl, h0, ih (j + 1) (i + 1) (fun k hk => by rw [show j + 1 + k = j + (k + 1) by omega, h (k + 1) (by omega), show i + 1 + k = i + (k + 1) by omega])]
theorem tkl_l : ∀ (l : List Int32), tkl (fun i => l.getD i 0) l.length 0 = l := by
  intro l
  induction l with
  | nil => rfl
  | cons b t ih =>
    have e : tkl (fun i => (b :: t).getD i 0) t.length 1 = tkl (fun i => t.getD i 0) t.length 0 := tkl_e _ _ _ (fun k hk => by show (b :: t).getD (1 + k) 0 = t.getD (0 + k) 0; rw [Nat.add_comm 1 k, Nat.zero_add]; rfl)
    rw [List.length_cons, tkl, e, ih]; rfl
/-! the class's words -/
def goW (s : SG) (z : Nat) : List (Nat × Nat) → Int32 → Int32
  | [], _ => -1
  | q :: t, y => if istI s z q.1 q.2 = 0 then goW s z t (y + 1) else y
def WBf (z : Nat) : Nat → Nat → Nat → List (Nat × Nat)
  | 0, _, _ => []
  | n + 1, j, a => if j = sl z then (a, j) :: WBf z n (j + 1) (j + 1) else if chZ z j = 32 then (a, j) :: WBf z n (j + 1) (j + 1) else WBf z n (j + 1) a
theorem choL_go {s : SG} {z : Nat} : ∀ (n j a : Nat) (y : Int32), choL s z n j a y = if s 43 7 = 1 then goW s z (WBf z n j a) y else -1 := by
  intro n
  induction n with
  | zero =>
    intro j a y
    rw [choL, WBf, goW]
    split <;> rfl
  | succ n ih =>
    intro j a y
    rw [choL, WBf]
    by_cases c : s 43 7 = 1
    · rw [if_pos c, if_pos c]
      split
      · rw [goW]
        split
        · rw [ih, if_pos c]
        · rfl
      · split
        · rw [goW]
          split
          · rw [ih, if_pos c]
          · rfl
        · rw [ih, if_pos c]
    · rw [if_neg c, if_neg c]
def ixW (l : List Int32) : List (List Int32) → Int32 → Int32
  | [], _ => -1
  | g :: t, y => if g = l then y else ixW l t (y + 1)
def Ws (z : Nat) : List (List Int32) := (WBf z (sl z + 1) 0 0).map (fun q => tkl (chZ z) (q.2 - q.1) q.1)
theorem istL_e {f : Nat → Int32} {s : SG} {z a a0 L : Nat} (h8 : s 43 8 = nI a0) (hL : L ≤ 600) (hb : ∀ j, j < L → tok s j = f j) : ∀ (n j : Nat), a ≤ j → a0 + (j - a) + n ≤ L → (istL s z a n j = 0 ↔ ¬ tkl (chZ z) n j = tkl f n (a0 + (j - a))) := by
  intro n
  induction n with
  | zero =>
    intro j _ _
    rw [istL]
    exact ⟨fun h => absurd h (by decide), fun h => absurd rfl h⟩
  | succ n ih =>
    intro j hj hl
    have e : cl 600 (s 54) (s 43 8 + nI j - nI a) = f (a0 + (j - a)) := by
      rw [h8, nI_add, nI_subn (by omega), show a0 + j - a = a0 + (j - a) by omega]
      exact hb _ (by omega)
    have i := ih (j + 1) (by omega) (by omega)
    rw [show a0 + (j + 1 - a) = a0 + (j - a) + 1 by omega] at i
    rw [istL, e, tkl, tkl]
    by_cases c : chZ z j = f (a0 + (j - a))
    · rw [if_pos c, i]
      exact ⟨fun h k => h (List.cons.inj k).2, fun h k => h (by rw [c, k])⟩
    · rw [if_neg c]
      exact ⟨fun _ k => c (List.cons.inj k).1, fun _ => rfl⟩
theorem istI_e {f : Nat → Int32} {s : SG} {z a b a0 e0 L : Nat} (h8 : s 43 8 = nI a0) (h9 : s 43 9 = nI e0) (hL : L ≤ 600) (hb : ∀ j, j < L → tok s j = f j) (ha : a ≤ b) (hbz : b ≤ 60) (ha0 : a0 ≤ e0) (he : e0 ≤ L) : (istI s z a b = 0 ↔ ¬ tkl (chZ z) (b - a) a = tkl f (e0 - a0) a0) := by
  unfold istI
  rw [h8, h9, nI_subn ha, nI_subn ha0]
  by_cases c : b - a = e0 - a0
  · rw [if_pos (by rw [c]), istL_e h8 hL hb (b - a) a (Nat.le_refl a) (by omega), Nat.sub_self, Nat.add_zero, c]
  · rw [if_neg (fun h => c (nI_inj (by omega) (by omega) h))]
    refine ⟨fun _ h => c ?_, fun _ => rfl⟩
    have := congrArg List.length h
    rw [tkl_len, tkl_len] at this; exact this
theorem WBf_in {z : Nat} : ∀ (n j a : Nat), a ≤ j → j + n ≤ 61 → ∀ q ∈ WBf z n j a, q.1 ≤ q.2 ∧ q.2 ≤ 60 := by
  intro n
  induction n with
  | zero => intro j a _ _ q hq; rw [WBf] at hq; cases hq
  | succ n ih =>
    intro j a ha hj q hq
    rw [WBf] at hq
    split at hq
    · rcases List.mem_cons.mp hq with rfl | hq
      · exact ⟨ha, by show j ≤ 60; omega⟩
      · exact ih _ _ (Nat.le_refl _) (by omega) q hq
    · split at hq
      · rcases List.mem_cons.mp hq with rfl | hq
        · exact ⟨ha, by show j ≤ 60; omega⟩
        · exact ih _ _ (Nat.le_refl _) (by omega) q hq
      · exact ih _ _ (by omega) (by omega) q hq
/-- the word that the class finds -/
theorem choI_e {f : Nat → Int32} {s : SG} {z a0 e0 L : Nat} (hz : z < 18) (h7 : s 43 7 = 1) (h8 : s 43 8 = nI a0) (h9 : s 43 9 = nI e0) (hL : L ≤ 600) (hb : ∀ j, j < L → tok s j = f j) (ha0 : a0 ≤ e0) (he : e0 ≤ L) : choI s z = ixW (tkl f (e0 - a0) a0) (Ws z) 0 := by
  unfold choI Ws
  rw [choL_go, if_pos h7]
  have hs := sl_le z hz
  have hi := WBf_in (z := z) (sl z + 1) 0 0 (Nat.le_refl 0) (by omega)
  generalize WBf z (sl z + 1) 0 0 = l at hi
  generalize (0 : Int32) = y
  induction l generalizing y with
  | nil => rfl
  | cons q t ih =>
    have h1 := hi q List.mem_cons_self
    have i := istI_e (z := z) h8 h9 hL hb h1.1 h1.2 ha0 he
    rw [goW, List.map_cons, ixW, ih (fun p hp => hi p (List.mem_cons_of_mem _ hp))]
    by_cases c : tkl (chZ z) (q.2 - q.1) q.1 = tkl f (e0 - a0) a0
    · rw [if_pos c, if_neg (fun h => (i.1 h) c)]
    · rw [if_neg c, if_pos (i.2 c)]
theorem choI_n {s : SG} {z : Nat} (h7 : ¬ s 43 7 = 1) : choI s z = -1 := by
  unfold choI
  rw [choL_go, if_neg h7]
theorem ixW_n {l : List Int32} : ∀ (ws : List (List Int32)) (y : Int32), (∀ g ∈ ws, g ≠ l) → ixW l ws y = -1 := by
  intro ws
  induction ws with
  | nil => intro y _; rfl
  | cons g t ih =>
    intro y h
    rw [ixW, if_neg (h g List.mem_cons_self)]
    exact ih _ (fun p hp => h p (List.mem_cons_of_mem _ hp))
/-! the reference's words -/
def WL : List (List Int32) := [[109, 105, 110, 105, 115, 116, 101, 114], [119, 97, 110, 116], [118, 101, 116, 111], [102, 101, 117, 100], [111, 102, 102, 105, 99, 101], [113, 117, 111, 116, 97], [115, 112, 105, 116, 101], [99, 108, 111, 117, 100], [103, 114, 111, 117, 110, 100], [104, 101, 97, 116], [114, 97, 105, 110], [119, 105, 110, 100], [115, 117, 110], [115, 112, 114, 105, 110, 103], [115, 117, 109, 109, 101, 114], [97, 117, 116, 117, 109, 110], [119, 105, 110, 116, 101, 114], [110, 111], [97, 98, 111, 118, 101], [98, 101, 108, 111, 119], [105, 110], [115, 117, 109], [97, 102, 116, 101, 114], [109, 111, 118, 101], [115, 101, 97, 115, 111, 110], [100, 105, 115, 109, 105, 115, 115], [114, 101, 99, 97, 108, 108], [112, 97, 115, 115], [115, 97, 105, 100], [121, 101, 115], [119, 97, 115], [115, 104, 97, 114, 101]]
theorem letter_nI {x : Int32} (h : ¬ isl_I x = 0) : ∃ v, x = nI (96 + v) ∧ 1 ≤ v ∧ v ≤ 26 := by
  unfold isl_I at h
  by_cases c1 : x < 97
  · rw [if_pos c1] at h; exact absurd rfl h
  · by_cases c2 : 122 < x
    · rw [if_neg c1, if_pos c2] at h; exact absurd rfl h
    · have q1 := Int32.not_lt.mp c1
      have q2 := Int32.not_lt.mp c2
      rw [Int32.le_iff_toInt_le] at q1 q2
      have e1 : (97 : Int32).toInt = 97 := by decide
      have e2 : (122 : Int32).toInt = 122 := by decide
      rw [e1] at q1; rw [e2] at q2
      have hx : ¬ x < 0 := by
        rw [Int32.not_lt, Int32.le_iff_toInt_le]
        have : (0 : Int32).toInt = 0 := by decide
        omega
      have e := Int32.cast_toNatClampNeg x (Int32.not_lt.mp hx)
      refine ⟨x.toNatClampNeg - 96, ?_, by omega, by omega⟩
      rw [show 96 + (x.toNatClampNeg - 96) = x.toNatClampNeg by omega]
      exact (Int32.ofNat_toNatClampNeg x (Int32.not_lt.mp hx)).symm
def vN (f : Nat → Int32) (a : Nat) : Nat → Nat
  | 0 => 0
  | n + 1 => 32 * vN f a n + ((f (a + n)).toNatClampNeg - 96)
theorem vN_lt {f : Nat → Int32} {a : Nat} : ∀ n, (∀ i, i < n → ¬ isl_I (f (a + i)) = 0) → vN f a n < 32 ^ n := by
  intro n
  induction n with
  | zero => intro _; rw [vN]; decide
  | succ n ih =>
    intro h
    have i := ih (fun i hi => h i (by omega))
    obtain ⟨v, ev, h1, h2⟩ := letter_nI (h n (by omega))
    rw [vN, ev, nI_clamp (by omega), Nat.pow_succ]
    omega
theorem vN_inj {f g : Nat → Int32} {a b : Nat} : ∀ n m, (∀ i, i < n → ¬ isl_I (f (a + i)) = 0) → (∀ i, i < m → ¬ isl_I (g (b + i)) = 0) → vN f a n = vN g b m → n = m ∧ ∀ i, i < n → f (a + i) = g (b + i) := by
  intro n
  induction n with
  | zero =>
    intro m _ hg e
    cases m with
    | zero => exact ⟨rfl, fun i hi => by omega⟩
    | succ m =>
      obtain ⟨v, ev, h1, h2⟩ := letter_nI (hg m (by omega))
      rw [vN, vN, ev, nI_clamp (by omega)] at e
      omega
  | succ n ih =>
    intro m hf hg e
    obtain ⟨v, ev, h1, h2⟩ := letter_nI (hf n (by omega))
    cases m with
    | zero =>
      rw [vN, vN, ev, nI_clamp (by omega)] at e
      omega
    | succ m =>
      obtain ⟨v2, ev2, h3, h4⟩ := letter_nI (hg m (by omega))
      rw [vN, vN, ev, nI_clamp (by omega), ev2, nI_clamp (by omega)] at e
      obtain ⟨i1, i2⟩ := ih m (fun i hi => hf i (by omega)) (fun i hi => hg i (by omega)) (by omega)
      subst i1
      refine ⟨rfl, fun i hi => ?_⟩
      by_cases q : i = n
      · subst q; rw [ev, ev2, show v = v2 by omega]
      · exact i2 i (by omega)
theorem toInt64_nI {x : Nat} (h : x < 1000) : Int32.toInt64 (nI x) = Int64.ofNat x := by
  apply Int64.toInt_inj.mp
  rw [Int32.toInt_toInt64, nI_toInt (by omega), Int64.toInt_ofNat_of_lt (by omega)]
theorem enF_v {f : Nat → Int32} {a : Nat} : ∀ n, (∀ i, i < n → ¬ isl_I (f (a + i)) = 0) → enF f n a 0 = Int64.ofNat (vN f a n) := by
  intro n
  induction n with
  | zero => intro _; rfl
  | succ n ih =>
    intro h
    obtain ⟨v, ev, h1, h2⟩ := letter_nI (h n (by omega))
    rw [enF_s, ih (fun i hi => h i (by omega)), vN, ev, nI_clamp (by omega), toInt64_nI (by omega), show 96 + v - 96 = v by omega, Int64.ofNat_add, Int64.ofNat_add, Int64.ofNat_mul, show (32 : Int64) = Int64.ofNat 32 from rfl, show (96 : Int64) = Int64.ofNat 96 from rfl, Int64.add_comm (Int64.ofNat 96) (Int64.ofNat v), ← Int64.add_assoc, Int64.add_sub_cancel]
theorem lg0 (x y : Int64) : lg_cmp x y = 0 ↔ x = y := by
  unfold lg_cmp
  constructor
  · intro h
    by_cases c1 : x > y
    · rw [if_pos c1] at h; exact absurd h (by decide)
    · by_cases c2 : x = y
      · exact c2
      · rw [if_neg c1, if_neg c2] at h; exact absurd h (by decide)
  · intro h
    subst h
    by_cases c1 : x > x
    · exact absurd c1 (Int64.lt_irrefl)
    · rw [if_neg c1, if_pos rfl]
theorem vN_63 {f : Nat → Int32} {a k : Nat} (hk : k ≤ 8) (hf : ∀ i, i < k → ¬ isl_I (f (a + i)) = 0) : vN f a k < 2 ^ 63 :=
  Nat.lt_of_lt_of_le (vN_lt k hf) (Nat.le_trans (Nat.pow_le_pow_right (by decide) hk) (by decide))
theorem vN_e {f g : Nat → Int32} {a b : Nat} : ∀ n, (∀ i, i < n → f (a + i) = g (b + i)) → vN f a n = vN g b n := by
  intro n
  induction n with
  | zero => intro _; rfl
  | succ n ih => intro h; rw [vN, vN, ih (fun i hi => h i (by omega)), h n (by omega)]
theorem ofNat63 {x y : Nat} (hx : x < 2 ^ 63) (hy : y < 2 ^ 63) (e : Int64.ofNat x = Int64.ofNat y) : x = y := by
  have e2 := congrArg Int64.toInt e
  rw [Int64.toInt_ofNat_of_lt hx, Int64.toInt_ofNat_of_lt hy] at e2
  exact Int.ofNat.inj e2
theorem wq {f : Nat → Int32} {a k : Nat} {C : Int64} (l : List Int32) (hk : k ≤ 8) (hf : ∀ i, i < k → ¬ isl_I (f (a + i)) = 0) (hl : ∀ i, i < l.length → ¬ isl_I (l.getD i 0) = 0) (h8 : l.length ≤ 8) (hC : C = enF (fun i => l.getD i 0) l.length 0 0) : (lg_cmp (enF f k a 0) C = 0) = (tkl f k a = l) := by
  generalize hg : (fun i => l.getD i 0) = g at hC
  have hl2 : ∀ i, i < l.length → ¬ isl_I (g (0 + i)) = 0 := fun i hi => by rw [Nat.zero_add, ← hg]; exact hl i hi
  have b1 := vN_63 hk hf
  have b2 := vN_63 h8 hl2
  have tl : tkl g l.length 0 = l := by rw [← hg]; exact tkl_l l
  rw [hC, enF_v k hf, enF_v l.length hl2]
  refine propext ((lg0 _ _).trans ⟨fun e => ?_, fun e => ?_⟩)
  · obtain ⟨i1, i2⟩ := vN_inj (f := f) (g := g) (a := a) (b := 0) k l.length hf hl2 (ofNat63 b1 b2 e)
    refine Eq.trans ?_ tl
    rw [← i1]
    exact tkl_e _ _ _ i2
  · have hlen : k = l.length := by
      have := congrArg List.length e
      rw [tkl_len] at this; exact this
    have e3 : tkl f k a = tkl g k 0 := by rw [e, hlen]; exact tl.symm
    rw [vN_e k (tkl_i _ _ _ e3), hlen]
def codT (l : List Int32) : Int32 := if l = [109, 105, 110, 105, 115, 116, 101, 114] then 1 else if l = [119, 97, 110, 116] then 2 else if l = [118, 101, 116, 111] then 3 else if l = [102, 101, 117, 100] then 4 else if l = [111, 102, 102, 105, 99, 101] then 5 else if l = [113, 117, 111, 116, 97] then 6 else if l = [115, 112, 105, 116, 101] then 7 else if l = [99, 108, 111, 117, 100] then 8 else if l = [103, 114, 111, 117, 110, 100] then 9 else if l = [104, 101, 97, 116] then 10 else if l = [114, 97, 105, 110] then 11 else if l = [119, 105, 110, 100] then 12 else if l = [115, 117, 110] then 13 else if l = [115, 112, 114, 105, 110, 103] then 14 else if l = [115, 117, 109, 109, 101, 114] then 15 else if l = [97, 117, 116, 117, 109, 110] then 16 else if l = [119, 105, 110, 116, 101, 114] then 17 else if l = [110, 111] then 18 else if l = [97, 98, 111, 118, 101] then 19 else if l = [98, 101, 108, 111, 119] then 20 else if l = [105, 110] then 21 else if l = [115, 117, 109] then 22 else if l = [97, 102, 116, 101, 114] then 23 else if l = [109, 111, 118, 101] then 24 else if l = [115, 101, 97, 115, 111, 110] then 25 else if l = [100, 105, 115, 109, 105, 115, 115] then 26 else if l = [114, 101, 99, 97, 108, 108] then 27 else if l = [112, 97, 115, 115] then 28 else if l = [115, 97, 105, 100] then 29 else if l = [121, 101, 115] then 30 else if l = [119, 97, 115] then 31 else if l = [115, 104, 97, 114, 101] then 32 else 99
theorem wordOf_e {f : Nat → Int32} {a k : Nat} (hk : k ≤ 8) (hf : ∀ i, i < k → ¬ isl_I (f (a + i)) = 0) : RwordOf (enF f k a 0) = codT (tkl f k a) := by
  have w1 := wq (C := Reight (13) (9) (14) (9) (19) (20) (5) (18)) [109, 105, 110, 105, 115, 116, 101, 114] hk hf (by decide) (by decide) (by decide +kernel)
  have w2 := wq (C := Rfour (23) (1) (14) (20)) [119, 97, 110, 116] hk hf (by decide) (by decide) (by decide +kernel)
  have w3 := wq (C := Rfour (22) (5) (20) (15)) [118, 101, 116, 111] hk hf (by decide) (by decide) (by decide +kernel)
  have w4 := wq (C := Rfour (6) (5) (21) (4)) [102, 101, 117, 100] hk hf (by decide) (by decide) (by decide +kernel)
  have w5 := wq (C := Reight (0) (0) (15) (6) (6) (9) (3) (5)) [111, 102, 102, 105, 99, 101] hk hf (by decide) (by decide) (by decide +kernel)
  have w6 := wq (C := Reight (0) (0) (0) (17) (21) (15) (20) (1)) [113, 117, 111, 116, 97] hk hf (by decide) (by decide) (by decide +kernel)
  have w7 := wq (C := Reight (0) (0) (0) (19) (16) (9) (20) (5)) [115, 112, 105, 116, 101] hk hf (by decide) (by decide) (by decide +kernel)
  have w8 := wq (C := Reight (0) (0) (0) (3) (12) (15) (21) (4)) [99, 108, 111, 117, 100] hk hf (by decide) (by decide) (by decide +kernel)
  have w9 := wq (C := Reight (0) (0) (7) (18) (15) (21) (14) (4)) [103, 114, 111, 117, 110, 100] hk hf (by decide) (by decide) (by decide +kernel)
  have w10 := wq (C := Rfour (8) (5) (1) (20)) [104, 101, 97, 116] hk hf (by decide) (by decide) (by decide +kernel)
  have w11 := wq (C := Rfour (18) (1) (9) (14)) [114, 97, 105, 110] hk hf (by decide) (by decide) (by decide +kernel)
  have w12 := wq (C := Rfour (23) (9) (14) (4)) [119, 105, 110, 100] hk hf (by decide) (by decide) (by decide +kernel)
  have w13 := wq (C := Rfour (0) (19) (21) (14)) [115, 117, 110] hk hf (by decide) (by decide) (by decide +kernel)
  have w14 := wq (C := Reight (0) (0) (19) (16) (18) (9) (14) (7)) [115, 112, 114, 105, 110, 103] hk hf (by decide) (by decide) (by decide +kernel)
  have w15 := wq (C := Reight (0) (0) (19) (21) (13) (13) (5) (18)) [115, 117, 109, 109, 101, 114] hk hf (by decide) (by decide) (by decide +kernel)
  have w16 := wq (C := Reight (0) (0) (1) (21) (20) (21) (13) (14)) [97, 117, 116, 117, 109, 110] hk hf (by decide) (by decide) (by decide +kernel)
  have w17 := wq (C := Reight (0) (0) (23) (9) (14) (20) (5) (18)) [119, 105, 110, 116, 101, 114] hk hf (by decide) (by decide) (by decide +kernel)
  have w18 := wq (C := Rfour (0) (0) (14) (15)) [110, 111] hk hf (by decide) (by decide) (by decide +kernel)
  have w19 := wq (C := Reight (0) (0) (0) (1) (2) (15) (22) (5)) [97, 98, 111, 118, 101] hk hf (by decide) (by decide) (by decide +kernel)
  have w20 := wq (C := Reight (0) (0) (0) (2) (5) (12) (15) (23)) [98, 101, 108, 111, 119] hk hf (by decide) (by decide) (by decide +kernel)
  have w21 := wq (C := Rfour (0) (0) (9) (14)) [105, 110] hk hf (by decide) (by decide) (by decide +kernel)
  have w22 := wq (C := Rfour (0) (19) (21) (13)) [115, 117, 109] hk hf (by decide) (by decide) (by decide +kernel)
  have w23 := wq (C := Reight (0) (0) (0) (1) (6) (20) (5) (18)) [97, 102, 116, 101, 114] hk hf (by decide) (by decide) (by decide +kernel)
  have w24 := wq (C := Rfour (13) (15) (22) (5)) [109, 111, 118, 101] hk hf (by decide) (by decide) (by decide +kernel)
  have w25 := wq (C := Reight (0) (0) (19) (5) (1) (19) (15) (14)) [115, 101, 97, 115, 111, 110] hk hf (by decide) (by decide) (by decide +kernel)
  have w26 := wq (C := Reight (0) (4) (9) (19) (13) (9) (19) (19)) [100, 105, 115, 109, 105, 115, 115] hk hf (by decide) (by decide) (by decide +kernel)
  have w27 := wq (C := Reight (0) (0) (18) (5) (3) (1) (12) (12)) [114, 101, 99, 97, 108, 108] hk hf (by decide) (by decide) (by decide +kernel)
  have w28 := wq (C := Rfour (16) (1) (19) (19)) [112, 97, 115, 115] hk hf (by decide) (by decide) (by decide +kernel)
  have w29 := wq (C := Rfour (19) (1) (9) (4)) [115, 97, 105, 100] hk hf (by decide) (by decide) (by decide +kernel)
  have w30 := wq (C := Rfour (0) (25) (5) (19)) [121, 101, 115] hk hf (by decide) (by decide) (by decide +kernel)
  have w31 := wq (C := Rfour (0) (23) (1) (19)) [119, 97, 115] hk hf (by decide) (by decide) (by decide +kernel)
  have w32 := wq (C := Reight (0) (0) (0) (19) (8) (1) (18) (5)) [115, 104, 97, 114, 101] hk hf (by decide) (by decide) (by decide +kernel)
  unfold RwordOf RkindOrSeason RotherWord codT
  simp only [w1, w2, w3, w4, w5, w6, w7, w8, w9, w10, w11, w12, w13, w14, w15, w16, w17, w18, w19, w20, w21, w22, w23, w24, w25, w26, w27, w28, w29, w30, w31, w32]
theorem WL_8 : ∀ l ∈ WL, l.length ≤ 8 := by decide
theorem codT_n {l : List Int32} (h : l ∉ WL) : codT l = 99 := by
  have n : ∀ g ∈ WL, ¬ l = g := fun g hg e => h (e ▸ hg)
  unfold codT
  rw [if_neg (n [109, 105, 110, 105, 115, 116, 101, 114] (by decide))]
  rw [if_neg (n [119, 97, 110, 116] (by decide))]
  rw [if_neg (n [118, 101, 116, 111] (by decide))]
  rw [if_neg (n [102, 101, 117, 100] (by decide))]
  rw [if_neg (n [111, 102, 102, 105, 99, 101] (by decide))]
  rw [if_neg (n [113, 117, 111, 116, 97] (by decide))]
  rw [if_neg (n [115, 112, 105, 116, 101] (by decide))]
  rw [if_neg (n [99, 108, 111, 117, 100] (by decide))]
  rw [if_neg (n [103, 114, 111, 117, 110, 100] (by decide))]
  rw [if_neg (n [104, 101, 97, 116] (by decide))]
  rw [if_neg (n [114, 97, 105, 110] (by decide))]
  rw [if_neg (n [119, 105, 110, 100] (by decide))]
  rw [if_neg (n [115, 117, 110] (by decide))]
  rw [if_neg (n [115, 112, 114, 105, 110, 103] (by decide))]
  rw [if_neg (n [115, 117, 109, 109, 101, 114] (by decide))]
  rw [if_neg (n [97, 117, 116, 117, 109, 110] (by decide))]
  rw [if_neg (n [119, 105, 110, 116, 101, 114] (by decide))]
  rw [if_neg (n [110, 111] (by decide))]
  rw [if_neg (n [97, 98, 111, 118, 101] (by decide))]
  rw [if_neg (n [98, 101, 108, 111, 119] (by decide))]
  rw [if_neg (n [105, 110] (by decide))]
  rw [if_neg (n [115, 117, 109] (by decide))]
  rw [if_neg (n [97, 102, 116, 101, 114] (by decide))]
  rw [if_neg (n [109, 111, 118, 101] (by decide))]
  rw [if_neg (n [115, 101, 97, 115, 111, 110] (by decide))]
  rw [if_neg (n [100, 105, 115, 109, 105, 115, 115] (by decide))]
  rw [if_neg (n [114, 101, 99, 97, 108, 108] (by decide))]
  rw [if_neg (n [112, 97, 115, 115] (by decide))]
  rw [if_neg (n [115, 97, 105, 100] (by decide))]
  rw [if_neg (n [121, 101, 115] (by decide))]
  rw [if_neg (n [119, 97, 115] (by decide))]
  rw [if_neg (n [115, 104, 97, 114, 101] (by decide))]
theorem codT_c : ∀ c, c < 32 → codT (WL.getD c []) = nI (c + 1) := by decide +kernel
def ZS : List Nat := [0, 1, 2, 3, 4, 5, 13, 14, 15, 16, 17]
theorem Ws_in : ∀ z ∈ ZS, ∀ g ∈ Ws z, g ∈ WL := by decide +kernel
/-- which place among its words the class gives the reference's word c + 1 -/
def tb (z c : Nat) : Int32 := ixW (WL.getD c []) (Ws z) 0
end XTC
end
section
section XTD
variable {sc : Nat × (Nat → Int32)} {d : Nat} {K : List KD} {r q t a B m : Nat} {w : EW}
/-! one token, on both sides -/
theorem pD_in {f : Nat → Int32} : ∀ (n j i : Nat), j ≤ i → i < pD f n j → ¬ isd_I (f i) = 0 := by
  intro n
  induction n with
  | zero => intro j i h1 h2; rw [pD] at h2; omega
  | succ n ih =>
    intro j i h1 h2
    rw [pD] at h2
    split at h2
    · omega
    · rename_i c
      by_cases e : i = j
      · subst e; exact c
      · exact ih (j + 1) i (by omega) h2
theorem pL_lt {f : Nat → Int32} {n j : Nat} (hn : 0 < n) (h : ¬ isl_I (f j) = 0) : j < pL f n j := by
  obtain ⟨n, rfl⟩ : ∃ n', n = n' + 1 := ⟨n - 1, by omega⟩
  rw [pL, if_neg h]
  have := pL_le (f := f) n (j + 1); omega
theorem pD_lt {f : Nat → Int32} {n j : Nat} (hn : 0 < n) (h : ¬ isd_I (f j) = 0) : j < pD f n j := by
  obtain ⟨n, rfl⟩ : ∃ n', n = n' + 1 := ⟨n - 1, by omega⟩
  rw [pD, if_neg h]
  have := pD_le (f := f) n (j + 1); omega
theorem digit_nI {x : Int32} (h : ¬ isd_I x = 0) : ∃ v, x = nI (48 + v) ∧ v ≤ 9 := by
  unfold isd_I at h
  by_cases c1 : x < 48
  · rw [if_pos c1] at h; exact absurd rfl h
  · by_cases c2 : 57 < x
    · rw [if_neg c1, if_pos c2] at h; exact absurd rfl h
    · have q1 := Int32.not_lt.mp c1
      have q2 := Int32.not_lt.mp c2
      rw [Int32.le_iff_toInt_le] at q1 q2
      have e1 : (48 : Int32).toInt = 48 := by decide
      have e2 : (57 : Int32).toInt = 57 := by decide
      rw [e1] at q1; rw [e2] at q2
      have hx : ¬ x < 0 := by
        rw [Int32.not_lt, Int32.le_iff_toInt_le]
        have : (0 : Int32).toInt = 0 := by decide
        omega
      have e := Int32.cast_toNatClampNeg x (Int32.not_lt.mp hx)
      refine ⟨x.toNatClampNeg - 48, ?_, by omega⟩
      rw [show 48 + (x.toNatClampNeg - 48) = x.toNatClampNeg by omega]
      exact (Int32.ofNat_toNatClampNeg x (Int32.not_lt.mp hx)).symm
theorem nuF_99 {f : Nat → Int32} {a k : Nat} (hk : k ≤ 2) (hd : ∀ i, a ≤ i → i < a + k → ¬ isd_I (f i) = 0) : NB (nuF f k a 0) 99 := by
  have step : ∀ (x v : Nat), 10 * nI x + nI (48 + v) - 48 = nI (10 * x + v) := by
    intro x v
    rw [show (10 : Int32) * nI x = nI (10 * x) from nI_mulx 10 x, nI_add, show (48 : Int32) = nI 48 from rfl, nI_subn (by omega), show 10 * x + (48 + v) - 48 = 10 * x + v by omega]
  rcases (by omega : k = 0 ∨ k = 1 ∨ k = 2) with rfl | rfl | rfl
  · exact ⟨0, rfl, by omega⟩
  · obtain ⟨v, ev, hv⟩ := digit_nI (hd a (by omega) (by omega))
    refine ⟨10 * 0 + v, ?_, by omega⟩
    rw [nuF_s, nuF, Nat.add_zero, ev]
    exact step 0 v
  · obtain ⟨v, ev, hv⟩ := digit_nI (hd a (by omega) (by omega))
    obtain ⟨v2, ev2, hv2⟩ := digit_nI (hd (a + 1) (by omega) (by omega))
    refine ⟨10 * (10 * 0 + v) + v2, ?_, by omega⟩
    have e1 : nuF f 1 a 0 = nI (10 * 0 + v) := by
      rw [nuF_s, nuF, Nat.add_zero, ev]
      exact step 0 v
    rw [nuF_s, e1, ev2]
    exact step _ v2
theorem numL_p {f : Nat → Int32} {L : Nat} {u : SG} (h : ∀ j, j < L → tok u j = f j) : ∀ (n j : Nat) (y : Int32), j + n ≤ L → numL u n j y = nuF f n j y := by
  intro n
  induction n with
  | zero => intro j y _; rfl
  | succ n ih => intro j y hj; rw [numL, nuF, h j (by omega), ih (j + 1) _ (by omega)]
/-- the word that lies there, as both say it -/
def TW (u v : SG) : Prop := (v 64 5 = 4 ∧ ∀ z ∈ ZS, choI u z = -1) ∨ ∃ c, c < 32 ∧ v 64 5 = 3 ∧ v 64 7 = nI (c + 1) ∧ ∀ z ∈ ZS, choI u z = tb z c
/-- the token from a to e of L bytes, as both say it -/
def TK (L a e : Nat) (u v : SG) : Prop := u 43 8 = nI a ∧ u 43 9 = nI e ∧ v 64 4 = nI a ∧ v 64 3 = nI e ∧ e ≤ L ∧ ((a = L ∧ e = L ∧ u 43 7 = 0 ∧ v 64 5 = 0) ∨ (a < e ∧ ((u 43 7 = 1 ∧ TW u v) ∨ (u 43 7 = 2 ∧ v 64 5 = 1 ∧ numL u (e - a) a 0 = v 64 6 ∧ NB (v 64 6) 99) ∨ (u 43 7 = 3 ∧ v 64 5 = 2) ∨ (u 43 7 = 4 ∧ v 64 5 = 4))))
theorem ZS_18 : ∀ z ∈ ZS, z < 18 := by decide
theorem WL_c {l : List Int32} (h : l ∈ WL) : ∃ c, c < 32 ∧ WL.getD c [] = l := by
  obtain ⟨c, hc, e⟩ := List.mem_iff_getElem.mp h
  refine ⟨c, hc, ?_⟩
  rw [List.getD_eq_getElem?_getD, List.getElem?_eq_getElem hc]
  exact e
theorem tok_2 {f : Nat → Int32} {L p : Nat} {t u v : SG} (hc : CB f L u) (hr : RTt f L t) (h1 : CT f L p u) (h2 : RTk f L p t v) : ∃ a e, p ≤ a ∧ TK L a e u v := by
  obtain ⟨e, he, hpe, h8, h9, kc⟩ := h1
  obtain ⟨e', he', hpe', h4, ax, kr⟩ := h2
  have hL := hr.2.1
  have hb := hc.2.2
  have lb := pB_le (f := f) (L - p) p
  have h3 := ax.1
  generalize pB f (L - p) p = a at *
  refine ⟨a, e, lb.1, h8, h9, h4, ?_⟩
  rcases kc with ⟨a1, a2, a3⟩ | ⟨a1, a2, a3, a4⟩ | ⟨a1, a2, a3, a4, a5⟩ | ⟨a1, a2, a3, a4, a5⟩ <;> rcases kr with ⟨b1, b2, b3⟩ | ⟨b1, b2, b3, b4, b5⟩ | ⟨b1, b2, b3, b4, b5, b6⟩ | ⟨b1, b2, b3, b4, b5⟩ <;> try omega
  all_goals try exact absurd a2 b2
  all_goals try exact absurd b2 a2
  all_goals try exact absurd a3 b3
  all_goals try exact absurd b3 a3
  · rw [← b2] at a2
    exact ⟨by rw [h3, a2], by omega, Or.inl ⟨a1, by omega, a3, b3⟩⟩
  · have ee : e' = e := b3.trans a3.symm
    subst ee
    have lt := pL_lt (n := L - a) (by omega) a2
    have li := pL_in (f := f) (L - a) a
    rw [← a3] at lt li
    refine ⟨h3, he, Or.inr ⟨lt, Or.inl ⟨a4, ?_⟩⟩⟩
    have ch : ∀ z ∈ ZS, choI u z = ixW (tkl f (e' - a) a) (Ws z) 0 := fun z hz => choI_e (ZS_18 z hz) a4 h8 h9 hL hb (by omega) he
    by_cases c : tkl f (e' - a) a ∈ WL
    · obtain ⟨c0, hc0, ec⟩ := WL_c c
      have l8 := WL_8 _ c
      rw [tkl_len] at l8
      have ecod : cod f a (e' - a) = nI (c0 + 1) := by
        unfold cod
        rw [if_pos l8, wordOf_e l8 (fun i hi => li (a + i) (by omega) (by omega)), ← ec, codT_c c0 hc0]
      have n99 : ¬ cod f a (e' - a) = 99 := by
        rw [ecod]
        intro q
        have := nI_inj (b := 99) (by omega) (by decide) q
        omega
      rw [if_neg n99] at b5
      exact Or.inr ⟨c0, hc0, b5, b4.trans ecod, fun z hz => by rw [ch z hz, ← ec]; rfl⟩
    · refine Or.inl ⟨?_, fun z hz => ?_⟩
      · have e99 : cod f a (e' - a) = 99 := by
          unfold cod
          split
          · rename_i l8
            rw [wordOf_e l8 (fun i hi => li (a + i) (by omega) (by omega)), codT_n c]
          · rfl
        rw [b5, if_pos e99]
      · rw [ch z hz]
        exact ixW_n _ _ (fun g hg e => c (e ▸ Ws_in z hz g hg))
  · have ee : e' = e := b4.trans a4.symm
    subst ee
    have lt := pD_lt (n := L - a) (by omega) a3
    have li := pD_in (f := f) (L - a) a
    rw [← a4] at lt li
    refine ⟨h3, he, Or.inr ⟨lt, ?_⟩⟩
    by_cases c : e' - a ≤ 2
    · rw [if_pos c] at b5
      rw [if_neg (by omega)] at a5
      refine Or.inr (Or.inl ⟨a5, b5, ?_, ?_⟩)
      · rw [b6 c]; exact numL_p hb _ _ _ (by omega)
      · rw [b6 c]; exact nuF_99 c (fun i h1 h2 => li i h1 (by omega))
    · rw [if_neg c] at b5
      rw [if_pos (by omega)] at a5
      exact Or.inr (Or.inr (Or.inr ⟨a5, b5⟩))
  · have ee : e' = e := b4.trans a4.symm
    subst ee
    refine ⟨h3, he, Or.inr ⟨by omega, ?_⟩⟩
    by_cases c : f a = 59
    · rw [if_pos c] at a5 b5
      exact Or.inr (Or.inr (Or.inl ⟨a5, b5⟩))
    · rw [if_neg c] at a5 b5
      exact Or.inr (Or.inr (Or.inr ⟨a5, b5⟩))
end XTD
end
section
section XTE
variable {sc : Nat × (Nat → Int32)} {d : Nat} {K : List KD} {r q t a B m : Nat} {w : EW}
/-! steps of a line, on both sides -/
/-- the fault so far, told ahead of the place b -/
def FL (b : Nat) (u v : SG) : Prop := (u 43 2 = 0 ∧ v 65 7 = 0 ∧ u 43 3 = -1 ∧ v 65 8 = -1) ∨ ∃ k p, (k = (2 : Int32) ∨ k = 3) ∧ u 43 2 = k ∧ v 65 7 = k ∧ u 43 3 = nI p ∧ v 65 8 = nI p ∧ p < b
/-- both stand at the token from a to e -/
def SM (f : Nat → Int32) (L a e : Nat) (u v : SG) : Prop := CB f L u ∧ RTt f L v ∧ v 64 8 = 0 ∧ TK L a e u v ∧ FL a u v
theorem FL_lo {b c : Nat} {u v u2 v2 : SG} (h : FL b u v) (hb : b ≤ c) (e2 : u2 43 2 = u 43 2) (e3 : u2 43 3 = u 43 3) (e7 : v2 65 7 = v 65 7) (e8 : v2 65 8 = v 65 8) : FL c u2 v2 := by
  rcases h with ⟨h1, h2, h3, h4⟩ | ⟨k, p, hk, h1, h2, h3, h4, h5⟩
  · exact Or.inl ⟨e2.trans h1, e7.trans h2, e3.trans h3, e8.trans h4⟩
  · exact Or.inr ⟨k, p, hk, e2.trans h1, e7.trans h2, e3.trans h3, e8.trans h4, by omega⟩
theorem FL_0 {b : Nat} {u v : SG} (h : FL b u v) : u 43 2 = 0 ↔ v 65 7 = 0 := by
  rcases h with ⟨h1, h2, _, _⟩ | ⟨k, p, hk, h1, h2, _⟩
  · rw [h1, h2]
  · rw [h1, h2]
theorem FL_eq {b : Nat} {u v : SG} (h : FL b u v) : u 43 2 = v 65 7 ∧ u 43 3 = v 65 8 := by
  rcases h with ⟨h1, h2, h3, h4⟩ | ⟨k, p, hk, h1, h2, h3, h4, _⟩
  · exact ⟨h1.trans h2.symm, h3.trans h4.symm⟩
  · exact ⟨h1.trans h2.symm, h3.trans h4.symm⟩
/-- a fault of the kind k at the place p, noted by both -/
theorem FL_note {b p : Nat} {u v : SG} {k : Int32} (hk : k = 2 ∨ k = 3) (h : FL p u v) (hp : p < b) (h8 : v 64 8 = 0) (hl : p ≤ 600) : ok (Ralso v k (nI p)) (fun w => FL b (notS u k (nI p)) w ∧ ¬ w 65 7 = 0 ∧ (∀ c, c ≠ 65 → w c = v c) ∧ ∀ j, j ≠ 7 → j ≠ 8 → w 65 j = v 65 j) := by
  have hk0 : ¬ k = 0 := by rcases hk with rfl | rfl <;> decide
  have hk1 : ¬ k = 1 := by rcases hk with rfl | rfl <;> decide
  unfold Ralso
  rw [if_pos h8]
  refine ok_be (rd_nI (e := 7) rfl (by decide) (by decide)) ?_
  rcases h with ⟨h1, h2, h3, h4⟩ | ⟨k2, p2, hk2, h1, h2, h3, h4, h5⟩
  · rw [if_pos h2]
    unfold Ralso_51
    refine ok_be (wr_nI (e := 7) rfl (by decide) (by decide)) (ok_be (wr_nI (e := 8) rfl (by decide) (by decide)) (ok_s ⟨Or.inr ⟨k, p, hk, ?_, ?_, ?_, ?_, hp⟩, ?_, fun c hc => ?_, fun j a1 a2 => ?_⟩))
    · unfold notS; rw [if_pos h1, up_bn (by decide), up_a]
    · rw [up_bn (by decide), up_a]
    · unfold notS; rw [if_pos h1, up_a]
    · rw [up_a]
    · rw [up_bn (by decide), up_a]; exact hk0
    · rw [up_n hc, up_n hc]
    · rw [up_bn a2, up_bn a1]
  · have hk20 : ¬ k2 = 0 := by rcases hk2 with rfl | rfl <;> decide
    rw [if_neg (by rw [h2]; exact hk20)]
    refine ok_be (rd_nI (e := 8) rfl (by decide) (by decide)) ?_
    rw [h4, if_pos (nI_lt2 h5 (by omega))]
    refine ok_s ⟨Or.inr ⟨k2, p2, hk2, ?_, h2, ?_, h4, by omega⟩, by rw [h2]; exact hk20, fun _ _ => rfl, fun _ _ _ => rfl⟩
    · unfold notS; rw [if_neg (by rw [h1]; exact hk20), if_neg hk1]; exact h1
    · unfold notS; rw [if_neg (by rw [h1]; exact hk20), if_neg hk1]; exact h3
theorem notS_n {s : SG} {x y : Int32} : (∀ c, c ≠ 43 → notS s x y c = s c) ∧ ∀ j, j ≠ 2 → j ≠ 3 → notS s x y 43 j = s 43 j := by
  unfold notS
  refine ⟨fun c hc => ?_, fun j h2 h3 => ?_⟩
  · repeat' split
    all_goals simp only [up_n hc]
  · repeat' split
    all_goals simp only [up_bn h2, up_bn h3]
theorem CB_of {f : Nat → Int32} {L : Nat} {u u2 : SG} (h : CB f L u) (e6 : u2 43 6 = u 43 6) (e9 : u2 43 9 = u 43 9) (e54 : u2 54 = u 54) : CB f L u2 := by
  obtain ⟨⟨h1, h2, h3, h4⟩, h5, h6⟩ := h
  have l6 : ln u2 = ln u := by unfold ln; rw [e6]
  have l9 : en u2 = en u := by unfold en; rw [e9]
  exact ⟨⟨by rw [e6, l6]; exact h1, by rw [l6]; exact h2, by rw [e9, l9]; exact h3, by rw [l6, l9]; exact h4⟩, by rw [l6]; exact h5, fun j hj => by unfold tok; rw [e54]; exact h6 j hj⟩
theorem RTt_of {f : Nat → Int32} {L : Nat} {v v2 : SG} (h : RTt f L v) (e2 : v2 64 2 = v 64 2) (e : ∀ j, 10 ≤ j → v2 65 j = v 65 j) : RTt f L v2 :=
  ⟨e2.trans h.1, h.2.1, fun j hj => by rw [e _ (by omega)]; exact h.2.2.1 j hj, h.2.2.2⟩
/-- both go on to the next token -/
theorem SM_adv {f : Nat → Int32} {L e : Nat} {u v : SG} (hc : CB f L u) (he : u 43 9 = nI e) (hl : e ≤ L) (hr : RTt f L v) (h3 : v 64 3 = nI e) (h8 : v 64 8 = 0) (hf : FL e u v) : ok (Radvance v) (fun w => (∃ a2 e2, e ≤ a2 ∧ SM f L a2 e2 (advS u) w) ∧ (∀ c, c ≠ 64 → w c = v c) ∧ ∀ j, (j < 3 ∨ 8 ≤ j) → w 64 j = v 64 j) := by
  have hL := hr.2.1
  have ee : en u = e := by unfold en; rw [he, nI_clamp (by omega)]
  obtain ⟨c1, c2, c3, c4⟩ := adv_c hc
  rw [ee] at c2
  refine ok_w (adv_r hr h3 hl) (fun w hw => ?_)
  have hw2 := hw
  obtain ⟨_, _, _, _, ax, _⟩ := hw2
  obtain ⟨a2, e2, ha, tk⟩ := tok_2 c1 hr c2 hw
  refine ⟨⟨a2, e2, ha, c1, AX_RTt ax hr, ?_, tk, ?_⟩, ax.2.2, ax.2.1⟩
  · rw [ax.2.1 8 (by omega)]; exact h8
  · exact FL_lo hf ha (c4 2 (by decide) (by decide) (by decide)) (c4 3 (by decide) (by decide) (by decide)) (by rw [ax.2.2 65 (by decide)]) (by rw [ax.2.2 65 (by decide)])
/-- off its token, its fault and its parts the class is as before -/
def FRc (u u2 : SG) : Prop := (∀ c, c ≠ 43 → c ≠ 55 → u2 c = u c) ∧ ∀ j, j ≠ 2 → j ≠ 3 → j ≠ 7 → j ≠ 8 → j ≠ 9 → u2 43 j = u 43 j
/-- off its token and its fault the reference is as before -/
def FRr (v w : SG) : Prop := (∀ c, c ≠ 64 → c ≠ 65 → w c = v c) ∧ (∀ j, j ≠ 7 → j ≠ 8 → w 65 j = v 65 j) ∧ ∀ j, (j < 3 ∨ 8 ≤ j) → w 64 j = v 64 j
theorem FRc_rfl {u : SG} : FRc u u := ⟨fun _ _ _ => rfl, fun _ _ _ _ _ _ => rfl⟩
theorem FRr_rfl {v : SG} : FRr v v := ⟨fun _ _ _ => rfl, fun _ _ _ => rfl, fun _ _ => rfl⟩
theorem FRc_tr {u v w : SG} (h : FRc u v) (g : FRc v w) : FRc u w := ⟨fun c a b => (g.1 c a b).trans (h.1 c a b), fun j a b c d e => (g.2 j a b c d e).trans (h.2 j a b c d e)⟩
theorem FRr_tr {u v w : SG} (h : FRr u v) (g : FRr v w) : FRr u w := ⟨fun c a b => (g.1 c a b).trans (h.1 c a b), fun j a b => (g.2.1 j a b).trans (h.2.1 j a b), fun j a => (g.2.2 j a).trans (h.2.2 j a)⟩
/-- the reference has met a fault of grammar where the class stands -/
def WR (u v w : SG) : Prop := w 64 8 = 1 ∧ w 65 7 = 1 ∧ w 65 8 = u 43 8 ∧ (∀ c, c ≠ 64 → c ≠ 65 → w c = v c) ∧ ∀ j, j ≠ 7 → j ≠ 8 → w 65 j = v 65 j
theorem ends_w {L a e : Nat} {u v : SG} (h8 : v 64 8 = 0) (tk : TK L a e u v) : ok (Rends v) (fun w => WR u v w) := by
  unfold Rends
  rw [if_pos h8]
  refine ok_be (wr_nI (e := 7) rfl (by decide) (by decide)) (ok_be (wr_nI (e := 8) rfl (by decide) (by decide)) (ok_s ⟨?_, ?_, ?_, fun c a1 a2 => ?_, fun j a1 a2 => ?_⟩))
  · rw [up_n (by decide), up_n (by decide), up_a]
  · rw [up_bn (by decide), up_a]
  · rw [up_a, up_n (by decide), up_bn (by decide), tk.2.2.1, tk.1]
  · rw [up_n a2, up_n a2, up_n a1]
  · rw [up_bn a2, up_bn a1, up_n (by decide)]
/-- a told number: what the class's reading answers, what the reference's -/
def NO (f : Nat → Int32) (L a part hi : Nat) (u v : SG) (rp p : Int32 × SG) : Prop := (rp.1 = 1 ∧ ∃ a2 e2 x, a < a2 ∧ SM f L a2 e2 rp.2 p.2 ∧ FRc u rp.2 ∧ rp.2 55 = upd (u 55) part x ∧ FRr v p.2 ∧ (p.2 65 7 = 0 → v 65 7 = 0 ∧ x = p.1) ∧ NB p.1 hi) ∨ (rp.1 = 0 ∧ rp.2 = u ∧ WR u v p.2)
theorem pt5 {u : SG} {part : Nat} {x : Int32} (hp : part < 5) : pt 5 u 55 (nI part) x = up u 55 part x := by
  unfold pt
  rw [if_neg (nI_pos (by omega)), if_neg (show ¬ nI 5 ≤ nI part from nI_ge (by omega) (by decide)), nI_clamp (by omega)]
/-- the class has read a number, whether it can be or not -/
theorem num_go {f : Nat → Int32} {L a e part lo hi : Nat} {u v : SG} {x : Int32} (h : SM f L a e u v) (hp : part < 5) (ae : a < e) (ex : v 64 6 = x) (h9 : NB x 99) (hh : hi ≤ 99) (hlo : lo ≤ hi) (tk5 : v 64 5 = 1) :
    ok (Rnumbered v (nI lo) (nI hi)) (fun p => NO f L a part hi u v (1, advS (up (if inI x (nI lo) (nI hi) = 0 then notS u 2 (u 43 8) else u) 55 part x)) p) := by
  obtain ⟨hc, hr, h8, tk, hf⟩ := h
  have hL := hr.2.1
  have te := tk.2.2.2.2.1
  unfold Rnumbered
  rw [if_pos h8, if_pos tk5, ex]
  have go : ∀ (u1 v1 : SG), (∀ c, c ≠ 43 → u1 c = u c) → (∀ j, j ≠ 2 → j ≠ 3 → u1 43 j = u 43 j) → (∀ c, c ≠ 65 → v1 c = v c) → (∀ j, j ≠ 7 → j ≠ 8 → v1 65 j = v 65 j) → FL e u1 v1 → (v1 65 7 = 0 → v 65 7 = 0 ∧ ¬ inI x (nI lo) (nI hi) = 0) → ok (Rnumbered_44 v1 (nI lo) (nI hi) x) (fun p => NO f L a part hi u v (1, advS (up u1 55 part x)) p) := by
    intro u1 v1 q1 q2 q3 q4 q5 q6
    have cb : CB f L (up u1 55 part x) := CB_of hc (by rw [up_n (by decide)]; exact q2 6 (by decide) (by decide)) (by rw [up_n (by decide)]; exact q2 9 (by decide) (by decide)) (by rw [up_n (by decide), q1 54 (by decide)])
    have rt : RTt f L v1 := RTt_of hr (by rw [q3 64 (by decide)]) (fun j hj => q4 j (by omega) (by omega))
    have fl : FL e (up u1 55 part x) v1 := FL_lo q5 (Nat.le_refl e) (by rw [up_n (by decide)]) (by rw [up_n (by decide)]) rfl rfl
    unfold Rnumbered_44
    refine ok_b (SM_adv cb (by rw [up_n (by decide), q2 9 (by decide) (by decide)]; exact tk.2.1) te rt (by rw [q3 64 (by decide)]; exact tk.2.2.2.1) (by rw [q3 64 (by decide)]; exact h8) fl) (fun w hw => ?_)
    obtain ⟨⟨a2, e2, ha2, sm⟩, w1, w2⟩ := hw
    obtain ⟨_, _, c3, c4⟩ := adv_c cb
    have frc : FRc u (advS (up u1 55 part x)) := ⟨fun c b1 b2 => by rw [c3 c b1, up_n b2, q1 c b1], fun j b1 b2 b3 b4 b5 => by rw [c4 j b3 b4 b5, up_n (by decide), q2 j b1 b2]⟩
    have f55 : advS (up u1 55 part x) 55 = upd (u 55) part x := by rw [c3 55 (by decide), up_s, q1 55 (by decide)]
    have frr : FRr v w := ⟨fun c b1 b2 => by rw [w1 c b1, q3 c b2], fun j b1 b2 => by rw [w1 65 (by decide), q4 j b1 b2], fun j b1 => by rw [w2 j b1, q3 64 (by decide)]⟩
    have w7 : w 65 7 = 0 → v1 65 7 = 0 := fun z => by rw [← w1 65 (by decide)]; exact z
    refine ok_i (fun c => ok_s ?_) (fun c => ok_s ?_)
    · exact Or.inl ⟨rfl, a2, e2, x, by omega, sm, frc, f55, frr, fun z => absurd c (q6 (w7 z)).2, lo, rfl, hlo⟩
    · refine Or.inl ⟨rfl, a2, e2, x, by omega, sm, frc, f55, frr, fun z => ⟨(q6 (w7 z)).1, rfl⟩, ?_⟩
      obtain ⟨n, en, hn⟩ := h9
      refine ⟨n, en, ?_⟩
      rw [en] at c
      unfold inI at c
      by_cases c1 : nI n < nI lo
      · rw [if_pos c1] at c; exact absurd rfl c
      · by_cases c2 : nI hi < nI n
        · rw [if_neg c1, if_pos c2] at c; exact absurd rfl c
        · have := Int32.not_lt.mp c2
          rw [Int32.le_iff_toInt_le, nI_toInt (by omega), nI_toInt (by omega)] at this
          omega
  by_cases ci : inI x (nI lo) (nI hi) = 0
  · rw [if_pos ci, if_pos ci, tk.2.2.1, tk.1]
    refine ok_b (FL_note (b := e) (Or.inl rfl) hf ae h8 (by omega)) (fun v1 hv => ?_)
    obtain ⟨n1, n2⟩ := notS_n (s := u) (x := 2) (y := nI a)
    exact go _ v1 n1 n2 hv.2.2.1 hv.2.2.2 hv.1 (fun z => absurd z hv.2.1)
  · rw [if_neg ci, if_neg ci]
    exact go u v (fun _ _ => rfl) (fun _ _ _ => rfl) (fun _ _ => rfl) (fun _ _ _ => rfl) (FL_lo hf (by omega) rfl rfl rfl rfl) (fun z => ⟨z, ci⟩)
theorem num_no {f : Nat → Int32} {L a e part hi : Nat} {u v : SG} {x y : Int32} (h : SM f L a e u v) (n5 : ¬ v 64 5 = 1) : ok (Rnumbered v x y) (fun p => NO f L a part hi u v (0, u) p) := by
  obtain ⟨_, _, h8, tk, _⟩ := h
  unfold Rnumbered
  rw [if_pos h8, if_neg n5]
  unfold Rnumbered_15
  exact ok_b (ends_w h8 tk) (fun w hw => ok_s (Or.inr ⟨rfl, rfl, hw⟩))
/-- a number of the form g: between lo and hi -/
theorem rea_s {f : Nat → Int32} {L a e part lo hi : Nat} {u v : SG} {g : Int32} (h : SM f L a e u v) (hp : part < 5) (hlo : leaO g = nI lo) (hhi : mosO g = nI hi) (n102 : ¬ g = 102) (hh : hi ≤ 99) (hl : lo ≤ hi) : ok (Rnumbered v (nI lo) (nI hi)) (fun p => NO f L a part hi u v (reaP u g (nI part)) p) := by
  have h0 := h
  obtain ⟨hc, hr, h8, tk, hf⟩ := h
  have hL := hr.2.1
  have te := tk.2.2.2.2.1
  have e9 : en u = e := by unfold en; rw [tk.2.1, nI_clamp (by omega)]
  have e8 : u 43 7 = 2 → a < e ∧ v 64 5 = 1 ∧ numL u (e - a) a 0 = v 64 6 ∧ NB (v 64 6) 99 := by
    intro z
    rcases tk.2.2.2.2.2 with ⟨_, _, k, _⟩ | ⟨ae, ⟨k, _⟩ | ⟨k, k2, k3, k4⟩ | ⟨k, _⟩ | ⟨k, _⟩⟩
    · rw [z] at k; exact absurd k (by decide)
    · rw [z] at k; exact absurd k (by decide)
    · exact ⟨ae, k2, k3, k4⟩
    · rw [z] at k; exact absurd k (by decide)
    · rw [z] at k; exact absurd k (by decide)
  have n8 : ¬ u 43 7 = 2 → ¬ v 64 5 = 1 := by
    intro z q
    rcases tk.2.2.2.2.2 with ⟨_, _, _, k⟩ | ⟨ae, ⟨_, ⟨k, _⟩ | ⟨c, _, k, _⟩⟩ | ⟨k, _⟩ | ⟨_, k⟩ | ⟨_, k⟩⟩
    · rw [q] at k; exact absurd k (by decide)
    · rw [q] at k; exact absurd k (by decide)
    · rw [q] at k; exact absurd k (by decide)
    · exact z k
    · rw [q] at k; exact absurd k (by decide)
    · rw [q] at k; exact absurd k (by decide)
  unfold reaP
  by_cases c : u 43 7 = 2
  · obtain ⟨ae, k2, k3, k4⟩ := e8 c
    have est : st u = a := by unfold st; rw [tk.1, nI_clamp (by omega)]
    rw [if_pos c, e9, est, k3]
    have G := num_go (part := part) (lo := lo) (hi := hi) h0 hp ae rfl k4 hh hl k2
    refine ok_w G (fun p hp2 => ?_)
    have eq : rnuP u g (nI part) (v 64 6) = (1, advS (up (if inI (v 64 6) (nI lo) (nI hi) = 0 then notS u 2 (u 43 8) else u) 55 part (v 64 6))) := by
      unfold rnuP
      rw [if_neg n102, hlo, hhi, pt5 hp, pt5 hp]
      unfold inI
      by_cases c1 : v 64 6 < nI lo
      · simp only [if_pos c1, if_true]
      · by_cases c2 : nI hi < v 64 6
        · simp only [if_neg c1, if_pos c2, if_true]
        · simp only [if_neg c1, if_neg c2]
          rw [if_neg (by decide)]
    rw [eq]; exact hp2
  · rw [if_neg c]
    exact num_no h0 (n8 c)
end XTE
end
section
section XTF
variable {sc : Nat × (Nat → Int32)} {d : Nat} {K : List KD} {r q t a B m : Nat} {w : EW}
/-! words and ends of a line, on both sides -/
/-- a told word out of the class's list z, the reference's words from lo to hi (the class's first is lo) -/
def WO (f : Nat → Int32) (L a part lo hi : Nat) (u v : SG) (rp p : Int32 × SG) : Prop := (rp.1 = 1 ∧ ∃ a2 e2 k, a < a2 ∧ k ≤ hi - lo ∧ SM f L a2 e2 rp.2 p.2 ∧ FRc u rp.2 ∧ rp.2 55 = upd (u 55) part (nI k) ∧ FRr v p.2 ∧ p.2 65 = v 65 ∧ p.1 = nI (lo + k)) ∨ (rp.1 = 0 ∧ rp.2 = u ∧ p.1 = 0 ∧ WR u v p.2)
/-- whether the class's list z holds just the reference's words lo .. hi, in that order -/
def zOK (z lo hi : Nat) : Bool := (List.range 32).all (fun c => if lo ≤ c + 1 ∧ c + 1 ≤ hi then decide (tb z c = nI (c + 1 - lo)) else decide (tb z c = -1))
theorem zOK_e {z lo hi c : Nat} (h : zOK z lo hi = true) (hc : c < 32) : tb z c = if lo ≤ c + 1 ∧ c + 1 ≤ hi then nI (c + 1 - lo) else -1 := by
  unfold zOK at h
  rw [List.all_eq_true] at h
  have := h c (List.mem_range.mpr hc)
  split at this <;> rename_i q
  · rw [if_pos q]; exact of_decide_eq_true this
  · rw [if_neg q]; exact of_decide_eq_true this
theorem inI_le {n lo hi : Nat} (hn : n ≤ 1000) (hl : lo ≤ 1000) (hh : hi ≤ 1000) : inI (nI n) (nI lo) (nI hi) = if lo ≤ n ∧ n ≤ hi then 1 else 0 := by
  unfold inI
  have l1 : nI n < nI lo ↔ n < lo := by rw [Int32.lt_iff_toInt_lt, nI_toInt (by omega), nI_toInt (by omega)]; omega
  have l2 : nI hi < nI n ↔ hi < n := by rw [Int32.lt_iff_toInt_lt, nI_toInt (by omega), nI_toInt (by omega)]; omega
  by_cases c1 : n < lo
  · rw [if_pos (l1.2 c1), if_neg (by omega)]
  · rw [if_neg (fun h => c1 (l1.1 h))]
    by_cases c2 : hi < n
    · rw [if_pos (l2.2 c2), if_neg (by omega)]
    · rw [if_neg (fun h => c2 (l2.1 h)), if_pos (by omega)]
theorem nI_n1 {k : Nat} (hk : k ≤ 1000) : ¬ nI k = -1 := by
  intro h
  have h2 := congrArg Int32.toInt h
  rw [nI_toInt (by omega)] at h2
  have : (-1 : Int32).toInt = -1 := by decide
  omega
/-- the token as a word: what the class chooses of a list, what the reference sees -/
theorem TK_w {f : Nat → Int32} {L a e z lo hi : Nat} {u v : SG} (h : SM f L a e u v) (hz : z ∈ ZS) (ok_ : zOK z lo hi = true) (hh : hi ≤ 32) (h1 : 1 ≤ lo) (hlo : lo ≤ hi) : (choI u z = -1 ∧ (¬ v 64 5 = 3 ∨ inI (v 64 7) (nI lo) (nI hi) = 0)) ∨ ∃ k, a < e ∧ k ≤ hi - lo ∧ lo + k ≤ hi ∧ choI u z = nI k ∧ v 64 5 = 3 ∧ v 64 7 = nI (lo + k) ∧ ¬ inI (v 64 7) (nI lo) (nI hi) = 0 := by
  obtain ⟨_, _, _, tk, _⟩ := h
  rcases tk.2.2.2.2.2 with ⟨_, _, k, k2⟩ | ⟨ae, ⟨k, ⟨k2, k3⟩ | ⟨c, hc, k2, k3, k4⟩⟩ | ⟨k, k2, _⟩ | ⟨k, k2⟩ | ⟨k, k2⟩⟩
  · exact Or.inl ⟨choI_n (by rw [k]; decide), Or.inl (by rw [k2]; decide)⟩
  · exact Or.inl ⟨k3 z hz, Or.inl (by rw [k2]; decide)⟩
  · have t := k4 z hz
    rw [zOK_e ok_ hc] at t
    have ii := inI_le (n := c + 1) (lo := lo) (hi := hi) (by omega) (by omega) (by omega)
    by_cases q : lo ≤ c + 1 ∧ c + 1 ≤ hi
    · rw [if_pos q] at t ii
      refine Or.inr ⟨c + 1 - lo, ae, by omega, by omega, t, k2, by rw [k3, show lo + (c + 1 - lo) = c + 1 by omega], ?_⟩
      rw [k3, ii]; decide
    · rw [if_neg q] at t ii
      exact Or.inl ⟨t, Or.inr (by rw [k3, ii])⟩
  · exact Or.inl ⟨choI_n (by rw [k]; decide), Or.inl (by rw [k2]; decide)⟩
  · exact Or.inl ⟨choI_n (by rw [k]; decide), Or.inl (by rw [k2]; decide)⟩
  · exact Or.inl ⟨choI_n (by rw [k]; decide), Or.inl (by rw [k2]; decide)⟩
/-- what the class does with a word of the list z -/
def cwP (u : SG) (z : Nat) (part : Nat) : Int32 × SG := if choI u z = -1 then (0, u) else (1, advS (pt 5 u 55 (nI part) (choI u z)))
theorem wor_s {f : Nat → Int32} {L a e part z lo hi : Nat} {u v : SG} (h : SM f L a e u v) (hp : part < 5) (hz : z ∈ ZS) (ok_ : zOK z lo hi = true) (hh : hi ≤ 32) (h1 : 1 ≤ lo) (hlo : lo ≤ hi) : ok (Rtakes v (nI lo) (nI hi)) (fun p => WO f L a part lo hi u v (cwP u z part) p) := by
  have h0 := h
  have tw := TK_w h hz ok_ hh h1 hlo
  obtain ⟨hc, hr, h8, tk, hf⟩ := h
  unfold Rtakes cwP
  rw [if_pos h8]
  rcases tw with ⟨t1, t2⟩ | ⟨k, ae, hk, hkl, t1, t2, t3, t4⟩
  · rw [if_pos t1]
    have no : ok (Rtakes_27 v (nI lo) (nI hi)) (fun p => WO f L a part lo hi u v (0, u) p) := by
      unfold Rtakes_27
      exact ok_b (ends_w h8 tk) (fun w hw => ok_s (Or.inr ⟨rfl, rfl, rfl, hw⟩))
    rcases t2 with t2 | t2
    · rw [if_neg t2]; exact no
    · refine ok_i (fun _ => ?_) (fun _ => no)
      rw [if_pos t2]; exact no
  · rw [if_neg (show ¬ choI u z = -1 by rw [t1]; exact nI_n1 (by omega)), if_pos t2, if_neg t4, pt5 hp, t1]
    have cb : CB f L (up u 55 part (nI k)) := CB_of hc (by rw [up_n (by decide)]) (by rw [up_n (by decide)]) (by rw [up_n (by decide)])
    have fl : FL e (up u 55 part (nI k)) v := FL_lo hf (by omega) (by rw [up_n (by decide)]) (by rw [up_n (by decide)]) rfl rfl
    refine ok_b (SM_adv cb (by rw [up_n (by decide)]; exact tk.2.1) tk.2.2.2.2.1 hr tk.2.2.2.1 h8 fl) (fun w hw => ok_s ?_)
    obtain ⟨⟨a2, e2, ha2, sm⟩, w1, w2⟩ := hw
    obtain ⟨_, _, c3, c4⟩ := adv_c cb
    have frc : FRc u (advS (up u 55 part (nI k))) := ⟨fun c b1 b2 => by rw [c3 c b1, up_n b2], fun j b1 b2 b3 b4 b5 => by rw [c4 j b3 b4 b5, up_n (by decide)]⟩
    have f55 : advS (up u 55 part (nI k)) 55 = upd (u 55) part (nI k) := by rw [c3 55 (by decide), up_s]
    have frr : FRr v w := ⟨fun c b1 b2 => w1 c b1, fun j b1 b2 => by rw [w1 65 (by decide)], fun j b1 => w2 j b1⟩
    exact Or.inl ⟨rfl, a2, e2, k, by omega, hk, sm, frc, f55, frr, w1 65 (by decide), t3⟩
/-- the end of a line -/
def SO (f : Nat → Int32) (L a : Nat) (u v : SG) (rp : Int32 × SG) (w : SG) : Prop := (rp.1 = 1 ∧ ∃ a2 e2, a < a2 ∧ SM f L a2 e2 rp.2 w ∧ FRc u rp.2 ∧ rp.2 55 = u 55 ∧ FRr v w ∧ w 65 = v 65) ∨ (rp.1 = 0 ∧ rp.2 = u ∧ WR u v w)
theorem sem_s {f : Nat → Int32} {L a e : Nat} {u v : SG} (h : SM f L a e u v) : ok (RendsLine v) (fun w => SO f L a u v (resP u) w) := by
  obtain ⟨hc, hr, h8, tk, hf⟩ := h
  have sy : (u 43 7 = 3 ∧ v 64 5 = 2 ∧ a < e) ∨ (¬ u 43 7 = 3 ∧ ¬ v 64 5 = 2) := by
    rcases tk.2.2.2.2.2 with ⟨_, _, k, k2⟩ | ⟨ae, ⟨k, ⟨k2, k3⟩ | ⟨c, hc, k2, k3, k4⟩⟩ | ⟨k, k2, _⟩ | ⟨k, k2⟩ | ⟨k, k2⟩⟩
    · exact Or.inr ⟨by rw [k]; decide, by rw [k2]; decide⟩
    · exact Or.inr ⟨by rw [k]; decide, by rw [k2]; decide⟩
    · exact Or.inr ⟨by rw [k]; decide, by rw [k2]; decide⟩
    · exact Or.inr ⟨by rw [k]; decide, by rw [k2]; decide⟩
    · exact Or.inl ⟨k, k2, ae⟩
    · exact Or.inr ⟨by rw [k]; decide, by rw [k2]; decide⟩
  unfold RendsLine resP
  rw [if_pos h8]
  rcases sy with ⟨s1, s2, ae⟩ | ⟨s1, s2⟩
  · rw [if_pos s1, if_pos s2]
    have fl : FL e u v := FL_lo hf (by omega) rfl rfl rfl rfl
    refine ok_b (SM_adv hc tk.2.1 tk.2.2.2.2.1 hr tk.2.2.2.1 h8 fl) (fun w hw => ok_s ?_)
    obtain ⟨⟨a2, e2, ha2, sm⟩, w1, w2⟩ := hw
    obtain ⟨_, _, c3, c4⟩ := adv_c hc
    have frc : FRc u (advS u) := ⟨fun c b1 b2 => c3 c b1, fun j b1 b2 b3 b4 b5 => c4 j b3 b4 b5⟩
    have frr : FRr v w := ⟨fun c b1 b2 => w1 c b1, fun j b1 b2 => by rw [w1 65 (by decide)], fun j b1 => w2 j b1⟩
    exact Or.inl ⟨rfl, a2, e2, by omega, sm, frc, c3 55 (by decide), frr, w1 65 (by decide)⟩
  · rw [if_neg s1, if_neg s2]
    unfold RendsLine_22
    exact ok_b (ends_w h8 tk) (fun w hw => ok_s (Or.inr ⟨rfl, rfl, hw⟩))
/-! once there is a fault of grammar the reference does nothing more -/
theorem wr_num {v : SG} {x y : Int32} (h : ¬ v 64 8 = 0) : Rnumbered v x y = some (x, v) := by
  unfold Rnumbered Rnumbered_15 Rends
  rw [if_neg h, if_neg h]; rfl
theorem wr_tak {v : SG} {x y : Int32} (h : ¬ v 64 8 = 0) : Rtakes v x y = some (0, v) := by
  unfold Rtakes Rtakes_27 Rends
  rw [if_neg h, if_neg h]; rfl
theorem wr_sem {v : SG} (h : ¬ v 64 8 = 0) : RendsLine v = some v := by
  unfold RendsLine RendsLine_22 Rends
  rw [if_neg h, if_neg h]; rfl
theorem wr_also {v : SG} {x y : Int32} (h : ¬ v 64 8 = 0) : Ralso v x y = some v := by
  unfold Ralso
  rw [if_neg h]
end XTF
end
section
section XTG
variable {sc : Nat × (Nat → Int32)} {d : Nat} {K : List KD} {r q t a B m : Nat} {w : EW}
/-! a line of the class, form by form -/
def rlC (so line : Int32) : List Int32 → SG → Nat → Int32 × SG
  | [], s, _ => (1, rlT s so line)
  | c :: t, s, y => if (rpaP s c (nI y)).1 = 0 then refP (rpaP s c (nI y)).2 else rlC so line t (rpaP s c (nI y)).2 (y + 1)
def chs (z : Nat) : Nat → Nat → List Int32
  | 0, _ => []
  | n + 1, j => if chZ z j = 32 then [] else chZ z j :: chs z n (j + 1)
theorem rlL_c {so line : Int32} {z : Nat} : ∀ (n j : Nat) (s : SG) (y : Nat), rlL so line z n j s (nI y) = rlC so line (chs z n j) s y := by
  intro n
  induction n with
  | zero => intro j s y; rfl
  | succ n ih =>
    intro j s y
    rw [rlL, chs]
    by_cases c : chZ z j = 32
    · rw [if_pos c, if_pos c]; rfl
    · rw [if_neg c, if_neg c, rlC]
      by_cases c2 : (rpaP s (chZ z j) (nI y)).1 = 0
      · rw [if_pos c2, if_pos c2]
      · rw [if_neg c2, if_neg c2, ← nI_succ, ih]
def forms (so line : Int32) : List Int32 := chs (fomZ so) (sl (fomZ so) - staN (fomZ so) line) (staN (fomZ so) line)
theorem rliP_c {s : SG} {so : Int32} (h : ¬ choI s (worZ so) = -1) : rliP s so = rlC so (choI s (worZ so)) (forms so (choI s (worZ so))) (rl0 s so) 0 := by
  unfold rliP
  rw [if_neg h]
  exact rlL_c _ _ _ 0
theorem rliP_n {s : SG} {so : Int32} (h : choI s (worZ so) = -1) : rliP s so = refP s := by
  unfold rliP
  rw [if_pos h]
theorem rpa_w {s : SG} {g : Int32} {z part : Nat} (n59 : ¬ g = 59) (n105 : ¬ g = 105) (hz : choZ g = z) (he : isEI z = 0) : rpaP s g (nI part) = cwP s z part := by
  unfold rpaP cwP
  rw [if_neg n59, if_neg n105, hz, if_pos he]
theorem rpa_n {s : SG} {g : Int32} {part : Nat} (n59 : ¬ g = 59) (n105 : ¬ g = 105) (he : ¬ isEI (choZ g) = 0) : rpaP s g (nI part) = reaP s g (nI part) := by
  unfold rpaP
  rw [if_neg n59, if_neg n105, if_neg he]
theorem rpa_s {s : SG} {part : Nat} : rpaP s 59 (nI part) = resP s := by
  unfold rpaP
  rw [if_pos rfl]
theorem rpa_k {s : SG} {part : Nat} : rpaP s 107 (nI part) = cwP s 14 part := rpa_w (by decide) (by decide) (by decide) (by decide)
theorem rpa_y {s : SG} {part : Nat} : rpaP s 121 (nI part) = cwP s 17 part := rpa_w (by decide) (by decide) (by decide) (by decide)
theorem rpa_e {s : SG} {part : Nat} : rpaP s 115 (nI part) = cwP s 15 part := rpa_w (by decide) (by decide) (by decide) (by decide)
theorem rpa_b {s : SG} {part : Nat} : rpaP s 98 (nI part) = cwP s 16 part := rpa_w (by decide) (by decide) (by decide) (by decide)
/-! what a token hangs on -/
theorem istL_g {s t : SG} {z a : Nat} (e8 : t 43 8 = s 43 8) (e54 : t 54 = s 54) : ∀ (n j : Nat), istL t z a n j = istL s z a n j := by
  intro n
  induction n with
  | zero => intro j; rfl
  | succ n ih => intro j; rw [istL, istL, e8, e54, ih]
theorem istI_g {s t : SG} {z a b : Nat} (e8 : t 43 8 = s 43 8) (e9 : t 43 9 = s 43 9) (e54 : t 54 = s 54) : istI t z a b = istI s z a b := by
  unfold istI
  rw [e8, e9, istL_g e8 e54]
theorem choI_g {s t : SG} {z : Nat} (e7 : t 43 7 = s 43 7) (e8 : t 43 8 = s 43 8) (e9 : t 43 9 = s 43 9) (e54 : t 54 = s 54) : choI t z = choI s z := by
  unfold choI
  rw [choL_go, choL_go, e7]
  split
  · generalize WBf z (sl z + 1) 0 0 = l
    generalize (0 : Int32) = y
    induction l generalizing y with
    | nil => rfl
    | cons p l ih => rw [goW, goW, istI_g e8 e9 e54, ih]
  · rfl
theorem numL_g {s t : SG} (e54 : t 54 = s 54) : ∀ (n j : Nat) (y : Int32), numL t n j y = numL s n j y := by
  intro n
  induction n with
  | zero => intro j y; rfl
  | succ n ih =>
    intro j y
    rw [numL, numL, ih]
    unfold tok
    rw [e54]
theorem TK_g {L a e : Nat} {u v u2 v2 : SG} (h : TK L a e u v) (e7 : u2 43 7 = u 43 7) (e8 : u2 43 8 = u 43 8) (e9 : u2 43 9 = u 43 9) (e54 : u2 54 = u 54) (ev : ∀ j, 3 ≤ j → j < 8 → v2 64 j = v 64 j) : TK L a e u2 v2 := by
  obtain ⟨h1, h2, h3, h4, h5, h6⟩ := h
  refine ⟨e8.trans h1, e9.trans h2, (ev 4 (by omega) (by omega)).trans h3, (ev 3 (by omega) (by omega)).trans h4, h5, ?_⟩
  have v5 := ev 5 (by omega) (by omega)
  have v6 := ev 6 (by omega) (by omega)
  have v7 := ev 7 (by omega) (by omega)
  rcases h6 with ⟨a1, a2, a3, a4⟩ | ⟨ae, ⟨a1, ⟨a2, a3⟩ | ⟨c, hc, a2, a3, a4⟩⟩ | ⟨a1, a2, a3, a4⟩ | ⟨a1, a2⟩ | ⟨a1, a2⟩⟩
  · exact Or.inl ⟨a1, a2, e7.trans a3, v5.trans a4⟩
  · exact Or.inr ⟨ae, Or.inl ⟨e7.trans a1, Or.inl ⟨v5.trans a2, fun z hz => by rw [choI_g e7 e8 e9 e54]; exact a3 z hz⟩⟩⟩
  · exact Or.inr ⟨ae, Or.inl ⟨e7.trans a1, Or.inr ⟨c, hc, v5.trans a2, v7.trans a3, fun z hz => by rw [choI_g e7 e8 e9 e54]; exact a4 z hz⟩⟩⟩
  · exact Or.inr ⟨ae, Or.inr (Or.inl ⟨e7.trans a1, v5.trans a2, by rw [numL_g e54, v6]; exact a3, by rw [v6]; exact a4⟩)⟩
  · exact Or.inr ⟨ae, Or.inr (Or.inr (Or.inl ⟨e7.trans a1, v5.trans a2⟩))⟩
  · exact Or.inr ⟨ae, Or.inr (Or.inr (Or.inr ⟨e7.trans a1, v5.trans a2⟩))⟩
theorem SM_g {f : Nat → Int32} {L a e : Nat} {u v u2 v2 : SG} (h : SM f L a e u v) (eu : ∀ j, (j = 2 ∨ j = 3 ∨ (6 ≤ j ∧ j ≤ 9)) → u2 43 j = u 43 j) (e54 : u2 54 = u 54) (e64 : ∀ j, j ≤ 8 → v2 64 j = v 64 j) (e65 : ∀ j, 7 ≤ j → v2 65 j = v 65 j) : SM f L a e u2 v2 := by
  obtain ⟨h1, h2, h3, h4, h5⟩ := h
  exact ⟨CB_of h1 (eu 6 (by omega)) (eu 9 (by omega)) e54, RTt_of h2 (e64 2 (by omega)) (fun j hj => e65 j (by omega)), (e64 8 (by omega)).trans h3, TK_g h4 (eu 7 (by omega)) (eu 8 (by omega)) (eu 9 (by omega)) e54 (fun j _ hj => e64 j (by omega)), FL_lo h5 (Nat.le_refl a) (eu 2 (by omega)) (eu 3 (by omega)) (e65 7 (by omega)) (e65 8 (by omega))⟩
/-! the first word of a line -/
/-- the word that lies there: none of the lists' words, or one -/
theorem TK_c {f : Nat → Int32} {L a e : Nat} {u v : SG} (h : SM f L a e u v) : (¬ v 64 5 = 3 ∧ ∀ z ∈ ZS, choI u z = -1) ∨ ∃ c, c < 32 ∧ a < e ∧ v 64 5 = 3 ∧ v 64 7 = nI (c + 1) ∧ ∀ z ∈ ZS, choI u z = tb z c := by
  obtain ⟨_, _, _, tk, _⟩ := h
  rcases tk.2.2.2.2.2 with ⟨_, _, k, k2⟩ | ⟨ae, ⟨k, ⟨k2, k3⟩ | ⟨c, hc, k2, k3, k4⟩⟩ | ⟨k, k2, _⟩ | ⟨k, k2⟩ | ⟨k, k2⟩⟩
  · exact Or.inl ⟨by rw [k2]; decide, fun z _ => choI_n (by rw [k]; decide)⟩
  · exact Or.inl ⟨by rw [k2]; decide, k3⟩
  · exact Or.inr ⟨c, hc, ae, k2, k3, k4⟩
  · exact Or.inl ⟨by rw [k2]; decide, fun z _ => choI_n (by rw [k]; decide)⟩
  · exact Or.inl ⟨by rw [k2]; decide, fun z _ => choI_n (by rw [k]; decide)⟩
  · exact Or.inl ⟨by rw [k2]; decide, fun z _ => choI_n (by rw [k]; decide)⟩
theorem tak_n {f : Nat → Int32} {L a e : Nat} {u v : SG} {x y : Int32} (h : SM f L a e u v) (n : ¬ v 64 5 = 3 ∨ inI (v 64 7) x y = 0) : ok (Rtakes v x y) (fun p => p.1 = 0 ∧ WR u v p.2) := by
  obtain ⟨_, _, h8, tk, _⟩ := h
  have no : ok (Rtakes_27 v x y) (fun p => p.1 = 0 ∧ WR u v p.2) := by
    unfold Rtakes_27
    exact ok_b (ends_w h8 tk) (fun w hw => ok_s ⟨rfl, hw⟩)
  unfold Rtakes
  rw [if_pos h8]
  rcases n with n | n
  · rw [if_neg n]; exact no
  · refine ok_i (fun _ => ?_) (fun _ => no)
    rw [if_pos n]; exact no
/-- the reference has gone on by a word, the class's u2 too -/
def KY (f : Nat → Int32) (L a : Nat) (u2 v w : SG) : Prop := (∃ a2 e2, a < a2 ∧ CB f L u2 ∧ RTt f L w ∧ w 64 8 = 0 ∧ TK L a2 e2 u2 w) ∧ (∀ c, c ≠ 64 → w c = v c) ∧ ∀ j, (j < 3 ∨ 8 ≤ j) → w 64 j = v 64 j
theorem tak_y {f : Nat → Int32} {L a e : Nat} {u v u1 : SG} {x y : Int32} (h : SM f L a e u v) (ae : a < e) (h5 : v 64 5 = 3) (hi : ¬ inI (v 64 7) x y = 0) (e6 : u1 43 6 = u 43 6) (e9 : u1 43 9 = u 43 9) (e54 : u1 54 = u 54) : ok (Rtakes v x y) (fun p => p.1 = v 64 7 ∧ KY f L a (advS u1) v p.2) := by
  obtain ⟨hc, hr, h8, tk, hf⟩ := h
  have hL := hr.2.1
  have hl := tk.2.2.2.2.1
  have c := CB_of hc e6 e9 e54
  have ee : en u1 = e := by unfold en; rw [e9, tk.2.1, nI_clamp (by omega)]
  obtain ⟨c1, c2, c3, c4⟩ := adv_c c
  rw [ee] at c2
  unfold Rtakes
  rw [if_pos h8, if_pos h5, if_neg hi]
  refine ok_b (adv_r hr tk.2.2.2.1 hl) (fun w hw => ok_s ⟨rfl, ?_, ?_, ?_⟩)
  · have hw2 := hw
    obtain ⟨_, _, _, _, ax, _⟩ := hw2
    obtain ⟨a2, e2, ha, tk2⟩ := tok_2 c1 hr c2 hw
    exact ⟨a2, e2, by omega, c1, AX_RTt ax hr, (ax.2.1 8 (by omega)).trans h8, tk2⟩
  · obtain ⟨_, _, _, _, ax, _⟩ := hw; exact ax.2.2
  · obtain ⟨_, _, _, _, ax, _⟩ := hw; exact ax.2.1
/-! how many lines there may be -/
/-- what counting a line does to the class -/
def cntS (u : SG) (so : Int32) : SG := if ((u 43 10) + 1) ≤ (mosI so) then up u 43 10 ((u 43 10) + 1) else notS (up u 43 10 ((u 43 10) + 1)) 3 (u 43 8)
theorem cou_e {u : SG} {so line : Int32} (h : ¬ so = 0 ∨ line = 0) : couS u so line = cntS u so := by
  unfold couS cntS
  by_cases c : so = 0
  · rw [if_pos c, if_pos (h.resolve_left (fun n => n c))]
  · rw [if_neg c]
theorem cou_n {u : SG} {so line : Int32} (h : so = 0) (h2 : ¬ line = 0) : couS u so line = u := by
  unfold couS
  rw [if_pos h, if_neg h2]
theorem cnt_f {u : SG} {so : Int32} : (∀ c, c ≠ 43 → cntS u so c = u c) ∧ (∀ j, j ≠ 2 → j ≠ 3 → j ≠ 10 → cntS u so 43 j = u 43 j) ∧ cntS u so 43 10 = u 43 10 + 1 := by
  have n := notS_n (s := up u 43 10 (u 43 10 + 1)) (x := 3) (y := u 43 8)
  unfold cntS
  split
  · exact ⟨fun c hc => up_n hc, fun j _ _ h10 => up_bn h10, up_a⟩
  · exact ⟨fun c hc => (n.1 c hc).trans (up_n hc), fun j h2 h3 h10 => (n.2 j h2 h3).trans (up_bn h10), (n.2 10 (by decide) (by decide)).trans up_a⟩
/-- the fault behind the count of a line at a, where the class may have one more -/
theorem lim_a {a b : Nat} {u v w : SG} {so : Int32} (h : FL a u v) (hb : a ≤ b) (e7 : w 65 7 = v 65 7) (e8 : w 65 8 = v 65 8) (z : v 65 7 = 0 → (u 43 10) + 1 ≤ mosI so) : FL b (cntS u so) w := by
  by_cases c : v 65 7 = 0
  · have q := z c
    refine FL_lo h hb ?_ ?_ e7 e8
    · unfold cntS; rw [if_pos q, up_bn (by decide)]
    · unfold cntS; rw [if_pos q, up_bn (by decide)]
  · have c2 : ¬ u 43 2 = 0 := fun q => c ((FL_0 h).1 q)
    refine FL_lo h hb ?_ ?_ e7 e8
    · unfold cntS notS
      split
      · rw [up_bn (by decide)]
      · rw [if_neg (by rw [up_bn (by decide)]; exact c2), if_neg (by decide), up_bn (by decide)]
    · unfold cntS notS
      split
      · rw [up_bn (by decide)]
      · rw [if_neg (by rw [up_bn (by decide)]; exact c2), if_neg (by decide), up_bn (by decide)]
/-- .. and where the reference has one more -/
theorem lim_b {a b : Nat} {u v w : SG} {so : Int32} (h : FL a u v) (hb : a < b) (hl : a ≤ 600) (e8a : u 43 8 = nI a) (w8 : w 64 8 = 0) (e7 : w 65 7 = v 65 7) (e8 : w 65 8 = v 65 8) (z : v 65 7 = 0 → ¬ (u 43 10) + 1 ≤ mosI so) : ok (Ralso w 3 (nI a)) (fun x => FL b (cntS u so) x ∧ ¬ x 65 7 = 0 ∧ (∀ c, c ≠ 65 → x c = w c) ∧ ∀ j, j ≠ 7 → j ≠ 8 → x 65 j = w 65 j) := by
  by_cases c : v 65 7 = 0
  · have q := z c
    have fl : FL a (up u 43 10 (u 43 10 + 1)) w := FL_lo h (Nat.le_refl a) (up_bn (by decide)) (up_bn (by decide)) e7 e8
    refine ok_w (FL_note (Or.inr rfl) fl hb w8 hl) (fun x hx => ⟨?_, hx.2⟩)
    have e : cntS u so = notS (up u 43 10 (u 43 10 + 1)) 3 (nI a) := by unfold cntS; rw [if_neg q, e8a]
    rw [e]; exact hx.1
  · have fb := lim_a (so := so) (w := w) h (Nat.le_of_lt hb) e7 e8 (fun k => absurd k c)
    have h2 := h
    rcases h2 with ⟨_, k, _, _⟩ | ⟨k, p, hk, h1, h2, h3, h4, h5⟩
    · exact absurd k c
    · have ex : Ralso w 3 (nI a) = some w := by
        unfold Ralso
        rw [if_pos w8, rd_nI (x := 7) (e := 7) rfl (by decide) (by decide)]
        show (if w 65 7 = 0 then Ralso_51 w 3 (nI a) else _) = _
        rw [if_neg (by rw [e7]; exact c), rd_nI (x := 8) (e := 8) rfl (by decide) (by decide)]
        show (if w 65 8 < nI a then some w else _) = _
        rw [if_pos (by rw [e8, h4]; exact nI_lt2 h5 (by omega))]
      exact ⟨w, ex, fb, by rw [e7]; exact c, fun _ _ => rfl, fun _ _ _ => rfl⟩
end XTG
end
section
section XTH
variable {sc : Nat × (Nat → Int32)} {d : Nat} {K : List KD} {r q t a B m : Nat} {w : EW}
/-! a line, step by step: what holds if the reference answers -/
def pc {α : Type} (o : Option α) (P : α → Prop) : Prop := ∀ a, o = some a → P a
theorem pc_ok {α : Type} {o : Option α} {P : α → Prop} (h : ok o P) : pc o P := by
  obtain ⟨a, ha, hp⟩ := h
  intro b hb
  rw [ha] at hb; cases hb; exact hp
theorem pc_b {α β : Type} {o : Option α} {f : α → Option β} {Q : α → Prop} {P : β → Prop} (h : pc o Q) (k : ∀ a, Q a → pc (f a) P) : pc (o.bind f) P := by
  intro b hb
  cases o with
  | none => cases hb
  | some a => exact k a (h a rfl) b hb
theorem pc_s {α : Type} {a : α} {P : α → Prop} (h : P a) : pc (some a) P := by
  intro b hb
  cases hb; exact h
theorem pc_i {α : Type} {c : Prop} [Decidable c] {a b : Option α} {P : α → Prop} (h1 : c → pc a P) (h2 : ¬ c → pc b P) : pc (if c then a else b) P := by
  by_cases e : c
  · rw [if_pos e]; exact h1 e
  · rw [if_neg e]; exact h2 e
theorem pc_w {α : Type} {o : Option α} {Q P : α → Prop} (h : pc o Q) (k : ∀ a, Q a → P a) : pc o P := fun a ha => k a (h a ha)
theorem pc_rd {s : SG} {k n : Nat} {x : Int32} {β : Type} {f : Int32 → Option β} {P : β → Prop} (h : ∀ y, pc (f y) P) : pc ((rdI s k n x).bind f) P :=
  pc_b (Q := fun _ => True) (fun _ _ => trivial) (fun y _ => h y)
theorem pc_rdv {s : SG} {k n e : Nat} {x : Int32} {β : Type} {f : Int32 → Option β} {P : β → Prop} (hx : x = nI e) (he : e < n) (hn : n < 2 ^ 31) (h : pc (f (s k e)) P) : pc ((rdI s k n x).bind f) P := by
  rw [rd_nI hx he hn]; exact h
theorem pc_wrv {s : SG} {k n e : Nat} {x v : Int32} {β : Type} {f : SG → Option β} {P : β → Prop} (hx : x = nI e) (he : e < n) (hn : n < 2 ^ 31) (h : pc (f (up s k e v)) P) : pc ((wrI s k n x v).bind f) P := by
  rw [wr_nI hx he hn]; exact h
theorem pc_wr {s : SG} {k n : Nat} {x v : Int32} {β : Type} {f : SG → Option β} {P : β → Prop} (h : ∀ j, pc (f (up s k j v)) P) : pc ((wrI s k n x v).bind f) P := by
  refine pc_b (Q := fun s2 => ∃ j, s2 = up s k j v) (fun s2 hs => ?_) (fun s2 hs => ?_)
  · unfold wrI at hs
    cases hx : xvb x n with
    | false => rw [hx] at hs; cases hs
    | true => rw [hx] at hs; cases hs; exact ⟨_, rfl⟩
  · obtain ⟨j, rfl⟩ := hs; exact h j
/-- the reference has met a fault of grammar where the class's u stands, and does nothing more -/
def WE (u w : SG) : Prop := ¬ w 64 8 = 0 ∧ w 65 7 = 1 ∧ w 65 8 = u 43 8
theorem WE_of {u v w : SG} (h : WR u v w) : WE u w := ⟨by rw [h.1]; decide, h.2.1, h.2.2.1⟩
theorem we_67 {u v : SG} {j : Nat} {x : Int32} (h : WE u v) : WE u (up v 67 j x) := ⟨by rw [up_n (by decide)]; exact h.1, by rw [up_n (by decide)]; exact h.2.1, by rw [up_n (by decide)]; exact h.2.2⟩
theorem we_649 {u v : SG} {x : Int32} (h : WE u v) : WE u (up v 64 9 x) := ⟨by rw [up_bn (by decide)]; exact h.1, by rw [up_n (by decide)]; exact h.2.1, by rw [up_n (by decide)]; exact h.2.2⟩
section WX
variable {u v : SG} {β : Type} {P : β → Prop}
theorem we_num {x y : Int32} {k : Int32 × SG → Option β} (h : WE u v) (g : ∀ z, pc (k (z, v)) P) : pc ((Rnumbered v x y).bind k) P := by
  rw [wr_num h.1]; exact g x
theorem we_tak {x y : Int32} {k : Int32 × SG → Option β} (h : WE u v) (g : ∀ z, pc (k (z, v)) P) : pc ((Rtakes v x y).bind k) P := by
  rw [wr_tak h.1]; exact g 0
theorem we_kin {k : Int32 × SG → Option β} (h : WE u v) (g : ∀ z, pc (k (z, v)) P) : pc ((RkindTold v).bind k) P := by
  unfold RkindTold
  rw [wr_tak h.1]; exact g _
theorem we_sea {k : Int32 × SG → Option β} (h : WE u v) (g : ∀ z, pc (k (z, v)) P) : pc ((RseasonTold v).bind k) P := by
  unfold RseasonTold
  rw [wr_tak h.1]; exact g _
theorem we_sem {k : SG → Option β} (h : WE u v) (g : pc (k v) P) : pc ((RendsLine v).bind k) P := by
  rw [wr_sem h.1]; exact g
theorem we_als {x y : Int32} {k : SG → Option β} (h : WE u v) (g : pc (k v) P) : pc ((Ralso v x y).bind k) P := by
  rw [wr_also h.1]; exact g
theorem we_min {k : Int32 × SG → Option β} (h : WE u v) (g : ∀ z w, WE u w → pc (k (z, w)) P) : pc ((RministerTold v).bind k) P := by
  unfold RministerTold
  rw [wr_num h.1]
  show pc ((if (0 : Int32) ≤ v 64 9 then RministerTold_24 v 0 (v 64 9) else RministerTold_24 v 0 0).bind k) P
  unfold RministerTold_24
  split
  · exact g _ _ (we_649 h)
  · exact g _ _ (we_649 h)
theorem we_add {x1 x2 x3 x4 x5 x6 : Int32} {k : SG → Option β} (h : WE u v) (g : ∀ w, WE u w → pc (k w) P) : pc ((Radds v x1 x2 x3 x4 x5 x6).bind k) P := by
  refine pc_b (Q := fun w => WE u w) ?_ (fun w hw => g w hw)
  unfold Radds
  refine pc_rd (fun y => pc_i (fun _ => pc_rd (fun y2 => ?_)) (fun _ => pc_s h))
  exact pc_wr (fun j1 => pc_wr (fun j2 => pc_wr (fun j3 => pc_wr (fun j4 => pc_wr (fun j5 => pc_rd (fun y3 => pc_wr (fun j6 => pc_s (we_67 (we_67 (we_67 (we_67 (we_67 (we_67 h))))))))))))) 
theorem we_wri {x y : Int32} {n : Nat} {k : SG → Option β} (h : WE u v) (g : ∀ w, WE u w → pc (k w) P) : pc ((wrI v 67 n x y).bind k) P :=
  pc_wr (fun _ => g _ (we_67 h))
end WX
/-- the end of a line: it goes on, with Q, or there is a fault of grammar -/
def LE (Q : SG → SG → Prop) (rp : Int32 × SG) (w : SG) : Prop := (rp.1 = 1 ∧ Q rp.2 w) ∨ (rp.1 = 0 ∧ ¬ w 64 8 = 0 ∧ w 65 7 = 1 ∧ rp.2 43 2 = 1 ∧ rp.2 43 3 = w 65 8)
theorem LE_w {Q : SG → SG → Prop} {u w : SG} (h : WE u w) : LE Q (refP u) w := by
  have e2 : (refP u).2 43 2 = 1 := by
    show notS u 1 (u 43 8) 43 2 = 1
    unfold notS
    split
    · rw [up_bn (by decide), up_a]
    · rw [if_pos rfl, up_bn (by decide), up_a]
  have e3 : (refP u).2 43 3 = u 43 8 := by
    show notS u 1 (u 43 8) 43 3 = u 43 8
    unfold notS
    split
    · rw [up_a]
    · rw [if_pos rfl, up_a]
  exact Or.inr ⟨rfl, h.1, h.2.1, e2, by rw [e3, h.2.2]⟩
section LX
variable {f : Nat → Int32} {L a e part : Nat} {u v : SG} {so line : Int32} {l : List Int32} {Q : SG → SG → Prop}
/-- a number, then the rest -/
theorem LX_num {lo hi : Nat} {g : Int32} {k : Int32 × SG → Option SG} (h : SM f L a e u v) (hp : part < 5) (hlo : leaO g = nI lo) (hhi : mosO g = nI hi) (n102 : ¬ g = 102) (hh : hi ≤ 99) (hl : lo ≤ hi) (n59 : ¬ g = 59) (n105 : ¬ g = 105) (he : ¬ isEI (choZ g) = 0)
    (g1 : ∀ (u2 : SG) (p : Int32 × SG) (a2 e2 : Nat) (x : Int32), a < a2 → SM f L a2 e2 u2 p.2 → FRc u u2 → u2 55 = upd (u 55) part x → FRr v p.2 → (p.2 65 7 = 0 → v 65 7 = 0 ∧ x = p.1) → NB p.1 hi → pc (k p) (fun w => LE Q (rlC so line l u2 (part + 1)) w))
    (g2 : ∀ z w, WE u w → pc (k (z, w)) (fun w => WE u w)) : pc ((Rnumbered v (nI lo) (nI hi)).bind k) (fun w => LE Q (rlC so line (g :: l) u part) w) := by
  refine pc_b (pc_ok (rea_s h hp hlo hhi n102 hh hl)) (fun p hno => ?_)
  rw [rlC, rpa_n n59 n105 he]
  rcases hno with ⟨r1, a2, e2, x, ha, sm, frc, f55, frr, hx, nb⟩ | ⟨r1, r2, wr⟩
  · rw [if_neg (by rw [r1]; decide)]
    exact g1 _ p a2 e2 x ha sm frc f55 frr hx nb
  · rw [if_pos r1, r2]
    exact fun w hw => LE_w (g2 p.1 p.2 (WE_of wr) w hw)
/-- a word of a list, then the rest -/
theorem LX_wor {z lo hi : Nat} {g : Int32} {k : Int32 × SG → Option SG} (h : SM f L a e u v) (hp : part < 5) (hz : z ∈ ZS) (ok_ : zOK z lo hi = true) (hh : hi ≤ 32) (h1 : 1 ≤ lo) (hlo : lo ≤ hi) (hg : ∀ s : SG, rpaP s g (nI part) = cwP s z part)
    (g1 : ∀ (u2 w2 : SG) (a2 e2 j : Nat), a < a2 → j ≤ hi - lo → SM f L a2 e2 u2 w2 → FRc u u2 → u2 55 = upd (u 55) part (nI j) → FRr v w2 → w2 65 = v 65 → pc (k (nI (lo + j), w2)) (fun w => LE Q (rlC so line l u2 (part + 1)) w))
    (g2 : ∀ z w, WE u w → pc (k (z, w)) (fun w => WE u w)) : pc ((Rtakes v (nI lo) (nI hi)).bind k) (fun w => LE Q (rlC so line (g :: l) u part) w) := by
  refine pc_b (pc_ok (wor_s h hp hz ok_ hh h1 hlo)) (fun p hno => ?_)
  rw [rlC, hg]
  rcases hno with ⟨r1, a2, e2, j, ha, hj, sm, frc, f55, frr, e65, ep⟩ | ⟨r1, r2, r3, wr⟩
  · rw [if_neg (by rw [r1]; decide)]
    have := g1 _ p.2 a2 e2 j ha hj sm frc f55 frr e65
    rw [← ep] at this; exact this
  · rw [if_pos r1, r2]
    exact fun w hw => LE_w (g2 p.1 p.2 (WE_of wr) w hw)
/-- the end of a line, then nothing -/
theorem LX_sem {k : SG → Option SG} (h : SM f L a e u v)
    (g1 : ∀ (u2 w2 : SG) (a2 e2 : Nat), a < a2 → SM f L a2 e2 u2 w2 → FRc u u2 → u2 55 = u 55 → FRr v w2 → w2 65 = v 65 → pc (k w2) (fun w => LE Q (rlC so line l u2 (part + 1)) w))
    (g2 : ∀ w, WE u w → pc (k w) (fun w => WE u w)) : pc ((RendsLine v).bind k) (fun w => LE Q (rlC so line (59 :: l) u part) w) := by
  refine pc_b (pc_ok (sem_s h)) (fun p hno => ?_)
  rw [rlC, rpa_s]
  rcases hno with ⟨r1, a2, e2, ha, sm, frc, f55, frr, e65⟩ | ⟨r1, r2, wr⟩
  · rw [if_neg (by rw [r1]; decide)]
    exact g1 _ p a2 e2 ha sm frc f55 frr e65
  · rw [if_pos r1, r2]
    exact fun w hw => LE_w (g2 p (WE_of wr) w hw)
end LX
end XTH
end
