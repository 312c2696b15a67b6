section XTA
variable {sc : Nat × (Nat → Int32)} {d : Nat} {K : List KD} {r q t a B m : Nat} {w : EW}
/-! tokens of bytes, on both sides -/
/-- from j on, at most n further: the first byte that is no blank, no letter, no digit -/
def pB (f : Nat → Int32) : Nat → Nat → Nat
  | 0, j => j
  | n + 1, j => if isb_I (f j) = 0 then j else pB f n (j + 1)
def pL (f : Nat → Int32) : Nat → Nat → Nat
  | 0, j => j
  | n + 1, j => if isl_I (f j) = 0 then j else pL f n (j + 1)
def pD (f : Nat → Int32) : Nat → Nat → Nat
  | 0, j => j
  | n + 1, j => if isd_I (f j) = 0 then j else pD f n (j + 1)
theorem pB_le {f : Nat → Int32} : ∀ (n j : Nat), j ≤ pB f n j ∧ pB f n j ≤ j + n := by
  intro n
  induction n with
  | zero => intro j; rw [pB]; omega
  | succ n ih =>
    intro j
    rw [pB]
    split
    · omega
    · have := ih (j + 1); omega
theorem pL_le {f : Nat → Int32} : ∀ (n j : Nat), j ≤ pL f n j ∧ pL f n j ≤ j + n := by
  intro n
  induction n with
  | zero => intro j; rw [pL]; omega
  | succ n ih =>
    intro j
    rw [pL]
    split
    · omega
    · have := ih (j + 1); omega
theorem pD_le {f : Nat → Int32} : ∀ (n j : Nat), j ≤ pD f n j ∧ pD f n j ≤ j + n := by
  intro n
  induction n with
  | zero => intro j; rw [pD]; omega
  | succ n ih =>
    intro j
    rw [pD]
    split
    · omega
    · have := ih (j + 1); omega
theorem pL_in {f : Nat → Int32} : ∀ (n j i : Nat), j ≤ i → i < pL f n j → ¬ isl_I (f i) = 0 := by
  intro n
  induction n with
  | zero => intro j i h1 h2; rw [pL] at h2; omega
  | succ n ih =>
    intro j i h1 h2
    rw [pL] at h2
    split at h2
    · omega
    · rename_i c
      by_cases e : i = j
      · subst e; exact c
      · exact ih (j + 1) i (by omega) h2
/-! the class's side -/
/-- the class reads the bytes f, L of them -/
def CB (f : Nat → Int32) (L : Nat) (u : SG) : Prop := RA u ∧ ln u = L ∧ ∀ j, j < L → tok u j = f j
theorem skB_p {f : Nat → Int32} {L : Nat} {u : SG} (h : ∀ j, j < L → tok u j = f j) : ∀ (n j : Nat), j + n ≤ L → skB u n j = pB f n j := by
  intro n
  induction n with
  | zero => intro j _; rfl
  | succ n ih => intro j hj; rw [skB, pB, h j (by omega), ih (j + 1) (by omega)]
theorem skL_p {f : Nat → Int32} {L : Nat} {u : SG} (h : ∀ j, j < L → tok u j = f j) : ∀ (n j : Nat), j + n ≤ L → skL u n j = pL f n j := by
  intro n
  induction n with
  | zero => intro j _; rfl
  | succ n ih => intro j hj; rw [skL, pL, h j (by omega), ih (j + 1) (by omega)]
theorem skD_p {f : Nat → Int32} {L : Nat} {u : SG} (h : ∀ j, j < L → tok u j = f j) : ∀ (n j : Nat), j + n ≤ L → skD u n j = pD f n j := by
  intro n
  induction n with
  | zero => intro j _; rfl
  | succ n ih => intro j hj; rw [skD, pD, h j (by omega), ih (j + 1) (by omega)]
/-- what kind of token lies from a to e, as the class says it -/
def KC (f : Nat → Int32) (L a e : Nat) (k : Int32) : Prop := (a = L ∧ e = L ∧ k = 0) ∨ (a < L ∧ ¬ isl_I (f a) = 0 ∧ e = pL f (L - a) a ∧ k = 1) ∨ (a < L ∧ isl_I (f a) = 0 ∧ ¬ isd_I (f a) = 0 ∧ e = pD f (L - a) a ∧ k = if 2 < e - a then 4 else 2) ∨ (a < L ∧ isl_I (f a) = 0 ∧ isd_I (f a) = 0 ∧ e = a + 1 ∧ k = if f a = 59 then 3 else 4)
/-- the class's token, after it went on from p -/
def CT (f : Nat → Int32) (L p : Nat) (u : SG) : Prop := ∃ e, e ≤ L ∧ pB f (L - p) p ≤ e ∧ u 43 8 = nI (pB f (L - p) p) ∧ u 43 9 = nI e ∧ KC f L (pB f (L - p) p) e (u 43 7)
theorem adv_c {f : Nat → Int32} {L : Nat} {u : SG} (h : CB f L u) : CB f L (advS u) ∧ CT f L (en u) (advS u) ∧ (∀ c, c ≠ 43 → advS u c = u c) ∧ ∀ j, j ≠ 7 → j ≠ 8 → j ≠ 9 → advS u 43 j = u 43 j := by
  obtain ⟨ra, hl, hb⟩ := h
  have hL := ra.2.1
  have hE := ra.2.2.2
  rw [hl] at hL hE
  have eb : bg u = pB f (L - en u) (en u) := by unfold bg; rw [hl]; exact skB_p hb _ _ (by omega)
  have lb := pB_le (f := f) (L - en u) (en u)
  have fr : (∀ c, c ≠ 43 → advS u c = u c) ∧ ∀ j, j ≠ 7 → j ≠ 8 → j ≠ 9 → advS u 43 j = u 43 j := by
    unfold advS adv1
    refine ⟨fun c hc => ?_, fun j h7 h8 h9 => ?_⟩
    · repeat' split
      all_goals simp only [up_n hc]
    · repeat' split
      all_goals simp only [up_bn h7, up_bn h8, up_bn h9]
  have ct : CT f L (en u) (advS u) := by
    unfold CT
    rw [← eb]
    rw [← eb] at lb
    unfold advS adv1
    rw [hl]
    generalize bg u = b at lb ⊢
    by_cases c0 : b < L
    · have et := hb b c0
      have lt : nI b < nI L := nI_lt2 c0 (by omega)
      rw [if_pos lt, et]
      by_cases c1 : isl_I (f b) = 0
      · rw [if_pos c1]
        by_cases c2 : isd_I (f b) = 0
        · rw [if_pos c2]
          refine ⟨b + 1, by omega, by omega, ?_, ?_, Or.inr (Or.inr (Or.inr ⟨c0, c1, c2, rfl, ?_⟩))⟩
          · simp (disch := decide) only [up_a, up_bn]
          · rw [up_a, nI_succ]
          · simp (disch := decide) only [up_a, up_bn]
        · rw [if_neg c2]
          have eD := skD_p (u := u) hb (L - b) b (by omega)
          have lD := pD_le (f := f) (L - b) b
          rw [eD]
          refine ⟨pD f (L - b) b, by omega, by omega, ?_, ?_, Or.inr (Or.inr (Or.inl ⟨c0, c1, c2, rfl, ?_⟩))⟩
          · simp (disch := decide) only [up_a, up_bn]
          · simp (disch := decide) only [up_a, up_bn]
          · rw [up_a, nI_subn (by omega)]
            by_cases q : 2 < pD f (L - b) b - b
            · rw [if_pos q, if_pos (show (2 : Int32) < nI (pD f (L - b) b - b) from nI_lt2 (a := 2) q (by omega))]
            · rw [if_neg q, if_neg (show ¬ (2 : Int32) < nI (pD f (L - b) b - b) from Int32.not_lt.mpr (nI_le2 (b := 2) (by omega) (by omega)))]
      · rw [if_neg c1]
        have eL := skL_p (u := u) hb (L - b) b (by omega)
        have lL := pL_le (f := f) (L - b) b
        rw [eL]
        refine ⟨pL f (L - b) b, by omega, by omega, ?_, ?_, Or.inr (Or.inl ⟨c0, c1, rfl, ?_⟩)⟩
        · simp (disch := decide) only [up_a, up_bn]
        · rw [up_a]
        · simp (disch := decide) only [up_a, up_bn]
    · have bL : b = L := by omega
      rw [if_neg (Int32.not_lt.mpr (nI_le2 (by omega) (by omega)))]
      refine ⟨L, by omega, by omega, ?_, ?_, Or.inl ⟨bL, rfl, ?_⟩⟩
      · simp (disch := decide) only [up_a, up_bn]
      · rw [bL]; simp (disch := decide) only [up_a, up_bn]
      · rw [up_a]
  refine ⟨?_, ct, fr⟩
  obtain ⟨e, he, _, h8, h9, _⟩ := ct
  have e6 : advS u 43 6 = u 43 6 := fr.2 6 (by decide) (by decide) (by decide)
  have l6 : ln (advS u) = L := by unfold ln; rw [e6]; exact hl
  have e9 : en (advS u) = e := by unfold en; rw [h9, nI_clamp (by omega)]
  refine ⟨⟨by rw [l6, e6, ra.1, hl], by omega, by rw [e9]; exact h9, by omega⟩, l6, fun j hj => ?_⟩
  unfold tok
  rw [fr.1 54 (by decide)]; exact hb j hj
end XTA
